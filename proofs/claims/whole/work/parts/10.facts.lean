theorem mw_in0 : ∀ w ∈ u_ws RX0 TX0 9, w ∈ TB := by
  intro w hw
  obtain ⟨k, hk, rfl⟩ := List.mem_map.mp hw
  have hk := List.mem_range.mp hk
  rcases (show k = 0 ∨ k = 1 ∨ k = 2 ∨ k = 3 ∨ k = 4 ∨ k = 5 ∨ k = 6 ∨ k = 7 ∨ k = 8 by omega) with rfl | rfl | rfl | rfl | rfl | rfl | rfl | rfl | rfl
  · exact tb_in 170 (by decide +kernel) (by decide +kernel)
  · exact tb_in 172 (by decide +kernel) (by decide +kernel)
  · exact tb_in 174 (by decide +kernel) (by decide +kernel)
  · exact tb_in 176 (by decide +kernel) (by decide +kernel)
  · exact tb_in 178 (by decide +kernel) (by decide +kernel)
  · exact tb_in 180 (by decide +kernel) (by decide +kernel)
  · exact tb_in 182 (by decide +kernel) (by decide +kernel)
  · exact tb_in 184 (by decide +kernel) (by decide +kernel)
  · exact tb_in 186 (by decide +kernel) (by decide +kernel)
theorem mw_df0 : ∀ k, k < 9 → defaultValue (tyX0 k) = mw_dv (mw_kd (TX0 k).2.2.1) := by
  intro k hk
  rcases (show k = 0 ∨ k = 1 ∨ k = 2 ∨ k = 3 ∨ k = 4 ∨ k = 5 ∨ k = 6 ∨ k = 7 ∨ k = 8 by omega) with rfl | rfl | rfl | rfl | rfl | rfl | rfl | rfl | rfl <;> rfl
theorem mw_dc0 : ∀ k, k < 9 → (TX0 k).1 = RX0 := by decide +kernel
theorem mw_Cl0 : mw_Cl 0 RX0 TX0 9 := ⟨rfl, mw_in0, ⟨tyX0, tyX0_ok⟩, nmX0, mw_dc0⟩
theorem mw_in1 : ∀ w ∈ u_ws RX1 TX1 2, w ∈ TB := by
  intro w hw
  obtain ⟨k, hk, rfl⟩ := List.mem_map.mp hw
  have hk := List.mem_range.mp hk
  rcases (show k = 0 ∨ k = 1 by omega) with rfl | rfl
  · exact tb_in 321 (by decide +kernel) (by decide +kernel)
  · exact tb_in 323 (by decide +kernel) (by decide +kernel)
theorem mw_df1 : ∀ k, k < 2 → defaultValue (tyX1 k) = mw_dv (mw_kd (TX1 k).2.2.1) := by
  intro k hk
  rcases (show k = 0 ∨ k = 1 by omega) with rfl | rfl <;> rfl
theorem mw_dc1 : ∀ k, k < 2 → (TX1 k).1 = RX1 := by decide +kernel
theorem mw_Cl1 : mw_Cl 1 RX1 TX1 2 := ⟨rfl, mw_in1, ⟨tyX1, tyX1_ok⟩, nmX1, mw_dc1⟩
theorem mw_in2 : ∀ w ∈ u_ws RX2 TX2 3, w ∈ TB := by
  intro w hw
  obtain ⟨k, hk, rfl⟩ := List.mem_map.mp hw
  have hk := List.mem_range.mp hk
  rcases (show k = 0 ∨ k = 1 ∨ k = 2 by omega) with rfl | rfl | rfl
  · exact tb_in 306 (by decide +kernel) (by decide +kernel)
  · exact tb_in 308 (by decide +kernel) (by decide +kernel)
  · exact tb_in 310 (by decide +kernel) (by decide +kernel)
theorem mw_df2 : ∀ k, k < 3 → defaultValue (tyX2 k) = mw_dv (mw_kd (TX2 k).2.2.1) := by
  intro k hk
  rcases (show k = 0 ∨ k = 1 ∨ k = 2 by omega) with rfl | rfl | rfl <;> rfl
theorem mw_dc2 : ∀ k, k < 3 → (TX2 k).1 = RX2 := by decide +kernel
theorem mw_Cl2 : mw_Cl 2 RX2 TX2 3 := ⟨rfl, mw_in2, ⟨tyX2, tyX2_ok⟩, nmX2, mw_dc2⟩
theorem mw_in3 : ∀ w ∈ u_ws RX3 TX3 5, w ∈ TB := by
  intro w hw
  obtain ⟨k, hk, rfl⟩ := List.mem_map.mp hw
  have hk := List.mem_range.mp hk
  rcases (show k = 0 ∨ k = 1 ∨ k = 2 ∨ k = 3 ∨ k = 4 by omega) with rfl | rfl | rfl | rfl | rfl
  · exact tb_in 110 (by decide +kernel) (by decide +kernel)
  · exact tb_in 112 (by decide +kernel) (by decide +kernel)
  · exact tb_in 114 (by decide +kernel) (by decide +kernel)
  · exact tb_in 116 (by decide +kernel) (by decide +kernel)
  · exact tb_in 118 (by decide +kernel) (by decide +kernel)
theorem mw_df3 : ∀ k, k < 5 → defaultValue (tyX3 k) = mw_dv (mw_kd (TX3 k).2.2.1) := by
  intro k hk
  rcases (show k = 0 ∨ k = 1 ∨ k = 2 ∨ k = 3 ∨ k = 4 by omega) with rfl | rfl | rfl | rfl | rfl <;> rfl
theorem mw_dc3 : ∀ k, k < 5 → (TX3 k).1 = RX3 := by decide +kernel
theorem mw_Cl3 : mw_Cl 3 RX3 TX3 5 := ⟨rfl, mw_in3, ⟨tyX3, tyX3_ok⟩, nmX3, mw_dc3⟩
theorem mw_in4 : ∀ w ∈ u_ws RX4 TX4 4, w ∈ TB := by
  intro w hw
  obtain ⟨k, hk, rfl⟩ := List.mem_map.mp hw
  have hk := List.mem_range.mp hk
  rcases (show k = 0 ∨ k = 1 ∨ k = 2 ∨ k = 3 by omega) with rfl | rfl | rfl | rfl
  · exact tb_in 135 (by decide +kernel) (by decide +kernel)
  · exact tb_in 137 (by decide +kernel) (by decide +kernel)
  · exact tb_in 139 (by decide +kernel) (by decide +kernel)
  · exact tb_in 141 (by decide +kernel) (by decide +kernel)
theorem mw_df4 : ∀ k, k < 4 → defaultValue (tyX4 k) = mw_dv (mw_kd (TX4 k).2.2.1) := by
  intro k hk
  rcases (show k = 0 ∨ k = 1 ∨ k = 2 ∨ k = 3 by omega) with rfl | rfl | rfl | rfl <;> rfl
theorem mw_dc4 : ∀ k, k < 4 → (TX4 k).1 = RX4 := by decide +kernel
theorem mw_Cl4 : mw_Cl 4 RX4 TX4 4 := ⟨rfl, mw_in4, ⟨tyX4, tyX4_ok⟩, nmX4, mw_dc4⟩
theorem mw_in5 : ∀ w ∈ u_ws RX5 TX5 9, w ∈ TB := by
  intro w hw
  obtain ⟨k, hk, rfl⟩ := List.mem_map.mp hw
  have hk := List.mem_range.mp hk
  rcases (show k = 0 ∨ k = 1 ∨ k = 2 ∨ k = 3 ∨ k = 4 ∨ k = 5 ∨ k = 6 ∨ k = 7 ∨ k = 8 by omega) with rfl | rfl | rfl | rfl | rfl | rfl | rfl | rfl | rfl
  · exact tb_in 270 (by decide +kernel) (by decide +kernel)
  · exact tb_in 272 (by decide +kernel) (by decide +kernel)
  · exact tb_in 274 (by decide +kernel) (by decide +kernel)
  · exact tb_in 276 (by decide +kernel) (by decide +kernel)
  · exact tb_in 278 (by decide +kernel) (by decide +kernel)
  · exact tb_in 280 (by decide +kernel) (by decide +kernel)
  · exact tb_in 282 (by decide +kernel) (by decide +kernel)
  · exact tb_in 284 (by decide +kernel) (by decide +kernel)
  · exact tb_in 286 (by decide +kernel) (by decide +kernel)
theorem mw_df5 : ∀ k, k < 9 → defaultValue (tyX5 k) = mw_dv (mw_kd (TX5 k).2.2.1) := by
  intro k hk
  rcases (show k = 0 ∨ k = 1 ∨ k = 2 ∨ k = 3 ∨ k = 4 ∨ k = 5 ∨ k = 6 ∨ k = 7 ∨ k = 8 by omega) with rfl | rfl | rfl | rfl | rfl | rfl | rfl | rfl | rfl <;> rfl
theorem mw_dc5 : ∀ k, k < 9 → (TX5 k).1 = RX5 := by decide +kernel
theorem mw_Cl5 : mw_Cl 5 RX5 TX5 9 := ⟨rfl, mw_in5, ⟨tyX5, tyX5_ok⟩, nmX5, mw_dc5⟩
theorem mw_in6 : ∀ w ∈ u_ws RX6 TX6 13, w ∈ TB := by
  intro w hw
  obtain ⟨k, hk, rfl⟩ := List.mem_map.mp hw
  have hk := List.mem_range.mp hk
  rcases (show k = 0 ∨ k = 1 ∨ k = 2 ∨ k = 3 ∨ k = 4 ∨ k = 5 ∨ k = 6 ∨ k = 7 ∨ k = 8 ∨ k = 9 ∨ k = 10 ∨ k = 11 ∨ k = 12 by omega) with rfl | rfl | rfl | rfl | rfl | rfl | rfl | rfl | rfl | rfl | rfl | rfl | rfl
  · exact tb_in 223 (by decide +kernel) (by decide +kernel)
  · exact tb_in 225 (by decide +kernel) (by decide +kernel)
  · exact tb_in 227 (by decide +kernel) (by decide +kernel)
  · exact tb_in 229 (by decide +kernel) (by decide +kernel)
  · exact tb_in 231 (by decide +kernel) (by decide +kernel)
  · exact tb_in 233 (by decide +kernel) (by decide +kernel)
  · exact tb_in 235 (by decide +kernel) (by decide +kernel)
  · exact tb_in 237 (by decide +kernel) (by decide +kernel)
  · exact tb_in 239 (by decide +kernel) (by decide +kernel)
  · exact tb_in 241 (by decide +kernel) (by decide +kernel)
  · exact tb_in 243 (by decide +kernel) (by decide +kernel)
  · exact tb_in 245 (by decide +kernel) (by decide +kernel)
  · exact tb_in 247 (by decide +kernel) (by decide +kernel)
theorem mw_df6 : ∀ k, k < 13 → defaultValue (tyX6 k) = mw_dv (mw_kd (TX6 k).2.2.1) := by
  intro k hk
  rcases (show k = 0 ∨ k = 1 ∨ k = 2 ∨ k = 3 ∨ k = 4 ∨ k = 5 ∨ k = 6 ∨ k = 7 ∨ k = 8 ∨ k = 9 ∨ k = 10 ∨ k = 11 ∨ k = 12 by omega) with rfl | rfl | rfl | rfl | rfl | rfl | rfl | rfl | rfl | rfl | rfl | rfl | rfl <;> rfl
theorem mw_dc6 : ∀ k, k < 13 → (TX6 k).1 = RX6 := by decide +kernel
theorem mw_Cl6 : mw_Cl 6 RX6 TX6 13 := ⟨rfl, mw_in6, ⟨tyX6, tyX6_ok⟩, nmX6, mw_dc6⟩
theorem mw_in7 : ∀ w ∈ u_ws RX7 TX7 6, w ∈ TB := by
  intro w hw
  obtain ⟨k, hk, rfl⟩ := List.mem_map.mp hw
  have hk := List.mem_range.mp hk
  rcases (show k = 0 ∨ k = 1 ∨ k = 2 ∨ k = 3 ∨ k = 4 ∨ k = 5 by omega) with rfl | rfl | rfl | rfl | rfl | rfl
  · exact tb_in 332 (by decide +kernel) (by decide +kernel)
  · exact tb_in 334 (by decide +kernel) (by decide +kernel)
  · exact tb_in 336 (by decide +kernel) (by decide +kernel)
  · exact tb_in 338 (by decide +kernel) (by decide +kernel)
  · exact tb_in 340 (by decide +kernel) (by decide +kernel)
  · exact tb_in 342 (by decide +kernel) (by decide +kernel)
theorem mw_df7 : ∀ k, k < 6 → defaultValue (tyX7 k) = mw_dv (mw_kd (TX7 k).2.2.1) := by
  intro k hk
  rcases (show k = 0 ∨ k = 1 ∨ k = 2 ∨ k = 3 ∨ k = 4 ∨ k = 5 by omega) with rfl | rfl | rfl | rfl | rfl | rfl <;> rfl
theorem mw_dc7 : ∀ k, k < 6 → (TX7 k).1 = RX7 := by decide +kernel
theorem mw_Cl7 : mw_Cl 7 RX7 TX7 6 := ⟨rfl, mw_in7, ⟨tyX7, tyX7_ok⟩, nmX7, mw_dc7⟩
theorem mw_in8 : ∀ w ∈ u_ws RX8 TX8 14, w ∈ TB := by
  intro w hw
  obtain ⟨k, hk, rfl⟩ := List.mem_map.mp hw
  have hk := List.mem_range.mp hk
  rcases (show k = 0 ∨ k = 1 ∨ k = 2 ∨ k = 3 ∨ k = 4 ∨ k = 5 ∨ k = 6 ∨ k = 7 ∨ k = 8 ∨ k = 9 ∨ k = 10 ∨ k = 11 ∨ k = 12 ∨ k = 13 by omega) with rfl | rfl | rfl | rfl | rfl | rfl | rfl | rfl | rfl | rfl | rfl | rfl | rfl | rfl
  · exact tb_in 1043 (by decide +kernel) (by decide +kernel)
  · exact tb_in 1045 (by decide +kernel) (by decide +kernel)
  · exact tb_in 1047 (by decide +kernel) (by decide +kernel)
  · exact tb_in 1049 (by decide +kernel) (by decide +kernel)
  · exact tb_in 1051 (by decide +kernel) (by decide +kernel)
  · exact tb_in 1053 (by decide +kernel) (by decide +kernel)
  · exact tb_in 1055 (by decide +kernel) (by decide +kernel)
  · exact tb_in 1057 (by decide +kernel) (by decide +kernel)
  · exact tb_in 1059 (by decide +kernel) (by decide +kernel)
  · exact tb_in 1061 (by decide +kernel) (by decide +kernel)
  · exact tb_in 1063 (by decide +kernel) (by decide +kernel)
  · exact tb_in 1065 (by decide +kernel) (by decide +kernel)
  · exact tb_in 1067 (by decide +kernel) (by decide +kernel)
  · exact tb_in 1069 (by decide +kernel) (by decide +kernel)
theorem mw_df8 : ∀ k, k < 14 → defaultValue (tyX8 k) = mw_dv (mw_kd (TX8 k).2.2.1) := by
  intro k hk
  rcases (show k = 0 ∨ k = 1 ∨ k = 2 ∨ k = 3 ∨ k = 4 ∨ k = 5 ∨ k = 6 ∨ k = 7 ∨ k = 8 ∨ k = 9 ∨ k = 10 ∨ k = 11 ∨ k = 12 ∨ k = 13 by omega) with rfl | rfl | rfl | rfl | rfl | rfl | rfl | rfl | rfl | rfl | rfl | rfl | rfl | rfl <;> rfl
theorem mw_dc8 : ∀ k, k < 14 → (TX8 k).1 = RX8 := by decide +kernel
theorem mw_Cl8 : mw_Cl 8 RX8 TX8 14 := ⟨rfl, mw_in8, ⟨tyX8, tyX8_ok⟩, nmX8, mw_dc8⟩
set_option maxRecDepth 100000 in
theorem TW0 : lw_tbl[0]? = some (Cond.selects RX7 yX7_draft yX7_draft) ∧ goodWord (Cond.selects RX7 yX7_draft yX7_draft) = true ∧ lw_tbl[1]? = some (Cond.selects RX6 yX6_setPlace yX6_setPlace) ∧ goodWord (Cond.selects RX6 yX6_setPlace yX6_setPlace) = true ∧ lw_tbl[2]? = some (Cond.selects RX7 yX7_keepDraft yX7_keepDraft) ∧ goodWord (Cond.selects RX7 yX7_keepDraft yX7_keepDraft) = true ∧ lw_tbl[3]? = some (Cond.selects RX7 yX7_dropOldest yX7_dropOldest) ∧ goodWord (Cond.selects RX7 yX7_dropOldest yX7_dropOldest) = true := by decide +kernel
theorem tw_0 : Cond.selects RX7 yX7_draft yX7_draft ∈ TB := tb_in 0 TW0.1 TW0.2.1
theorem tw_1 : Cond.selects RX6 yX6_setPlace yX6_setPlace ∈ TB := tb_in 1 TW0.2.2.1 TW0.2.2.2.1
theorem tw_2 : Cond.selects RX7 yX7_keepDraft yX7_keepDraft ∈ TB := tb_in 2 TW0.2.2.2.2.1 TW0.2.2.2.2.2.1
theorem tw_3 : Cond.selects RX7 yX7_dropOldest yX7_dropOldest ∈ TB := tb_in 3 TW0.2.2.2.2.2.2.1 TW0.2.2.2.2.2.2.2
set_option maxRecDepth 100000 in
theorem TW1 : lw_tbl[4]? = some (Cond.selects RX7 yX7_mixInto yX7_mixInto) ∧ goodWord (Cond.selects RX7 yX7_mixInto yX7_mixInto) = true ∧ lw_tbl[5]? = some (Cond.selects RX7 yX7_learnDucking yX7_learnDucking) ∧ goodWord (Cond.selects RX7 yX7_learnDucking yX7_learnDucking) = true ∧ lw_tbl[6]? = some (Cond.selects RX5 yX5_hasClipWithin yX5_hasClipWithin) ∧ goodWord (Cond.selects RX5 yX5_hasClipWithin yX5_hasClipWithin) = true ∧ lw_tbl[7]? = some (Cond.selects RX5 yX5_firstCovering yX5_firstCovering) ∧ goodWord (Cond.selects RX5 yX5_firstCovering yX5_firstCovering) = true := by decide +kernel
theorem tw_4 : Cond.selects RX7 yX7_mixInto yX7_mixInto ∈ TB := tb_in 4 TW1.1 TW1.2.1
theorem tw_5 : Cond.selects RX7 yX7_learnDucking yX7_learnDucking ∈ TB := tb_in 5 TW1.2.2.1 TW1.2.2.2.1
theorem tw_6 : Cond.selects RX5 yX5_hasClipWithin yX5_hasClipWithin ∈ TB := tb_in 6 TW1.2.2.2.2.1 TW1.2.2.2.2.2.1
theorem tw_7 : Cond.selects RX5 yX5_firstCovering yX5_firstCovering ∈ TB := tb_in 7 TW1.2.2.2.2.2.2.1 TW1.2.2.2.2.2.2.2
set_option maxRecDepth 100000 in
theorem TW2 : lw_tbl[8]? = some (Cond.selects RX6 yX6_lastPointUpTo yX6_lastPointUpTo) ∧ goodWord (Cond.selects RX6 yX6_lastPointUpTo yX6_lastPointUpTo) = true ∧ lw_tbl[9]? = some (Cond.selects RX7 yX7_valueOfTrack yX7_valueOfTrack) ∧ goodWord (Cond.selects RX7 yX7_valueOfTrack yX7_valueOfTrack) = true ∧ lw_tbl[10]? = some (Cond.selects RX7 yX7_duckGainAt yX7_duckGainAt) ∧ goodWord (Cond.selects RX7 yX7_duckGainAt yX7_duckGainAt) = true ∧ lw_tbl[12]? = some (Cond.selects RX7 yX7_keepSound yX7_keepSound) ∧ goodWord (Cond.selects RX7 yX7_keepSound yX7_keepSound) = true := by decide +kernel
theorem tw_8 : Cond.selects RX6 yX6_lastPointUpTo yX6_lastPointUpTo ∈ TB := tb_in 8 TW2.1 TW2.2.1
theorem tw_9 : Cond.selects RX7 yX7_valueOfTrack yX7_valueOfTrack ∈ TB := tb_in 9 TW2.2.2.1 TW2.2.2.2.1
theorem tw_10 : Cond.selects RX7 yX7_duckGainAt yX7_duckGainAt ∈ TB := tb_in 10 TW2.2.2.2.2.1 TW2.2.2.2.2.2.1
theorem tw_12 : Cond.selects RX7 yX7_keepSound yX7_keepSound ∈ TB := tb_in 12 TW2.2.2.2.2.2.2.1 TW2.2.2.2.2.2.2.2
set_option maxRecDepth 100000 in
theorem TW3 : lw_tbl[13]? = some (Cond.selects RX7 yX7_forgetDucking yX7_forgetDucking) ∧ goodWord (Cond.selects RX7 yX7_forgetDucking yX7_forgetDucking) = true ∧ lw_tbl[14]? = some (Cond.selects RX7 yX7_checkRoomForClip yX7_checkRoomForClip) ∧ goodWord (Cond.selects RX7 yX7_checkRoomForClip yX7_checkRoomForClip) = true ∧ lw_tbl[15]? = some (Cond.selects RX5 yX5_swap yX5_swap) ∧ goodWord (Cond.selects RX5 yX5_swap yX5_swap) = true ∧ lw_tbl[16]? = some (Cond.selects RX7 yX7_checkClip yX7_checkClip) ∧ goodWord (Cond.selects RX7 yX7_checkClip yX7_checkClip) = true := by decide +kernel
theorem tw_13 : Cond.selects RX7 yX7_forgetDucking yX7_forgetDucking ∈ TB := tb_in 13 TW3.1 TW3.2.1
theorem tw_14 : Cond.selects RX7 yX7_checkRoomForClip yX7_checkRoomForClip ∈ TB := tb_in 14 TW3.2.2.1 TW3.2.2.2.1
theorem tw_15 : Cond.selects RX5 yX5_swap yX5_swap ∈ TB := tb_in 15 TW3.2.2.2.2.1 TW3.2.2.2.2.2.1
theorem tw_16 : Cond.selects RX7 yX7_checkClip yX7_checkClip ∈ TB := tb_in 16 TW3.2.2.2.2.2.2.1 TW3.2.2.2.2.2.2.2
set_option maxRecDepth 100000 in
theorem TW4 : lw_tbl[17]? = some (Cond.selects RX6 yX6_copyPlace yX6_copyPlace) ∧ goodWord (Cond.selects RX6 yX6_copyPlace yX6_copyPlace) = true ∧ lw_tbl[18]? = some (Cond.selects RX8 yX8_refusesChange yX8_refusesChange) ∧ goodWord (Cond.selects RX8 yX8_refusesChange yX8_refusesChange) = true ∧ lw_tbl[19]? = some (Cond.selects RX8 yX8_refuses yX8_refuses) ∧ goodWord (Cond.selects RX8 yX8_refuses yX8_refuses) = true ∧ lw_tbl[20]? = some (Cond.selects RX8 yX8_becomes yX8_becomes) ∧ goodWord (Cond.selects RX8 yX8_becomes yX8_becomes) = true := by decide +kernel
theorem tw_17 : Cond.selects RX6 yX6_copyPlace yX6_copyPlace ∈ TB := tb_in 17 TW4.1 TW4.2.1
theorem tw_18 : Cond.selects RX8 yX8_refusesChange yX8_refusesChange ∈ TB := tb_in 18 TW4.2.2.1 TW4.2.2.2.1
theorem tw_19 : Cond.selects RX8 yX8_refuses yX8_refuses ∈ TB := tb_in 19 TW4.2.2.2.2.1 TW4.2.2.2.2.2.1
theorem tw_20 : Cond.selects RX8 yX8_becomes yX8_becomes ∈ TB := tb_in 20 TW4.2.2.2.2.2.2.1 TW4.2.2.2.2.2.2.2
set_option maxRecDepth 100000 in
theorem TW5 : lw_tbl[21]? = some (Cond.selects RX8 yX8_hasSample yX8_hasSample) ∧ goodWord (Cond.selects RX8 yX8_hasSample yX8_hasSample) = true ∧ lw_tbl[22]? = some (Cond.selects RX8 yX8_sampleOf yX8_sampleOf) ∧ goodWord (Cond.selects RX8 yX8_sampleOf yX8_sampleOf) = true ∧ lw_tbl[23]? = some (Cond.selects RX8 yX8_tries yX8_tries) ∧ goodWord (Cond.selects RX8 yX8_tries yX8_tries) = true ∧ lw_tbl[24]? = some (Cond.selects RX8 yX8_set yX8_set) ∧ goodWord (Cond.selects RX8 yX8_set yX8_set) = true := by decide +kernel
theorem tw_21 : Cond.selects RX8 yX8_hasSample yX8_hasSample ∈ TB := tb_in 21 TW5.1 TW5.2.1
theorem tw_22 : Cond.selects RX8 yX8_sampleOf yX8_sampleOf ∈ TB := tb_in 22 TW5.2.2.1 TW5.2.2.2.1
theorem tw_23 : Cond.selects RX8 yX8_tries yX8_tries ∈ TB := tb_in 23 TW5.2.2.2.2.1 TW5.2.2.2.2.2.1
theorem tw_24 : Cond.selects RX8 yX8_set yX8_set ∈ TB := tb_in 24 TW5.2.2.2.2.2.2.1 TW5.2.2.2.2.2.2.2
set_option maxRecDepth 100000 in
theorem TW6 : lw_tbl[25]? = some (Cond.selects RX8 yX8_settles yX8_settles) ∧ goodWord (Cond.selects RX8 yX8_settles yX8_settles) = true ∧ lw_tbl[26]? = some (Cond.selects RX8 yX8_of yX8_of) ∧ goodWord (Cond.selects RX8 yX8_of yX8_of) = true ∧ lw_tbl[27]? = some (Cond.selects RX8 yX8_carries yX8_carries) ∧ goodWord (Cond.selects RX8 yX8_carries yX8_carries) = true ∧ lw_tbl[28]? = some (Cond.selects RX8 yX8_shifts yX8_shifts) ∧ goodWord (Cond.selects RX8 yX8_shifts yX8_shifts) = true := by decide +kernel
theorem tw_25 : Cond.selects RX8 yX8_settles yX8_settles ∈ TB := tb_in 25 TW6.1 TW6.2.1
theorem tw_26 : Cond.selects RX8 yX8_of yX8_of ∈ TB := tb_in 26 TW6.2.2.1 TW6.2.2.2.1
theorem tw_27 : Cond.selects RX8 yX8_carries yX8_carries ∈ TB := tb_in 27 TW6.2.2.2.2.1 TW6.2.2.2.2.2.1
theorem tw_28 : Cond.selects RX8 yX8_shifts yX8_shifts ∈ TB := tb_in 28 TW6.2.2.2.2.2.2.1 TW6.2.2.2.2.2.2.2
set_option maxRecDepth 100000 in
theorem TW7 : lw_tbl[29]? = some (Cond.selects RX8 yX8_isFine yX8_isFine) ∧ goodWord (Cond.selects RX8 yX8_isFine yX8_isFine) = true ∧ lw_tbl[30]? = some (Cond.selects RX8 yX8_endOf yX8_endOf) ∧ goodWord (Cond.selects RX8 yX8_endOf yX8_endOf) = true ∧ lw_tbl[31]? = some (Cond.selects RX8 yX8_takesOver yX8_takesOver) ∧ goodWord (Cond.selects RX8 yX8_takesOver yX8_takesOver) = true ∧ lw_tbl[32]? = some (Cond.selects RX8 yX8_isClip yX8_isClip) ∧ goodWord (Cond.selects RX8 yX8_isClip yX8_isClip) = true := by decide +kernel
theorem tw_29 : Cond.selects RX8 yX8_isFine yX8_isFine ∈ TB := tb_in 29 TW7.1 TW7.2.1
theorem tw_30 : Cond.selects RX8 yX8_endOf yX8_endOf ∈ TB := tb_in 30 TW7.2.2.1 TW7.2.2.2.1
theorem tw_31 : Cond.selects RX8 yX8_takesOver yX8_takesOver ∈ TB := tb_in 31 TW7.2.2.2.2.1 TW7.2.2.2.2.2.1
theorem tw_32 : Cond.selects RX8 yX8_isClip yX8_isClip ∈ TB := tb_in 32 TW7.2.2.2.2.2.2.1 TW7.2.2.2.2.2.2.2
set_option maxRecDepth 100000 in
theorem TW8 : lw_tbl[33]? = some (Cond.selects RX8 yX8_cuts yX8_cuts) ∧ goodWord (Cond.selects RX8 yX8_cuts yX8_cuts) = true ∧ lw_tbl[34]? = some (Cond.selects RX8 yX8_limitsFades yX8_limitsFades) ∧ goodWord (Cond.selects RX8 yX8_limitsFades yX8_limitsFades) = true ∧ lw_tbl[35]? = some (Cond.selects RX8 yX8_leaves yX8_leaves) ∧ goodWord (Cond.selects RX8 yX8_leaves yX8_leaves) = true ∧ lw_tbl[36]? = some (Cond.selects RX8 yX8_deletes yX8_deletes) ∧ goodWord (Cond.selects RX8 yX8_deletes yX8_deletes) = true := by decide +kernel
theorem tw_33 : Cond.selects RX8 yX8_cuts yX8_cuts ∈ TB := tb_in 33 TW8.1 TW8.2.1
theorem tw_34 : Cond.selects RX8 yX8_limitsFades yX8_limitsFades ∈ TB := tb_in 34 TW8.2.2.1 TW8.2.2.2.1
theorem tw_35 : Cond.selects RX8 yX8_leaves yX8_leaves ∈ TB := tb_in 35 TW8.2.2.2.2.1 TW8.2.2.2.2.2.1
theorem tw_36 : Cond.selects RX8 yX8_deletes yX8_deletes ∈ TB := tb_in 36 TW8.2.2.2.2.2.2.1 TW8.2.2.2.2.2.2.2
set_option maxRecDepth 100000 in
theorem TW9 : lw_tbl[37]? = some (Cond.selects RX8 yX8_ordersAll yX8_ordersAll) ∧ goodWord (Cond.selects RX8 yX8_ordersAll yX8_ordersAll) = true ∧ lw_tbl[38]? = some (Cond.selects RX8 yX8_clipOf yX8_clipOf) ∧ goodWord (Cond.selects RX8 yX8_clipOf yX8_clipOf) = true ∧ lw_tbl[39]? = some (Cond.selects RX8 yX8_covers yX8_covers) ∧ goodWord (Cond.selects RX8 yX8_covers yX8_covers) = true ∧ lw_tbl[40]? = some (Cond.selects RX8 yX8_clipEnd yX8_clipEnd) ∧ goodWord (Cond.selects RX8 yX8_clipEnd yX8_clipEnd) = true := by decide +kernel
theorem tw_37 : Cond.selects RX8 yX8_ordersAll yX8_ordersAll ∈ TB := tb_in 37 TW9.1 TW9.2.1
theorem tw_38 : Cond.selects RX8 yX8_clipOf yX8_clipOf ∈ TB := tb_in 38 TW9.2.2.1 TW9.2.2.2.1
theorem tw_39 : Cond.selects RX8 yX8_covers yX8_covers ∈ TB := tb_in 39 TW9.2.2.2.2.1 TW9.2.2.2.2.2.1
theorem tw_40 : Cond.selects RX8 yX8_clipEnd yX8_clipEnd ∈ TB := tb_in 40 TW9.2.2.2.2.2.2.1 TW9.2.2.2.2.2.2.2
set_option maxRecDepth 100000 in
theorem TW10 : lw_tbl[41]? = some (Cond.selects RX8 yX8_raw yX8_raw) ∧ goodWord (Cond.selects RX8 yX8_raw yX8_raw) = true ∧ lw_tbl[42]? = some (Cond.selects RX8 yX8_hasPoint yX8_hasPoint) ∧ goodWord (Cond.selects RX8 yX8_hasPoint yX8_hasPoint) = true ∧ lw_tbl[43]? = some (Cond.selects RX8 yX8_pointsAhead yX8_pointsAhead) ∧ goodWord (Cond.selects RX8 yX8_pointsAhead yX8_pointsAhead) = true ∧ lw_tbl[44]? = some (Cond.selects RX8 yX8_laneAt yX8_laneAt) ∧ goodWord (Cond.selects RX8 yX8_laneAt yX8_laneAt) = true := by decide +kernel
theorem tw_41 : Cond.selects RX8 yX8_raw yX8_raw ∈ TB := tb_in 41 TW10.1 TW10.2.1
theorem tw_42 : Cond.selects RX8 yX8_hasPoint yX8_hasPoint ∈ TB := tb_in 42 TW10.2.2.1 TW10.2.2.2.1
theorem tw_43 : Cond.selects RX8 yX8_pointsAhead yX8_pointsAhead ∈ TB := tb_in 43 TW10.2.2.2.2.1 TW10.2.2.2.2.2.1
theorem tw_44 : Cond.selects RX8 yX8_laneAt yX8_laneAt ∈ TB := tb_in 44 TW10.2.2.2.2.2.2.1 TW10.2.2.2.2.2.2.2
set_option maxRecDepth 100000 in
theorem TW11 : lw_tbl[45]? = some (Cond.selects RX8 yX8_isKey yX8_isKey) ∧ goodWord (Cond.selects RX8 yX8_isKey yX8_isKey) = true ∧ lw_tbl[46]? = some (Cond.selects RX8 yX8_laysDuck yX8_laysDuck) ∧ goodWord (Cond.selects RX8 yX8_laysDuck yX8_laysDuck) = true ∧ lw_tbl[47]? = some (Cond.selects RX8 yX8_levelOf yX8_levelOf) ∧ goodWord (Cond.selects RX8 yX8_levelOf yX8_levelOf) = true ∧ lw_tbl[48]? = some (Cond.selects RX8 yX8_dry yX8_dry) ∧ goodWord (Cond.selects RX8 yX8_dry yX8_dry) = true := by decide +kernel
theorem tw_45 : Cond.selects RX8 yX8_isKey yX8_isKey ∈ TB := tb_in 45 TW11.1 TW11.2.1
theorem tw_46 : Cond.selects RX8 yX8_laysDuck yX8_laysDuck ∈ TB := tb_in 46 TW11.2.2.1 TW11.2.2.2.1
theorem tw_47 : Cond.selects RX8 yX8_levelOf yX8_levelOf ∈ TB := tb_in 47 TW11.2.2.2.2.1 TW11.2.2.2.2.2.1
theorem tw_48 : Cond.selects RX8 yX8_dry yX8_dry ∈ TB := tb_in 48 TW11.2.2.2.2.2.2.1 TW11.2.2.2.2.2.2.2
set_option maxRecDepth 100000 in
theorem TW12 : lw_tbl[49]? = some (Cond.selects RX8 yX8_duckAt yX8_duckAt) ∧ goodWord (Cond.selects RX8 yX8_duckAt yX8_duckAt) = true ∧ lw_tbl[50]? = some (Cond.selects RX8 yX8_valueAt yX8_valueAt) ∧ goodWord (Cond.selects RX8 yX8_valueAt yX8_valueAt) = true ∧ lw_tbl[51]? = some (Cond.selects RX8 yX8_isHeard yX8_isHeard) ∧ goodWord (Cond.selects RX8 yX8_isHeard yX8_isHeard) = true ∧ lw_tbl[52]? = some (Cond.selects RX8 yX8_laysDucks yX8_laysDucks) ∧ goodWord (Cond.selects RX8 yX8_laysDucks yX8_laysDucks) = true := by decide +kernel
theorem tw_49 : Cond.selects RX8 yX8_duckAt yX8_duckAt ∈ TB := tb_in 49 TW12.1 TW12.2.1
theorem tw_50 : Cond.selects RX8 yX8_valueAt yX8_valueAt ∈ TB := tb_in 50 TW12.2.2.1 TW12.2.2.2.1
theorem tw_51 : Cond.selects RX8 yX8_isHeard yX8_isHeard ∈ TB := tb_in 51 TW12.2.2.2.2.1 TW12.2.2.2.2.2.1
theorem tw_52 : Cond.selects RX8 yX8_laysDucks yX8_laysDucks ∈ TB := tb_in 52 TW12.2.2.2.2.2.2.1 TW12.2.2.2.2.2.2.2
set_option maxRecDepth 100000 in
theorem TW13 : lw_tbl[53]? = some (Cond.selects RX8 yX8_mixes yX8_mixes) ∧ goodWord (Cond.selects RX8 yX8_mixes yX8_mixes) = true ∧ lw_tbl[54]? = some (Cond.selects RX8 yX8_limited yX8_limited) ∧ goodWord (Cond.selects RX8 yX8_limited yX8_limited) = true ∧ lw_tbl[55]? = some (Cond.selects RX8 yX8_renders yX8_renders) ∧ goodWord (Cond.selects RX8 yX8_renders yX8_renders) = true ∧ lw_tbl[56]? = some (Cond.selects RX8 yX8_meterOf yX8_meterOf) ∧ goodWord (Cond.selects RX8 yX8_meterOf yX8_meterOf) = true := by decide +kernel
theorem tw_53 : Cond.selects RX8 yX8_mixes yX8_mixes ∈ TB := tb_in 53 TW13.1 TW13.2.1
theorem tw_54 : Cond.selects RX8 yX8_limited yX8_limited ∈ TB := tb_in 54 TW13.2.2.1 TW13.2.2.2.1
theorem tw_55 : Cond.selects RX8 yX8_renders yX8_renders ∈ TB := tb_in 55 TW13.2.2.2.2.1 TW13.2.2.2.2.2.1
theorem tw_56 : Cond.selects RX8 yX8_meterOf yX8_meterOf ∈ TB := tb_in 56 TW13.2.2.2.2.2.2.1 TW13.2.2.2.2.2.2.2
set_option maxRecDepth 100000 in
theorem TW14 : lw_tbl[57]? = some (Cond.selects RX8 yX8_hashes yX8_hashes) ∧ goodWord (Cond.selects RX8 yX8_hashes yX8_hashes) = true ∧ lw_tbl[58]? = some (Cond.selects RX8 yX8_hashesRow yX8_hashesRow) ∧ goodWord (Cond.selects RX8 yX8_hashesRow yX8_hashesRow) = true ∧ lw_tbl[60]? = some (Cond.initialized RX7) ∧ goodWord (Cond.initialized RX7) = true ∧ lw_tbl[61]? = some (Cond.initialized RX5) ∧ goodWord (Cond.initialized RX5) = true := by decide +kernel
theorem tw_57 : Cond.selects RX8 yX8_hashes yX8_hashes ∈ TB := tb_in 57 TW14.1 TW14.2.1
theorem tw_58 : Cond.selects RX8 yX8_hashesRow yX8_hashesRow ∈ TB := tb_in 58 TW14.2.2.1 TW14.2.2.2.1
theorem tw_60 : Cond.initialized RX7 ∈ TB := tb_in 60 TW14.2.2.2.2.1 TW14.2.2.2.2.2.1
theorem tw_61 : Cond.initialized RX5 ∈ TB := tb_in 61 TW14.2.2.2.2.2.2.1 TW14.2.2.2.2.2.2.2
set_option maxRecDepth 100000 in
theorem TW15 : lw_tbl[62]? = some (Cond.initialized RX3) ∧ goodWord (Cond.initialized RX3) = true ∧ lw_tbl[63]? = some (Cond.initialized RX4) ∧ goodWord (Cond.initialized RX4) = true ∧ lw_tbl[64]? = some (Cond.initialized RX0) ∧ goodWord (Cond.initialized RX0) = true ∧ lw_tbl[65]? = some (Cond.initialized RX6) ∧ goodWord (Cond.initialized RX6) = true := by decide +kernel
theorem tw_62 : Cond.initialized RX3 ∈ TB := tb_in 62 TW15.1 TW15.2.1
theorem tw_63 : Cond.initialized RX4 ∈ TB := tb_in 63 TW15.2.2.1 TW15.2.2.2.1
theorem tw_64 : Cond.initialized RX0 ∈ TB := tb_in 64 TW15.2.2.2.2.1 TW15.2.2.2.2.2.1
theorem tw_65 : Cond.initialized RX6 ∈ TB := tb_in 65 TW15.2.2.2.2.2.2.1 TW15.2.2.2.2.2.2.2
set_option maxRecDepth 100000 in
theorem TW16 : lw_tbl[66]? = some (Cond.initialized RX2) ∧ goodWord (Cond.initialized RX2) = true ∧ lw_tbl[67]? = some (Cond.initialized RX1) ∧ goodWord (Cond.initialized RX1) = true ∧ lw_tbl[68]? = some (Cond.initialized RX8) ∧ goodWord (Cond.initialized RX8) = true ∧ lw_tbl[72]? = some (Cond.initialized "java/lang/IndexOutOfBoundsException") ∧ goodWord (Cond.initialized "java/lang/IndexOutOfBoundsException") = true := by decide +kernel
theorem tw_66 : Cond.initialized RX2 ∈ TB := tb_in 66 TW16.1 TW16.2.1
theorem tw_67 : Cond.initialized RX1 ∈ TB := tb_in 67 TW16.2.2.1 TW16.2.2.2.1
theorem tw_68 : Cond.initialized RX8 ∈ TB := tb_in 68 TW16.2.2.2.2.1 TW16.2.2.2.2.2.1
theorem tw_72 : Cond.initialized "java/lang/IndexOutOfBoundsException" ∈ TB := tb_in 72 TW16.2.2.2.2.2.2.1 TW16.2.2.2.2.2.2.2
set_option maxRecDepth 100000 in
theorem TW17 : lw_tbl[73]? = some (Cond.initialized "java/lang/IllegalArgumentException") ∧ goodWord (Cond.initialized "java/lang/IllegalArgumentException") = true ∧ lw_tbl[74]? = some (Cond.initialized "java/lang/Math") ∧ goodWord (Cond.initialized "java/lang/Math") = true ∧ lw_tbl[75]? = some (Cond.initialized "java/lang/IllegalStateException") ∧ goodWord (Cond.initialized "java/lang/IllegalStateException") = true ∧ lw_tbl[76]? = some (Cond.initialized "java/lang/UnsupportedOperationException") ∧ goodWord (Cond.initialized "java/lang/UnsupportedOperationException") = true := by decide +kernel
theorem tw_73 : Cond.initialized "java/lang/IllegalArgumentException" ∈ TB := tb_in 73 TW17.1 TW17.2.1
theorem tw_74 : Cond.initialized "java/lang/Math" ∈ TB := tb_in 74 TW17.2.2.1 TW17.2.2.2.1
theorem tw_75 : Cond.initialized "java/lang/IllegalStateException" ∈ TB := tb_in 75 TW17.2.2.2.2.1 TW17.2.2.2.2.2.1
theorem tw_76 : Cond.initialized "java/lang/UnsupportedOperationException" ∈ TB := tb_in 76 TW17.2.2.2.2.2.2.1 TW17.2.2.2.2.2.2.2
set_option maxRecDepth 100000 in
theorem TW18 : lw_tbl[82]? = some (Cond.methodLink RX7 3 objectInit) ∧ goodWord (Cond.methodLink RX7 3 objectInit) = true ∧ lw_tbl[83]? = some (Cond.instanceMethod objectInit) ∧ goodWord (Cond.instanceMethod objectInit) = true ∧ lw_tbl[84]? = some (Cond.code objectInit ⟨#[0xb1]⟩ 1 none) ∧ goodWord (Cond.code objectInit ⟨#[0xb1]⟩ 1 none) = true ∧ lw_tbl[85]? = some (Cond.classLink RX7 9 RX5) ∧ goodWord (Cond.classLink RX7 9 RX5) = true := by decide +kernel
theorem tw_82 : Cond.methodLink RX7 3 objectInit ∈ TB := tb_in 82 TW18.1 TW18.2.1
theorem tw_83 : Cond.instanceMethod objectInit ∈ TB := tb_in 83 TW18.2.2.1 TW18.2.2.2.1
theorem tw_84 : Cond.code objectInit ⟨#[0xb1]⟩ 1 none ∈ TB := tb_in 84 TW18.2.2.2.2.1 TW18.2.2.2.2.2.1
theorem tw_85 : Cond.classLink RX7 9 RX5 ∈ TB := tb_in 85 TW18.2.2.2.2.2.2.1 TW18.2.2.2.2.2.2.2
set_option maxRecDepth 100000 in
theorem TW19 : lw_tbl[86]? = some (Cond.instantiable RX5 9) ∧ goodWord (Cond.instantiable RX5 9) = true ∧ lw_tbl[87]? = some (Cond.methodLink RX7 11 yX5_init) ∧ goodWord (Cond.methodLink RX7 11 yX5_init) = true ∧ lw_tbl[88]? = some (Cond.instanceMethod yX5_init) ∧ goodWord (Cond.instanceMethod yX5_init) = true ∧ lw_tbl[89]? = some (Cond.code yX5_init cX5_init 2 none) ∧ goodWord (Cond.code yX5_init cX5_init 2 none) = true := by decide +kernel
theorem tw_86 : Cond.instantiable RX5 9 ∈ TB := tb_in 86 TW19.1 TW19.2.1
theorem tw_87 : Cond.methodLink RX7 11 yX5_init ∈ TB := tb_in 87 TW19.2.2.1 TW19.2.2.2.1
theorem tw_88 : Cond.instanceMethod yX5_init ∈ TB := tb_in 88 TW19.2.2.2.2.1 TW19.2.2.2.2.2.1
theorem tw_89 : Cond.code yX5_init cX5_init 2 none ∈ TB := tb_in 89 TW19.2.2.2.2.2.2.1 TW19.2.2.2.2.2.2.2
set_option maxRecDepth 100000 in
theorem TW20 : lw_tbl[90]? = some (Cond.methodLink RX5 3 objectInit) ∧ goodWord (Cond.methodLink RX5 3 objectInit) = true ∧ lw_tbl[91]? = some (Cond.classLink RX5 9 RX4) ∧ goodWord (Cond.classLink RX5 9 RX4) = true ∧ lw_tbl[93]? = some (Cond.classLink RX5 17 RX0) ∧ goodWord (Cond.classLink RX5 17 RX0) = true ∧ lw_tbl[95]? = some (Cond.classLink RX5 23 RX6) ∧ goodWord (Cond.classLink RX5 23 RX6) = true := by decide +kernel
theorem tw_90 : Cond.methodLink RX5 3 objectInit ∈ TB := tb_in 90 TW20.1 TW20.2.1
theorem tw_91 : Cond.classLink RX5 9 RX4 ∈ TB := tb_in 91 TW20.2.2.1 TW20.2.2.2.1
theorem tw_93 : Cond.classLink RX5 17 RX0 ∈ TB := tb_in 93 TW20.2.2.2.2.1 TW20.2.2.2.2.2.1
theorem tw_95 : Cond.classLink RX5 23 RX6 ∈ TB := tb_in 95 TW20.2.2.2.2.2.2.1 TW20.2.2.2.2.2.2.2
set_option maxRecDepth 100000 in
theorem TW21 : lw_tbl[97]? = some (Cond.classLink RX5 36 RX3) ∧ goodWord (Cond.classLink RX5 36 RX3) = true ∧ lw_tbl[98]? = some (Cond.instantiable RX3 5) ∧ goodWord (Cond.instantiable RX3 5) = true ∧ lw_tbl[100]? = some (Cond.instanceMethod yX3_init) ∧ goodWord (Cond.instanceMethod yX3_init) = true ∧ lw_tbl[101]? = some (Cond.code yX3_init cX3_init 1 none) ∧ goodWord (Cond.code yX3_init cX3_init 1 none) = true := by decide +kernel
theorem tw_97 : Cond.classLink RX5 36 RX3 ∈ TB := tb_in 97 TW21.1 TW21.2.1
theorem tw_98 : Cond.instantiable RX3 5 ∈ TB := tb_in 98 TW21.2.2.1 TW21.2.2.2.1
theorem tw_100 : Cond.instanceMethod yX3_init ∈ TB := tb_in 100 TW21.2.2.2.2.1 TW21.2.2.2.2.2.1
theorem tw_101 : Cond.code yX3_init cX3_init 1 none ∈ TB := tb_in 101 TW21.2.2.2.2.2.2.1 TW21.2.2.2.2.2.2.2
set_option maxRecDepth 100000 in
theorem TW22 : lw_tbl[102]? = some (Cond.methodLink RX3 3 objectInit) ∧ goodWord (Cond.methodLink RX3 3 objectInit) = true ∧ lw_tbl[103]? = some (Cond.constantLong RX3 9 (7 : Int64)) ∧ goodWord (Cond.constantLong RX3 9 (7 : Int64)) = true ∧ lw_tbl[104]? = some (Cond.fieldLink RX3 17 RX3 "rendered" "J") ∧ goodWord (Cond.fieldLink RX3 17 RX3 "rendered" "J") = true ∧ lw_tbl[105]? = some (Cond.fieldLink RX7 311 RX3 "rendered" "J") ∧ goodWord (Cond.fieldLink RX7 311 RX3 "rendered" "J") = true := by decide +kernel
theorem tw_102 : Cond.methodLink RX3 3 objectInit ∈ TB := tb_in 102 TW22.1 TW22.2.1
theorem tw_103 : Cond.constantLong RX3 9 (7 : Int64) ∈ TB := tb_in 103 TW22.2.2.1 TW22.2.2.2.1
theorem tw_104 : Cond.fieldLink RX3 17 RX3 "rendered" "J" ∈ TB := tb_in 104 TW22.2.2.2.2.1 TW22.2.2.2.2.2.1
theorem tw_105 : Cond.fieldLink RX7 311 RX3 "rendered" "J" ∈ TB := tb_in 105 TW22.2.2.2.2.2.2.1 TW22.2.2.2.2.2.2.2
set_option maxRecDepth 100000 in
theorem TW23 : lw_tbl[106]? = some (Cond.fieldLink RX3 20 RX3 "greatestLeft" "J") ∧ goodWord (Cond.fieldLink RX3 20 RX3 "greatestLeft" "J") = true ∧ lw_tbl[107]? = some (Cond.fieldLink RX3 23 RX3 "greatestRight" "J") ∧ goodWord (Cond.fieldLink RX3 23 RX3 "greatestRight" "J") = true ∧ lw_tbl[108]? = some (Cond.fieldLink RX3 26 RX3 "clipped" "J") ∧ goodWord (Cond.fieldLink RX3 26 RX3 "clipped" "J") = true ∧ lw_tbl[109]? = some (Cond.fieldLink RX3 11 RX3 "checkSum" "J") ∧ goodWord (Cond.fieldLink RX3 11 RX3 "checkSum" "J") = true := by decide +kernel
theorem tw_106 : Cond.fieldLink RX3 20 RX3 "greatestLeft" "J" ∈ TB := tb_in 106 TW23.1 TW23.2.1
theorem tw_107 : Cond.fieldLink RX3 23 RX3 "greatestRight" "J" ∈ TB := tb_in 107 TW23.2.2.1 TW23.2.2.2.1
theorem tw_108 : Cond.fieldLink RX3 26 RX3 "clipped" "J" ∈ TB := tb_in 108 TW23.2.2.2.2.1 TW23.2.2.2.2.2.1
theorem tw_109 : Cond.fieldLink RX3 11 RX3 "checkSum" "J" ∈ TB := tb_in 109 TW23.2.2.2.2.2.2.1 TW23.2.2.2.2.2.2.2
set_option maxRecDepth 100000 in
theorem TW24 : lw_tbl[121]? = some (Cond.instantiable RX4 4) ∧ goodWord (Cond.instantiable RX4 4) = true ∧ lw_tbl[123]? = some (Cond.instanceMethod yX4_init) ∧ goodWord (Cond.instanceMethod yX4_init) = true ∧ lw_tbl[124]? = some (Cond.code yX4_init cX4_init 1 none) ∧ goodWord (Cond.code yX4_init cX4_init 1 none) = true ∧ lw_tbl[125]? = some (Cond.methodLink RX4 3 objectInit) ∧ goodWord (Cond.methodLink RX4 3 objectInit) = true := by decide +kernel
theorem tw_121 : Cond.instantiable RX4 4 ∈ TB := tb_in 121 TW24.1 TW24.2.1
theorem tw_123 : Cond.instanceMethod yX4_init ∈ TB := tb_in 123 TW24.2.2.1 TW24.2.2.2.1
theorem tw_124 : Cond.code yX4_init cX4_init 1 none ∈ TB := tb_in 124 TW24.2.2.2.2.1 TW24.2.2.2.2.2.1
theorem tw_125 : Cond.methodLink RX4 3 objectInit ∈ TB := tb_in 125 TW24.2.2.2.2.2.2.1 TW24.2.2.2.2.2.2.2
set_option maxRecDepth 100000 in
theorem TW25 : lw_tbl[126]? = some (Cond.fieldLink RX4 9 RX4 "shape" "I") ∧ goodWord (Cond.fieldLink RX4 9 RX4 "shape" "I") = true ∧ lw_tbl[127]? = some (Cond.fieldLink RX5 180 RX4 "shape" "I") ∧ goodWord (Cond.fieldLink RX5 180 RX4 "shape" "I") = true ∧ lw_tbl[128]? = some (Cond.fieldLink RX4 21 RX4 "amplitude" "I") ∧ goodWord (Cond.fieldLink RX4 21 RX4 "amplitude" "I") = true ∧ lw_tbl[129]? = some (Cond.fieldLink RX5 183 RX4 "amplitude" "I") ∧ goodWord (Cond.fieldLink RX5 183 RX4 "amplitude" "I") = true := by decide +kernel
theorem tw_126 : Cond.fieldLink RX4 9 RX4 "shape" "I" ∈ TB := tb_in 126 TW25.1 TW25.2.1
theorem tw_127 : Cond.fieldLink RX5 180 RX4 "shape" "I" ∈ TB := tb_in 127 TW25.2.2.1 TW25.2.2.2.1
theorem tw_128 : Cond.fieldLink RX4 21 RX4 "amplitude" "I" ∈ TB := tb_in 128 TW25.2.2.2.2.1 TW25.2.2.2.2.2.1
theorem tw_129 : Cond.fieldLink RX5 183 RX4 "amplitude" "I" ∈ TB := tb_in 129 TW25.2.2.2.2.2.2.1 TW25.2.2.2.2.2.2.2
set_option maxRecDepth 100000 in
theorem TW26 : lw_tbl[130]? = some (Cond.fieldLink RX4 15 RX4 "period" "I") ∧ goodWord (Cond.fieldLink RX4 15 RX4 "period" "I") = true ∧ lw_tbl[131]? = some (Cond.fieldLink RX5 186 RX4 "period" "I") ∧ goodWord (Cond.fieldLink RX5 186 RX4 "period" "I") = true ∧ lw_tbl[132]? = some (Cond.fieldLink RX4 18 RX4 "size" "I") ∧ goodWord (Cond.fieldLink RX4 18 RX4 "size" "I") = true ∧ lw_tbl[133]? = some (Cond.fieldLink RX7 56 RX4 "size" "I") ∧ goodWord (Cond.fieldLink RX7 56 RX4 "size" "I") = true := by decide +kernel
theorem tw_130 : Cond.fieldLink RX4 15 RX4 "period" "I" ∈ TB := tb_in 130 TW26.1 TW26.2.1
theorem tw_131 : Cond.fieldLink RX5 186 RX4 "period" "I" ∈ TB := tb_in 131 TW26.2.2.1 TW26.2.2.2.1
theorem tw_132 : Cond.fieldLink RX4 18 RX4 "size" "I" ∈ TB := tb_in 132 TW26.2.2.2.2.1 TW26.2.2.2.2.2.1
theorem tw_133 : Cond.fieldLink RX7 56 RX4 "size" "I" ∈ TB := tb_in 133 TW26.2.2.2.2.2.2.1 TW26.2.2.2.2.2.2.2
set_option maxRecDepth 100000 in
theorem TW27 : lw_tbl[134]? = some (Cond.fieldLink RX5 189 RX4 "size" "I") ∧ goodWord (Cond.fieldLink RX5 189 RX4 "size" "I") = true ∧ lw_tbl[144]? = some (Cond.instantiable RX0 9) ∧ goodWord (Cond.instantiable RX0 9) = true ∧ lw_tbl[146]? = some (Cond.instanceMethod yX0_init) ∧ goodWord (Cond.instanceMethod yX0_init) = true ∧ lw_tbl[147]? = some (Cond.code yX0_init cX0_init 1 none) ∧ goodWord (Cond.code yX0_init cX0_init 1 none) = true := by decide +kernel
theorem tw_134 : Cond.fieldLink RX5 189 RX4 "size" "I" ∈ TB := tb_in 134 TW27.1 TW27.2.1
theorem tw_144 : Cond.instantiable RX0 9 ∈ TB := tb_in 144 TW27.2.2.1 TW27.2.2.2.1
theorem tw_146 : Cond.instanceMethod yX0_init ∈ TB := tb_in 146 TW27.2.2.2.2.1 TW27.2.2.2.2.2.1
theorem tw_147 : Cond.code yX0_init cX0_init 1 none ∈ TB := tb_in 147 TW27.2.2.2.2.2.2.1 TW27.2.2.2.2.2.2.2
set_option maxRecDepth 100000 in
theorem TW28 : lw_tbl[148]? = some (Cond.methodLink RX0 3 objectInit) ∧ goodWord (Cond.methodLink RX0 3 objectInit) = true ∧ lw_tbl[149]? = some (Cond.fieldLink RX0 21 RX0 "track" "I") ∧ goodWord (Cond.fieldLink RX0 21 RX0 "track" "I") = true ∧ lw_tbl[150]? = some (Cond.fieldLink RX5 113 RX0 "track" "I") ∧ goodWord (Cond.fieldLink RX5 113 RX0 "track" "I") = true ∧ lw_tbl[151]? = some (Cond.fieldLink RX0 30 RX0 "source" "I") ∧ goodWord (Cond.fieldLink RX0 30 RX0 "source" "I") = true := by decide +kernel
theorem tw_148 : Cond.methodLink RX0 3 objectInit ∈ TB := tb_in 148 TW28.1 TW28.2.1
theorem tw_149 : Cond.fieldLink RX0 21 RX0 "track" "I" ∈ TB := tb_in 149 TW28.2.2.1 TW28.2.2.2.1
theorem tw_150 : Cond.fieldLink RX5 113 RX0 "track" "I" ∈ TB := tb_in 150 TW28.2.2.2.2.1 TW28.2.2.2.2.2.1
theorem tw_151 : Cond.fieldLink RX0 30 RX0 "source" "I" ∈ TB := tb_in 151 TW28.2.2.2.2.2.2.1 TW28.2.2.2.2.2.2.2
set_option maxRecDepth 100000 in
theorem TW29 : lw_tbl[152]? = some (Cond.fieldLink RX5 126 RX0 "source" "I") ∧ goodWord (Cond.fieldLink RX5 126 RX0 "source" "I") = true ∧ lw_tbl[153]? = some (Cond.fieldLink RX0 24 RX0 "start" "I") ∧ goodWord (Cond.fieldLink RX0 24 RX0 "start" "I") = true ∧ lw_tbl[154]? = some (Cond.fieldLink RX7 116 RX0 "start" "I") ∧ goodWord (Cond.fieldLink RX7 116 RX0 "start" "I") = true ∧ lw_tbl[155]? = some (Cond.fieldLink RX5 89 RX0 "start" "I") ∧ goodWord (Cond.fieldLink RX5 89 RX0 "start" "I") = true := by decide +kernel
theorem tw_152 : Cond.fieldLink RX5 126 RX0 "source" "I" ∈ TB := tb_in 152 TW29.1 TW29.2.1
theorem tw_153 : Cond.fieldLink RX0 24 RX0 "start" "I" ∈ TB := tb_in 153 TW29.2.2.1 TW29.2.2.2.1
theorem tw_154 : Cond.fieldLink RX7 116 RX0 "start" "I" ∈ TB := tb_in 154 TW29.2.2.2.2.1 TW29.2.2.2.2.2.1
theorem tw_155 : Cond.fieldLink RX5 89 RX0 "start" "I" ∈ TB := tb_in 155 TW29.2.2.2.2.2.2.1 TW29.2.2.2.2.2.2.2
set_option maxRecDepth 100000 in
theorem TW30 : lw_tbl[156]? = some (Cond.fieldLink RX0 33 RX0 "offset" "I") ∧ goodWord (Cond.fieldLink RX0 33 RX0 "offset" "I") = true ∧ lw_tbl[157]? = some (Cond.fieldLink RX7 122 RX0 "offset" "I") ∧ goodWord (Cond.fieldLink RX7 122 RX0 "offset" "I") = true ∧ lw_tbl[158]? = some (Cond.fieldLink RX5 123 RX0 "offset" "I") ∧ goodWord (Cond.fieldLink RX5 123 RX0 "offset" "I") = true ∧ lw_tbl[159]? = some (Cond.fieldLink RX0 27 RX0 "size" "I") ∧ goodWord (Cond.fieldLink RX0 27 RX0 "size" "I") = true := by decide +kernel
theorem tw_156 : Cond.fieldLink RX0 33 RX0 "offset" "I" ∈ TB := tb_in 156 TW30.1 TW30.2.1
theorem tw_157 : Cond.fieldLink RX7 122 RX0 "offset" "I" ∈ TB := tb_in 157 TW30.2.2.1 TW30.2.2.2.1
theorem tw_158 : Cond.fieldLink RX5 123 RX0 "offset" "I" ∈ TB := tb_in 158 TW30.2.2.2.2.1 TW30.2.2.2.2.2.1
theorem tw_159 : Cond.fieldLink RX0 27 RX0 "size" "I" ∈ TB := tb_in 159 TW30.2.2.2.2.2.2.1 TW30.2.2.2.2.2.2.2
set_option maxRecDepth 100000 in
theorem TW31 : lw_tbl[160]? = some (Cond.fieldLink RX7 113 RX0 "size" "I") ∧ goodWord (Cond.fieldLink RX7 113 RX0 "size" "I") = true ∧ lw_tbl[161]? = some (Cond.fieldLink RX5 142 RX0 "size" "I") ∧ goodWord (Cond.fieldLink RX5 142 RX0 "size" "I") = true ∧ lw_tbl[162]? = some (Cond.fieldLink RX0 36 RX0 "gain" "I") ∧ goodWord (Cond.fieldLink RX0 36 RX0 "gain" "I") = true ∧ lw_tbl[163]? = some (Cond.fieldLink RX5 132 RX0 "gain" "I") ∧ goodWord (Cond.fieldLink RX5 132 RX0 "gain" "I") = true := by decide +kernel
theorem tw_160 : Cond.fieldLink RX7 113 RX0 "size" "I" ∈ TB := tb_in 160 TW31.1 TW31.2.1
theorem tw_161 : Cond.fieldLink RX5 142 RX0 "size" "I" ∈ TB := tb_in 161 TW31.2.2.1 TW31.2.2.2.1
theorem tw_162 : Cond.fieldLink RX0 36 RX0 "gain" "I" ∈ TB := tb_in 162 TW31.2.2.2.2.1 TW31.2.2.2.2.2.1
theorem tw_163 : Cond.fieldLink RX5 132 RX0 "gain" "I" ∈ TB := tb_in 163 TW31.2.2.2.2.2.2.1 TW31.2.2.2.2.2.2.2
set_option maxRecDepth 100000 in
theorem TW32 : lw_tbl[164]? = some (Cond.fieldLink RX0 9 RX0 "fadeIn" "I") ∧ goodWord (Cond.fieldLink RX0 9 RX0 "fadeIn" "I") = true ∧ lw_tbl[165]? = some (Cond.fieldLink RX7 104 RX0 "fadeIn" "I") ∧ goodWord (Cond.fieldLink RX7 104 RX0 "fadeIn" "I") = true ∧ lw_tbl[166]? = some (Cond.fieldLink RX5 96 RX0 "fadeIn" "I") ∧ goodWord (Cond.fieldLink RX5 96 RX0 "fadeIn" "I") = true ∧ lw_tbl[167]? = some (Cond.fieldLink RX0 15 RX0 "fadeOut" "I") ∧ goodWord (Cond.fieldLink RX0 15 RX0 "fadeOut" "I") = true := by decide +kernel
theorem tw_164 : Cond.fieldLink RX0 9 RX0 "fadeIn" "I" ∈ TB := tb_in 164 TW32.1 TW32.2.1
theorem tw_165 : Cond.fieldLink RX7 104 RX0 "fadeIn" "I" ∈ TB := tb_in 165 TW32.2.2.1 TW32.2.2.2.1
theorem tw_166 : Cond.fieldLink RX5 96 RX0 "fadeIn" "I" ∈ TB := tb_in 166 TW32.2.2.2.2.1 TW32.2.2.2.2.2.1
theorem tw_167 : Cond.fieldLink RX0 15 RX0 "fadeOut" "I" ∈ TB := tb_in 167 TW32.2.2.2.2.2.2.1 TW32.2.2.2.2.2.2.2
set_option maxRecDepth 100000 in
theorem TW33 : lw_tbl[168]? = some (Cond.fieldLink RX5 103 RX0 "fadeOut" "I") ∧ goodWord (Cond.fieldLink RX5 103 RX0 "fadeOut" "I") = true ∧ lw_tbl[169]? = some (Cond.fieldLink RX0 18 RX0 "curve" "I") ∧ goodWord (Cond.fieldLink RX0 18 RX0 "curve" "I") = true ∧ lw_tbl[189]? = some (Cond.instantiable RX6 13) ∧ goodWord (Cond.instantiable RX6 13) = true ∧ lw_tbl[191]? = some (Cond.instanceMethod yX6_init) ∧ goodWord (Cond.instanceMethod yX6_init) = true := by decide +kernel
theorem tw_168 : Cond.fieldLink RX5 103 RX0 "fadeOut" "I" ∈ TB := tb_in 168 TW33.1 TW33.2.1
theorem tw_169 : Cond.fieldLink RX0 18 RX0 "curve" "I" ∈ TB := tb_in 169 TW33.2.2.1 TW33.2.2.2.1
theorem tw_189 : Cond.instantiable RX6 13 ∈ TB := tb_in 189 TW33.2.2.2.2.1 TW33.2.2.2.2.2.1
theorem tw_191 : Cond.instanceMethod yX6_init ∈ TB := tb_in 191 TW33.2.2.2.2.2.2.1 TW33.2.2.2.2.2.2.2
set_option maxRecDepth 100000 in
theorem TW34 : lw_tbl[192]? = some (Cond.code yX6_init cX6_init 1 none) ∧ goodWord (Cond.code yX6_init cX6_init 1 none) = true ∧ lw_tbl[193]? = some (Cond.methodLink RX6 3 objectInit) ∧ goodWord (Cond.methodLink RX6 3 objectInit) = true ∧ lw_tbl[194]? = some (Cond.fieldLink RX6 9 RX6 "gain" "I") ∧ goodWord (Cond.fieldLink RX6 9 RX6 "gain" "I") = true ∧ lw_tbl[195]? = some (Cond.fieldLink RX7 183 RX6 "gain" "I") ∧ goodWord (Cond.fieldLink RX7 183 RX6 "gain" "I") = true := by decide +kernel
theorem tw_192 : Cond.code yX6_init cX6_init 1 none ∈ TB := tb_in 192 TW34.1 TW34.2.1
theorem tw_193 : Cond.methodLink RX6 3 objectInit ∈ TB := tb_in 193 TW34.2.2.1 TW34.2.2.2.1
theorem tw_194 : Cond.fieldLink RX6 9 RX6 "gain" "I" ∈ TB := tb_in 194 TW34.2.2.2.2.1 TW34.2.2.2.2.2.1
theorem tw_195 : Cond.fieldLink RX7 183 RX6 "gain" "I" ∈ TB := tb_in 195 TW34.2.2.2.2.2.2.1 TW34.2.2.2.2.2.2.2
set_option maxRecDepth 100000 in
theorem TW35 : lw_tbl[196]? = some (Cond.fieldLink RX5 156 RX6 "gain" "I") ∧ goodWord (Cond.fieldLink RX5 156 RX6 "gain" "I") = true ∧ lw_tbl[197]? = some (Cond.fieldLink RX6 29 RX6 "panorama" "I") ∧ goodWord (Cond.fieldLink RX6 29 RX6 "panorama" "I") = true ∧ lw_tbl[198]? = some (Cond.fieldLink RX7 188 RX6 "panorama" "I") ∧ goodWord (Cond.fieldLink RX7 188 RX6 "panorama" "I") = true ∧ lw_tbl[199]? = some (Cond.fieldLink RX6 32 RX6 "muted" "Z") ∧ goodWord (Cond.fieldLink RX6 32 RX6 "muted" "Z") = true := by decide +kernel
theorem tw_196 : Cond.fieldLink RX5 156 RX6 "gain" "I" ∈ TB := tb_in 196 TW35.1 TW35.2.1
theorem tw_197 : Cond.fieldLink RX6 29 RX6 "panorama" "I" ∈ TB := tb_in 197 TW35.2.2.1 TW35.2.2.2.1
theorem tw_198 : Cond.fieldLink RX7 188 RX6 "panorama" "I" ∈ TB := tb_in 198 TW35.2.2.2.2.1 TW35.2.2.2.2.2.1
theorem tw_199 : Cond.fieldLink RX6 32 RX6 "muted" "Z" ∈ TB := tb_in 199 TW35.2.2.2.2.2.2.1 TW35.2.2.2.2.2.2.2
set_option maxRecDepth 100000 in
theorem TW36 : lw_tbl[200]? = some (Cond.fieldLink RX7 191 RX6 "muted" "Z") ∧ goodWord (Cond.fieldLink RX7 191 RX6 "muted" "Z") = true ∧ lw_tbl[201]? = some (Cond.fieldLink RX6 36 RX6 "solo" "Z") ∧ goodWord (Cond.fieldLink RX6 36 RX6 "solo" "Z") = true ∧ lw_tbl[202]? = some (Cond.fieldLink RX5 68 RX6 "solo" "Z") ∧ goodWord (Cond.fieldLink RX5 68 RX6 "solo" "Z") = true ∧ lw_tbl[203]? = some (Cond.fieldLink RX7 195 RX6 "solo" "Z") ∧ goodWord (Cond.fieldLink RX7 195 RX6 "solo" "Z") = true := by decide +kernel
theorem tw_200 : Cond.fieldLink RX7 191 RX6 "muted" "Z" ∈ TB := tb_in 200 TW36.1 TW36.2.1
theorem tw_201 : Cond.fieldLink RX6 36 RX6 "solo" "Z" ∈ TB := tb_in 201 TW36.2.2.1 TW36.2.2.2.1
theorem tw_202 : Cond.fieldLink RX5 68 RX6 "solo" "Z" ∈ TB := tb_in 202 TW36.2.2.2.2.1 TW36.2.2.2.2.2.1
theorem tw_203 : Cond.fieldLink RX7 195 RX6 "solo" "Z" ∈ TB := tb_in 203 TW36.2.2.2.2.2.2.1 TW36.2.2.2.2.2.2.2
set_option maxRecDepth 100000 in
theorem TW37 : lw_tbl[204]? = some (Cond.fieldLink RX6 39 RX6 "pointCount" "I") ∧ goodWord (Cond.fieldLink RX6 39 RX6 "pointCount" "I") = true ∧ lw_tbl[205]? = some (Cond.fieldLink RX7 203 RX6 "pointCount" "I") ∧ goodWord (Cond.fieldLink RX7 203 RX6 "pointCount" "I") = true ∧ lw_tbl[206]? = some (Cond.fieldLink RX6 15 RX6 "pointPosition" "[I") ∧ goodWord (Cond.fieldLink RX6 15 RX6 "pointPosition" "[I") = true ∧ lw_tbl[207]? = some (Cond.fieldLink RX6 19 RX6 "pointValue" "[I") ∧ goodWord (Cond.fieldLink RX6 19 RX6 "pointValue" "[I") = true := by decide +kernel
theorem tw_204 : Cond.fieldLink RX6 39 RX6 "pointCount" "I" ∈ TB := tb_in 204 TW37.1 TW37.2.1
theorem tw_205 : Cond.fieldLink RX7 203 RX6 "pointCount" "I" ∈ TB := tb_in 205 TW37.2.2.1 TW37.2.2.2.1
theorem tw_206 : Cond.fieldLink RX6 15 RX6 "pointPosition" "[I" ∈ TB := tb_in 206 TW37.2.2.2.2.1 TW37.2.2.2.2.2.1
theorem tw_207 : Cond.fieldLink RX6 19 RX6 "pointValue" "[I" ∈ TB := tb_in 207 TW37.2.2.2.2.2.2.1 TW37.2.2.2.2.2.2.2
set_option maxRecDepth 100000 in
theorem TW38 : lw_tbl[208]? = some (Cond.fieldLink RX6 22 RX6 "pointHold" "[Z") ∧ goodWord (Cond.fieldLink RX6 22 RX6 "pointHold" "[Z") = true ∧ lw_tbl[209]? = some (Cond.fieldLink RX6 26 RX6 "key" "I") ∧ goodWord (Cond.fieldLink RX6 26 RX6 "key" "I") = true ∧ lw_tbl[210]? = some (Cond.fieldLink RX5 72 RX6 "key" "I") ∧ goodWord (Cond.fieldLink RX5 72 RX6 "key" "I") = true ∧ lw_tbl[211]? = some (Cond.fieldLink RX7 227 RX6 "key" "I") ∧ goodWord (Cond.fieldLink RX7 227 RX6 "key" "I") = true := by decide +kernel
theorem tw_208 : Cond.fieldLink RX6 22 RX6 "pointHold" "[Z" ∈ TB := tb_in 208 TW38.1 TW38.2.1
theorem tw_209 : Cond.fieldLink RX6 26 RX6 "key" "I" ∈ TB := tb_in 209 TW38.2.2.1 TW38.2.2.2.1
theorem tw_210 : Cond.fieldLink RX5 72 RX6 "key" "I" ∈ TB := tb_in 210 TW38.2.2.2.2.1 TW38.2.2.2.2.2.1
theorem tw_211 : Cond.fieldLink RX7 227 RX6 "key" "I" ∈ TB := tb_in 211 TW38.2.2.2.2.2.2.1 TW38.2.2.2.2.2.2.2
set_option maxRecDepth 100000 in
theorem TW39 : lw_tbl[212]? = some (Cond.fieldLink RX6 46 RX6 "threshold" "I") ∧ goodWord (Cond.fieldLink RX6 46 RX6 "threshold" "I") = true ∧ lw_tbl[213]? = some (Cond.fieldLink RX7 235 RX6 "threshold" "I") ∧ goodWord (Cond.fieldLink RX7 235 RX6 "threshold" "I") = true ∧ lw_tbl[214]? = some (Cond.fieldLink RX6 49 RX6 "floorGain" "I") ∧ goodWord (Cond.fieldLink RX6 49 RX6 "floorGain" "I") = true ∧ lw_tbl[215]? = some (Cond.fieldLink RX1 19 RX6 "floorGain" "I") ∧ goodWord (Cond.fieldLink RX1 19 RX6 "floorGain" "I") = true := by decide +kernel
theorem tw_212 : Cond.fieldLink RX6 46 RX6 "threshold" "I" ∈ TB := tb_in 212 TW39.1 TW39.2.1
theorem tw_213 : Cond.fieldLink RX7 235 RX6 "threshold" "I" ∈ TB := tb_in 213 TW39.2.2.1 TW39.2.2.2.1
theorem tw_214 : Cond.fieldLink RX6 49 RX6 "floorGain" "I" ∈ TB := tb_in 214 TW39.2.2.2.2.1 TW39.2.2.2.2.2.1
theorem tw_215 : Cond.fieldLink RX1 19 RX6 "floorGain" "I" ∈ TB := tb_in 215 TW39.2.2.2.2.2.2.1 TW39.2.2.2.2.2.2.2
set_option maxRecDepth 100000 in
theorem TW40 : lw_tbl[216]? = some (Cond.fieldLink RX7 238 RX6 "floorGain" "I") ∧ goodWord (Cond.fieldLink RX7 238 RX6 "floorGain" "I") = true ∧ lw_tbl[217]? = some (Cond.fieldLink RX6 52 RX6 "attack" "I") ∧ goodWord (Cond.fieldLink RX6 52 RX6 "attack" "I") = true ∧ lw_tbl[218]? = some (Cond.fieldLink RX1 24 RX6 "attack" "I") ∧ goodWord (Cond.fieldLink RX1 24 RX6 "attack" "I") = true ∧ lw_tbl[219]? = some (Cond.fieldLink RX7 241 RX6 "attack" "I") ∧ goodWord (Cond.fieldLink RX7 241 RX6 "attack" "I") = true := by decide +kernel
theorem tw_216 : Cond.fieldLink RX7 238 RX6 "floorGain" "I" ∈ TB := tb_in 216 TW40.1 TW40.2.1
theorem tw_217 : Cond.fieldLink RX6 52 RX6 "attack" "I" ∈ TB := tb_in 217 TW40.2.2.1 TW40.2.2.2.1
theorem tw_218 : Cond.fieldLink RX1 24 RX6 "attack" "I" ∈ TB := tb_in 218 TW40.2.2.2.2.1 TW40.2.2.2.2.2.1
theorem tw_219 : Cond.fieldLink RX7 241 RX6 "attack" "I" ∈ TB := tb_in 219 TW40.2.2.2.2.2.2.1 TW40.2.2.2.2.2.2.2
set_option maxRecDepth 100000 in
theorem TW41 : lw_tbl[220]? = some (Cond.fieldLink RX6 55 RX6 "release" "I") ∧ goodWord (Cond.fieldLink RX6 55 RX6 "release" "I") = true ∧ lw_tbl[221]? = some (Cond.fieldLink RX1 33 RX6 "release" "I") ∧ goodWord (Cond.fieldLink RX1 33 RX6 "release" "I") = true ∧ lw_tbl[222]? = some (Cond.fieldLink RX7 244 RX6 "release" "I") ∧ goodWord (Cond.fieldLink RX7 244 RX6 "release" "I") = true ∧ lw_tbl[250]? = some (Cond.arrayClass .int) ∧ goodWord (Cond.arrayClass .int) = true := by decide +kernel
theorem tw_220 : Cond.fieldLink RX6 55 RX6 "release" "I" ∈ TB := tb_in 220 TW41.1 TW41.2.1
theorem tw_221 : Cond.fieldLink RX1 33 RX6 "release" "I" ∈ TB := tb_in 221 TW41.2.2.1 TW41.2.2.2.1
theorem tw_222 : Cond.fieldLink RX7 244 RX6 "release" "I" ∈ TB := tb_in 222 TW41.2.2.2.2.1 TW41.2.2.2.2.2.1
theorem tw_250 : Cond.arrayClass .int ∈ TB := tb_in 250 TW41.2.2.2.2.2.2.1 TW41.2.2.2.2.2.2.2
set_option maxRecDepth 100000 in
theorem TW42 : lw_tbl[251]? = some (Cond.arrayClass .boolean) ∧ goodWord (Cond.arrayClass .boolean) = true ∧ lw_tbl[252]? = some (Cond.fieldLink RX5 11 RX5 "sources" "[LClipMixer$Source;") ∧ goodWord (Cond.fieldLink RX5 11 RX5 "sources" "[LClipMixer$Source;") = true ∧ lw_tbl[253]? = some (Cond.fieldLink RX7 52 RX5 "sources" "[LClipMixer$Source;") ∧ goodWord (Cond.fieldLink RX7 52 RX5 "sources" "[LClipMixer$Source;") = true ∧ lw_tbl[254]? = some (Cond.fieldLink RX5 19 RX5 "clipRow" "[LClipMixer$Clip;") ∧ goodWord (Cond.fieldLink RX5 19 RX5 "clipRow" "[LClipMixer$Clip;") = true := by decide +kernel
theorem tw_251 : Cond.arrayClass .boolean ∈ TB := tb_in 251 TW42.1 TW42.2.1
theorem tw_252 : Cond.fieldLink RX5 11 RX5 "sources" "[LClipMixer$Source;" ∈ TB := tb_in 252 TW42.2.2.1 TW42.2.2.2.1
theorem tw_253 : Cond.fieldLink RX7 52 RX5 "sources" "[LClipMixer$Source;" ∈ TB := tb_in 253 TW42.2.2.2.2.1 TW42.2.2.2.2.2.1
theorem tw_254 : Cond.fieldLink RX5 19 RX5 "clipRow" "[LClipMixer$Clip;" ∈ TB := tb_in 254 TW42.2.2.2.2.2.2.1 TW42.2.2.2.2.2.2.2
set_option maxRecDepth 100000 in
theorem TW43 : lw_tbl[255]? = some (Cond.fieldLink RX7 100 RX5 "clipRow" "[LClipMixer$Clip;") ∧ goodWord (Cond.fieldLink RX7 100 RX5 "clipRow" "[LClipMixer$Clip;") = true ∧ lw_tbl[256]? = some (Cond.fieldLink RX5 50 RX5 "clipCount" "I") ∧ goodWord (Cond.fieldLink RX5 50 RX5 "clipCount" "I") = true ∧ lw_tbl[257]? = some (Cond.fieldLink RX7 144 RX5 "clipCount" "I") ∧ goodWord (Cond.fieldLink RX7 144 RX5 "clipCount" "I") = true ∧ lw_tbl[258]? = some (Cond.fieldLink RX5 25 RX5 "tracks" "[LClipMixer$Track;") ∧ goodWord (Cond.fieldLink RX5 25 RX5 "tracks" "[LClipMixer$Track;") = true := by decide +kernel
theorem tw_255 : Cond.fieldLink RX7 100 RX5 "clipRow" "[LClipMixer$Clip;" ∈ TB := tb_in 255 TW43.1 TW43.2.1
theorem tw_256 : Cond.fieldLink RX5 50 RX5 "clipCount" "I" ∈ TB := tb_in 256 TW43.2.2.1 TW43.2.2.2.1
theorem tw_257 : Cond.fieldLink RX7 144 RX5 "clipCount" "I" ∈ TB := tb_in 257 TW43.2.2.2.2.1 TW43.2.2.2.2.2.1
theorem tw_258 : Cond.fieldLink RX5 25 RX5 "tracks" "[LClipMixer$Track;" ∈ TB := tb_in 258 TW43.2.2.2.2.2.2.1 TW43.2.2.2.2.2.2.2
set_option maxRecDepth 100000 in
theorem TW44 : lw_tbl[259]? = some (Cond.fieldLink RX7 179 RX5 "tracks" "[LClipMixer$Track;") ∧ goodWord (Cond.fieldLink RX7 179 RX5 "tracks" "[LClipMixer$Track;") = true ∧ lw_tbl[260]? = some (Cond.fieldLink RX5 29 RX5 "master" "I") ∧ goodWord (Cond.fieldLink RX5 29 RX5 "master" "I") = true ∧ lw_tbl[261]? = some (Cond.fieldLink RX7 265 RX5 "master" "I") ∧ goodWord (Cond.fieldLink RX7 265 RX5 "master" "I") = true ∧ lw_tbl[262]? = some (Cond.fieldLink RX5 59 RX5 "playhead" "I") ∧ goodWord (Cond.fieldLink RX5 59 RX5 "playhead" "I") = true := by decide +kernel
theorem tw_259 : Cond.fieldLink RX7 179 RX5 "tracks" "[LClipMixer$Track;" ∈ TB := tb_in 259 TW44.1 TW44.2.1
theorem tw_260 : Cond.fieldLink RX5 29 RX5 "master" "I" ∈ TB := tb_in 260 TW44.2.2.1 TW44.2.2.2.1
theorem tw_261 : Cond.fieldLink RX7 265 RX5 "master" "I" ∈ TB := tb_in 261 TW44.2.2.2.2.1 TW44.2.2.2.2.2.1
theorem tw_262 : Cond.fieldLink RX5 59 RX5 "playhead" "I" ∈ TB := tb_in 262 TW44.2.2.2.2.2.2.1 TW44.2.2.2.2.2.2.2
set_option maxRecDepth 100000 in
theorem TW45 : lw_tbl[263]? = some (Cond.fieldLink RX7 287 RX5 "playhead" "I") ∧ goodWord (Cond.fieldLink RX7 287 RX5 "playhead" "I") = true ∧ lw_tbl[264]? = some (Cond.fieldLink RX5 62 RX5 "loopFrom" "I") ∧ goodWord (Cond.fieldLink RX5 62 RX5 "loopFrom" "I") = true ∧ lw_tbl[265]? = some (Cond.fieldLink RX7 281 RX5 "loopFrom" "I") ∧ goodWord (Cond.fieldLink RX7 281 RX5 "loopFrom" "I") = true ∧ lw_tbl[266]? = some (Cond.fieldLink RX5 33 RX5 "loopTo" "I") ∧ goodWord (Cond.fieldLink RX5 33 RX5 "loopTo" "I") = true := by decide +kernel
theorem tw_263 : Cond.fieldLink RX7 287 RX5 "playhead" "I" ∈ TB := tb_in 263 TW45.1 TW45.2.1
theorem tw_264 : Cond.fieldLink RX5 62 RX5 "loopFrom" "I" ∈ TB := tb_in 264 TW45.2.2.1 TW45.2.2.2.1
theorem tw_265 : Cond.fieldLink RX7 281 RX5 "loopFrom" "I" ∈ TB := tb_in 265 TW45.2.2.2.2.1 TW45.2.2.2.2.2.1
theorem tw_266 : Cond.fieldLink RX5 33 RX5 "loopTo" "I" ∈ TB := tb_in 266 TW45.2.2.2.2.2.2.1 TW45.2.2.2.2.2.2.2
set_option maxRecDepth 100000 in
theorem TW46 : lw_tbl[267]? = some (Cond.fieldLink RX7 284 RX5 "loopTo" "I") ∧ goodWord (Cond.fieldLink RX7 284 RX5 "loopTo" "I") = true ∧ lw_tbl[268]? = some (Cond.fieldLink RX5 39 RX5 "meters" "LClipMixer$Meters;") ∧ goodWord (Cond.fieldLink RX5 39 RX5 "meters" "LClipMixer$Meters;") = true ∧ lw_tbl[269]? = some (Cond.fieldLink RX7 292 RX5 "meters" "LClipMixer$Meters;") ∧ goodWord (Cond.fieldLink RX7 292 RX5 "meters" "LClipMixer$Meters;") = true ∧ lw_tbl[290]? = some (Cond.classLink RX7 23 RX1) ∧ goodWord (Cond.classLink RX7 23 RX1) = true := by decide +kernel
theorem tw_267 : Cond.fieldLink RX7 284 RX5 "loopTo" "I" ∈ TB := tb_in 267 TW46.1 TW46.2.1
theorem tw_268 : Cond.fieldLink RX5 39 RX5 "meters" "LClipMixer$Meters;" ∈ TB := tb_in 268 TW46.2.2.1 TW46.2.2.2.1
theorem tw_269 : Cond.fieldLink RX7 292 RX5 "meters" "LClipMixer$Meters;" ∈ TB := tb_in 269 TW46.2.2.2.2.1 TW46.2.2.2.2.2.1
theorem tw_290 : Cond.classLink RX7 23 RX1 ∈ TB := tb_in 290 TW46.2.2.2.2.2.2.1 TW46.2.2.2.2.2.2.2
set_option maxRecDepth 100000 in
theorem TW47 : lw_tbl[292]? = some (Cond.classLink RX7 29 RX2) ∧ goodWord (Cond.classLink RX7 29 RX2) = true ∧ lw_tbl[293]? = some (Cond.instantiable RX2 3) ∧ goodWord (Cond.instantiable RX2 3) = true ∧ lw_tbl[295]? = some (Cond.instanceMethod yX2_init) ∧ goodWord (Cond.instanceMethod yX2_init) = true ∧ lw_tbl[296]? = some (Cond.code yX2_init cX2_init 1 none) ∧ goodWord (Cond.code yX2_init cX2_init 1 none) = true := by decide +kernel
theorem tw_292 : Cond.classLink RX7 29 RX2 ∈ TB := tb_in 292 TW47.1 TW47.2.1
theorem tw_293 : Cond.instantiable RX2 3 ∈ TB := tb_in 293 TW47.2.2.1 TW47.2.2.2.1
theorem tw_295 : Cond.instanceMethod yX2_init ∈ TB := tb_in 295 TW47.2.2.2.2.1 TW47.2.2.2.2.2.1
theorem tw_296 : Cond.code yX2_init cX2_init 1 none ∈ TB := tb_in 296 TW47.2.2.2.2.2.2.1 TW47.2.2.2.2.2.2.2
set_option maxRecDepth 100000 in
theorem TW48 : lw_tbl[297]? = some (Cond.methodLink RX2 3 objectInit) ∧ goodWord (Cond.methodLink RX2 3 objectInit) = true ∧ lw_tbl[298]? = some (Cond.fieldLink RX2 18 RX2 "left" "I") ∧ goodWord (Cond.fieldLink RX2 18 RX2 "left" "I") = true ∧ lw_tbl[299]? = some (Cond.fieldLink RX3 29 RX2 "left" "I") ∧ goodWord (Cond.fieldLink RX3 29 RX2 "left" "I") = true ∧ lw_tbl[300]? = some (Cond.fieldLink RX7 278 RX2 "left" "I") ∧ goodWord (Cond.fieldLink RX7 278 RX2 "left" "I") = true := by decide +kernel
theorem tw_297 : Cond.methodLink RX2 3 objectInit ∈ TB := tb_in 297 TW48.1 TW48.2.1
theorem tw_298 : Cond.fieldLink RX2 18 RX2 "left" "I" ∈ TB := tb_in 298 TW48.2.2.1 TW48.2.2.2.1
theorem tw_299 : Cond.fieldLink RX3 29 RX2 "left" "I" ∈ TB := tb_in 299 TW48.2.2.2.2.1 TW48.2.2.2.2.2.1
theorem tw_300 : Cond.fieldLink RX7 278 RX2 "left" "I" ∈ TB := tb_in 300 TW48.2.2.2.2.2.2.1 TW48.2.2.2.2.2.2.2
set_option maxRecDepth 100000 in
theorem TW49 : lw_tbl[301]? = some (Cond.fieldLink RX2 24 RX2 "right" "I") ∧ goodWord (Cond.fieldLink RX2 24 RX2 "right" "I") = true ∧ lw_tbl[302]? = some (Cond.fieldLink RX3 45 RX2 "right" "I") ∧ goodWord (Cond.fieldLink RX3 45 RX2 "right" "I") = true ∧ lw_tbl[303]? = some (Cond.fieldLink RX7 275 RX2 "right" "I") ∧ goodWord (Cond.fieldLink RX7 275 RX2 "right" "I") = true ∧ lw_tbl[304]? = some (Cond.fieldLink RX2 27 RX2 "clipped" "I") ∧ goodWord (Cond.fieldLink RX2 27 RX2 "clipped" "I") = true := by decide +kernel
theorem tw_301 : Cond.fieldLink RX2 24 RX2 "right" "I" ∈ TB := tb_in 301 TW49.1 TW49.2.1
theorem tw_302 : Cond.fieldLink RX3 45 RX2 "right" "I" ∈ TB := tb_in 302 TW49.2.2.1 TW49.2.2.2.1
theorem tw_303 : Cond.fieldLink RX7 275 RX2 "right" "I" ∈ TB := tb_in 303 TW49.2.2.2.2.1 TW49.2.2.2.2.2.1
theorem tw_304 : Cond.fieldLink RX2 27 RX2 "clipped" "I" ∈ TB := tb_in 304 TW49.2.2.2.2.2.2.1 TW49.2.2.2.2.2.2.2
set_option maxRecDepth 100000 in
theorem TW50 : lw_tbl[305]? = some (Cond.fieldLink RX3 48 RX2 "clipped" "I") ∧ goodWord (Cond.fieldLink RX3 48 RX2 "clipped" "I") = true ∧ lw_tbl[313]? = some (Cond.instantiable RX1 2) ∧ goodWord (Cond.instantiable RX1 2) = true ∧ lw_tbl[314]? = some (Cond.methodLink RX7 36 yX1_init) ∧ goodWord (Cond.methodLink RX7 36 yX1_init) = true ∧ lw_tbl[315]? = some (Cond.instanceMethod yX1_init) ∧ goodWord (Cond.instanceMethod yX1_init) = true := by decide +kernel
theorem tw_305 : Cond.fieldLink RX3 48 RX2 "clipped" "I" ∈ TB := tb_in 305 TW50.1 TW50.2.1
theorem tw_313 : Cond.instantiable RX1 2 ∈ TB := tb_in 313 TW50.2.2.1 TW50.2.2.2.1
theorem tw_314 : Cond.methodLink RX7 36 yX1_init ∈ TB := tb_in 314 TW50.2.2.2.2.1 TW50.2.2.2.2.2.1
theorem tw_315 : Cond.instanceMethod yX1_init ∈ TB := tb_in 315 TW50.2.2.2.2.2.2.1 TW50.2.2.2.2.2.2.2
set_option maxRecDepth 100000 in
theorem TW51 : lw_tbl[316]? = some (Cond.code yX1_init cX1_init 1 none) ∧ goodWord (Cond.code yX1_init cX1_init 1 none) = true ∧ lw_tbl[317]? = some (Cond.methodLink RX1 3 objectInit) ∧ goodWord (Cond.methodLink RX1 3 objectInit) = true ∧ lw_tbl[318]? = some (Cond.fieldLink RX1 9 RX1 "ends" "[I") ∧ goodWord (Cond.fieldLink RX1 9 RX1 "ends" "[I") = true ∧ lw_tbl[319]? = some (Cond.fieldLink RX1 15 RX1 "windows" "I") ∧ goodWord (Cond.fieldLink RX1 15 RX1 "windows" "I") = true := by decide +kernel
theorem tw_316 : Cond.code yX1_init cX1_init 1 none ∈ TB := tb_in 316 TW51.1 TW51.2.1
theorem tw_317 : Cond.methodLink RX1 3 objectInit ∈ TB := tb_in 317 TW51.2.2.1 TW51.2.2.2.1
theorem tw_318 : Cond.fieldLink RX1 9 RX1 "ends" "[I" ∈ TB := tb_in 318 TW51.2.2.2.2.1 TW51.2.2.2.2.2.1
theorem tw_319 : Cond.fieldLink RX1 15 RX1 "windows" "I" ∈ TB := tb_in 319 TW51.2.2.2.2.2.2.1 TW51.2.2.2.2.2.2.2
set_option maxRecDepth 100000 in
theorem TW52 : lw_tbl[320]? = some (Cond.fieldLink RX7 382 RX1 "windows" "I") ∧ goodWord (Cond.fieldLink RX7 382 RX1 "windows" "I") = true ∧ lw_tbl[326]? = some (Cond.fieldLink RX7 12 RX7 "now" "LClipMixer$State;") ∧ goodWord (Cond.fieldLink RX7 12 RX7 "now" "LClipMixer$State;") = true ∧ lw_tbl[327]? = some (Cond.fieldLink RX7 16 RX7 "spare" "LClipMixer$State;") ∧ goodWord (Cond.fieldLink RX7 16 RX7 "spare" "LClipMixer$State;") = true ∧ lw_tbl[328]? = some (Cond.fieldLink RX7 19 RX7 "saved" "[LClipMixer$State;") ∧ goodWord (Cond.fieldLink RX7 19 RX7 "saved" "[LClipMixer$State;") = true := by decide +kernel
theorem tw_320 : Cond.fieldLink RX7 382 RX1 "windows" "I" ∈ TB := tb_in 320 TW52.1 TW52.2.1
theorem tw_326 : Cond.fieldLink RX7 12 RX7 "now" "LClipMixer$State;" ∈ TB := tb_in 326 TW52.2.2.1 TW52.2.2.2.1
theorem tw_327 : Cond.fieldLink RX7 16 RX7 "spare" "LClipMixer$State;" ∈ TB := tb_in 327 TW52.2.2.2.2.1 TW52.2.2.2.2.2.1
theorem tw_328 : Cond.fieldLink RX7 19 RX7 "saved" "[LClipMixer$State;" ∈ TB := tb_in 328 TW52.2.2.2.2.2.2.1 TW52.2.2.2.2.2.2.2
set_option maxRecDepth 100000 in
theorem TW53 : lw_tbl[329]? = some (Cond.fieldLink RX7 323 RX7 "savedCount" "I") ∧ goodWord (Cond.fieldLink RX7 323 RX7 "savedCount" "I") = true ∧ lw_tbl[330]? = some (Cond.fieldLink RX7 25 RX7 "curves" "[LClipMixer$DuckCurve;") ∧ goodWord (Cond.fieldLink RX7 25 RX7 "curves" "[LClipMixer$DuckCurve;") = true ∧ lw_tbl[331]? = some (Cond.fieldLink RX7 32 RX7 "frame" "LClipMixer$Frame;") ∧ goodWord (Cond.fieldLink RX7 32 RX7 "frame" "LClipMixer$Frame;") = true ∧ lw_tbl[353]? = some (Cond.methodLink RX7 62 yX7_draft) ∧ goodWord (Cond.methodLink RX7 62 yX7_draft) = true := by decide +kernel
theorem tw_329 : Cond.fieldLink RX7 323 RX7 "savedCount" "I" ∈ TB := tb_in 329 TW53.1 TW53.2.1
theorem tw_330 : Cond.fieldLink RX7 25 RX7 "curves" "[LClipMixer$DuckCurve;" ∈ TB := tb_in 330 TW53.2.2.1 TW53.2.2.2.1
theorem tw_331 : Cond.fieldLink RX7 32 RX7 "frame" "LClipMixer$Frame;" ∈ TB := tb_in 331 TW53.2.2.2.2.1 TW53.2.2.2.2.2.1
theorem tw_353 : Cond.methodLink RX7 62 yX7_draft ∈ TB := tb_in 353 TW53.2.2.2.2.2.2.1 TW53.2.2.2.2.2.2.2
set_option maxRecDepth 100000 in
theorem TW54 : lw_tbl[355]? = some (Cond.instanceMethod yX7_draft) ∧ goodWord (Cond.instanceMethod yX7_draft) = true ∧ lw_tbl[356]? = some (Cond.code yX7_draft cX7_draft 1 (some (.object "ClipMixer$State"))) ∧ goodWord (Cond.code yX7_draft cX7_draft 1 (some (.object "ClipMixer$State"))) = true ∧ lw_tbl[357]? = some (Cond.methodLink RX7 368 yX5_takeFrom) ∧ goodWord (Cond.methodLink RX7 368 yX5_takeFrom) = true ∧ lw_tbl[358]? = some (Cond.instanceMethod yX5_takeFrom) ∧ goodWord (Cond.instanceMethod yX5_takeFrom) = true := by decide +kernel
theorem tw_355 : Cond.instanceMethod yX7_draft ∈ TB := tb_in 355 TW54.1 TW54.2.1
theorem tw_356 : Cond.code yX7_draft cX7_draft 1 (some (.object "ClipMixer$State")) ∈ TB := tb_in 356 TW54.2.2.1 TW54.2.2.2.1
theorem tw_357 : Cond.methodLink RX7 368 yX5_takeFrom ∈ TB := tb_in 357 TW54.2.2.2.2.1 TW54.2.2.2.2.2.1
theorem tw_358 : Cond.instanceMethod yX5_takeFrom ∈ TB := tb_in 358 TW54.2.2.2.2.2.2.1 TW54.2.2.2.2.2.2.2
set_option maxRecDepth 100000 in
theorem TW55 : lw_tbl[359]? = some (Cond.selects RX5 yX5_takeFrom yX5_takeFrom) ∧ goodWord (Cond.selects RX5 yX5_takeFrom yX5_takeFrom) = true ∧ lw_tbl[360]? = some (Cond.code yX5_takeFrom cX5_takeFrom 3 none) ∧ goodWord (Cond.code yX5_takeFrom cX5_takeFrom 3 none) = true ∧ lw_tbl[361]? = some (Cond.methodLink RX5 46 yX4_takeFrom) ∧ goodWord (Cond.methodLink RX5 46 yX4_takeFrom) = true ∧ lw_tbl[362]? = some (Cond.instanceMethod yX4_takeFrom) ∧ goodWord (Cond.instanceMethod yX4_takeFrom) = true := by decide +kernel
theorem tw_359 : Cond.selects RX5 yX5_takeFrom yX5_takeFrom ∈ TB := tb_in 359 TW55.1 TW55.2.1
theorem tw_360 : Cond.code yX5_takeFrom cX5_takeFrom 3 none ∈ TB := tb_in 360 TW55.2.2.1 TW55.2.2.2.1
theorem tw_361 : Cond.methodLink RX5 46 yX4_takeFrom ∈ TB := tb_in 361 TW55.2.2.2.2.1 TW55.2.2.2.2.2.1
theorem tw_362 : Cond.instanceMethod yX4_takeFrom ∈ TB := tb_in 362 TW55.2.2.2.2.2.2.1 TW55.2.2.2.2.2.2.2
set_option maxRecDepth 100000 in
theorem TW56 : lw_tbl[363]? = some (Cond.selects RX4 yX4_takeFrom yX4_takeFrom) ∧ goodWord (Cond.selects RX4 yX4_takeFrom yX4_takeFrom) = true ∧ lw_tbl[364]? = some (Cond.code yX4_takeFrom cX4_takeFrom 2 none) ∧ goodWord (Cond.code yX4_takeFrom cX4_takeFrom 2 none) = true ∧ lw_tbl[365]? = some (Cond.methodLink RX4 24 yX4_define) ∧ goodWord (Cond.methodLink RX4 24 yX4_define) = true ∧ lw_tbl[366]? = some (Cond.instanceMethod yX4_define) ∧ goodWord (Cond.instanceMethod yX4_define) = true := by decide +kernel
theorem tw_363 : Cond.selects RX4 yX4_takeFrom yX4_takeFrom ∈ TB := tb_in 363 TW56.1 TW56.2.1
theorem tw_364 : Cond.code yX4_takeFrom cX4_takeFrom 2 none ∈ TB := tb_in 364 TW56.2.2.1 TW56.2.2.2.1
theorem tw_365 : Cond.methodLink RX4 24 yX4_define ∈ TB := tb_in 365 TW56.2.2.2.2.1 TW56.2.2.2.2.2.1
theorem tw_366 : Cond.instanceMethod yX4_define ∈ TB := tb_in 366 TW56.2.2.2.2.2.2.1 TW56.2.2.2.2.2.2.2
set_option maxRecDepth 100000 in
theorem TW57 : lw_tbl[367]? = some (Cond.selects RX4 yX4_define yX4_define) ∧ goodWord (Cond.selects RX4 yX4_define yX4_define) = true ∧ lw_tbl[368]? = some (Cond.code yX4_define cX4_define 5 none) ∧ goodWord (Cond.code yX4_define cX4_define 5 none) = true ∧ lw_tbl[369]? = some (Cond.methodLink RX5 53 yX0_takeFrom) ∧ goodWord (Cond.methodLink RX5 53 yX0_takeFrom) = true ∧ lw_tbl[370]? = some (Cond.instanceMethod yX0_takeFrom) ∧ goodWord (Cond.instanceMethod yX0_takeFrom) = true := by decide +kernel
theorem tw_367 : Cond.selects RX4 yX4_define yX4_define ∈ TB := tb_in 367 TW57.1 TW57.2.1
theorem tw_368 : Cond.code yX4_define cX4_define 5 none ∈ TB := tb_in 368 TW57.2.2.1 TW57.2.2.2.1
theorem tw_369 : Cond.methodLink RX5 53 yX0_takeFrom ∈ TB := tb_in 369 TW57.2.2.2.2.1 TW57.2.2.2.2.2.1
theorem tw_370 : Cond.instanceMethod yX0_takeFrom ∈ TB := tb_in 370 TW57.2.2.2.2.2.2.1 TW57.2.2.2.2.2.2.2
set_option maxRecDepth 100000 in
theorem TW58 : lw_tbl[371]? = some (Cond.selects RX0 yX0_takeFrom yX0_takeFrom) ∧ goodWord (Cond.selects RX0 yX0_takeFrom yX0_takeFrom) = true ∧ lw_tbl[372]? = some (Cond.code yX0_takeFrom cX0_takeFrom 2 none) ∧ goodWord (Cond.code yX0_takeFrom cX0_takeFrom 2 none) = true ∧ lw_tbl[373]? = some (Cond.methodLink RX0 39 yX0_place) ∧ goodWord (Cond.methodLink RX0 39 yX0_place) = true ∧ lw_tbl[374]? = some (Cond.instanceMethod yX0_place) ∧ goodWord (Cond.instanceMethod yX0_place) = true := by decide +kernel
theorem tw_371 : Cond.selects RX0 yX0_takeFrom yX0_takeFrom ∈ TB := tb_in 371 TW58.1 TW58.2.1
theorem tw_372 : Cond.code yX0_takeFrom cX0_takeFrom 2 none ∈ TB := tb_in 372 TW58.2.2.1 TW58.2.2.2.1
theorem tw_373 : Cond.methodLink RX0 39 yX0_place ∈ TB := tb_in 373 TW58.2.2.2.2.1 TW58.2.2.2.2.2.1
theorem tw_374 : Cond.instanceMethod yX0_place ∈ TB := tb_in 374 TW58.2.2.2.2.2.2.1 TW58.2.2.2.2.2.2.2
set_option maxRecDepth 100000 in
theorem TW59 : lw_tbl[375]? = some (Cond.selects RX0 yX0_place yX0_place) ∧ goodWord (Cond.selects RX0 yX0_place yX0_place) = true ∧ lw_tbl[376]? = some (Cond.code yX0_place cX0_place 4 none) ∧ goodWord (Cond.code yX0_place cX0_place 4 none) = true ∧ lw_tbl[377]? = some (Cond.methodLink RX0 43 yX0_play) ∧ goodWord (Cond.methodLink RX0 43 yX0_play) = true ∧ lw_tbl[378]? = some (Cond.instanceMethod yX0_play) ∧ goodWord (Cond.instanceMethod yX0_play) = true := by decide +kernel
theorem tw_375 : Cond.selects RX0 yX0_place yX0_place ∈ TB := tb_in 375 TW59.1 TW59.2.1
theorem tw_376 : Cond.code yX0_place cX0_place 4 none ∈ TB := tb_in 376 TW59.2.2.1 TW59.2.2.2.1
theorem tw_377 : Cond.methodLink RX0 43 yX0_play ∈ TB := tb_in 377 TW59.2.2.2.2.1 TW59.2.2.2.2.2.1
theorem tw_378 : Cond.instanceMethod yX0_play ∈ TB := tb_in 378 TW59.2.2.2.2.2.2.1 TW59.2.2.2.2.2.2.2
set_option maxRecDepth 100000 in
theorem TW60 : lw_tbl[379]? = some (Cond.selects RX0 yX0_play yX0_play) ∧ goodWord (Cond.selects RX0 yX0_play yX0_play) = true ∧ lw_tbl[380]? = some (Cond.code yX0_play cX0_play 4 none) ∧ goodWord (Cond.code yX0_play cX0_play 4 none) = true ∧ lw_tbl[381]? = some (Cond.methodLink RX0 46 yX0_fade) ∧ goodWord (Cond.methodLink RX0 46 yX0_fade) = true ∧ lw_tbl[382]? = some (Cond.instanceMethod yX0_fade) ∧ goodWord (Cond.instanceMethod yX0_fade) = true := by decide +kernel
theorem tw_379 : Cond.selects RX0 yX0_play yX0_play ∈ TB := tb_in 379 TW60.1 TW60.2.1
theorem tw_380 : Cond.code yX0_play cX0_play 4 none ∈ TB := tb_in 380 TW60.2.2.1 TW60.2.2.2.1
theorem tw_381 : Cond.methodLink RX0 46 yX0_fade ∈ TB := tb_in 381 TW60.2.2.2.2.1 TW60.2.2.2.2.2.1
theorem tw_382 : Cond.instanceMethod yX0_fade ∈ TB := tb_in 382 TW60.2.2.2.2.2.2.1 TW60.2.2.2.2.2.2.2
set_option maxRecDepth 100000 in
theorem TW61 : lw_tbl[383]? = some (Cond.selects RX0 yX0_fade yX0_fade) ∧ goodWord (Cond.selects RX0 yX0_fade yX0_fade) = true ∧ lw_tbl[384]? = some (Cond.code yX0_fade cX0_fade 4 none) ∧ goodWord (Cond.code yX0_fade cX0_fade 4 none) = true ∧ lw_tbl[385]? = some (Cond.methodLink RX5 56 yX6_takeFrom) ∧ goodWord (Cond.methodLink RX5 56 yX6_takeFrom) = true ∧ lw_tbl[386]? = some (Cond.instanceMethod yX6_takeFrom) ∧ goodWord (Cond.instanceMethod yX6_takeFrom) = true := by decide +kernel
theorem tw_383 : Cond.selects RX0 yX0_fade yX0_fade ∈ TB := tb_in 383 TW61.1 TW61.2.1
theorem tw_384 : Cond.code yX0_fade cX0_fade 4 none ∈ TB := tb_in 384 TW61.2.2.1 TW61.2.2.2.1
theorem tw_385 : Cond.methodLink RX5 56 yX6_takeFrom ∈ TB := tb_in 385 TW61.2.2.2.2.1 TW61.2.2.2.2.2.1
theorem tw_386 : Cond.instanceMethod yX6_takeFrom ∈ TB := tb_in 386 TW61.2.2.2.2.2.2.1 TW61.2.2.2.2.2.2.2
set_option maxRecDepth 100000 in
theorem TW62 : lw_tbl[387]? = some (Cond.selects RX6 yX6_takeFrom yX6_takeFrom) ∧ goodWord (Cond.selects RX6 yX6_takeFrom yX6_takeFrom) = true ∧ lw_tbl[388]? = some (Cond.code yX6_takeFrom cX6_takeFrom 3 none) ∧ goodWord (Cond.code yX6_takeFrom cX6_takeFrom 3 none) = true ∧ lw_tbl[389]? = some (Cond.methodLink RX6 42 yX6_setPlace) ∧ goodWord (Cond.methodLink RX6 42 yX6_setPlace) = true ∧ lw_tbl[391]? = some (Cond.instanceMethod yX6_setPlace) ∧ goodWord (Cond.instanceMethod yX6_setPlace) = true := by decide +kernel
theorem tw_387 : Cond.selects RX6 yX6_takeFrom yX6_takeFrom ∈ TB := tb_in 387 TW62.1 TW62.2.1
theorem tw_388 : Cond.code yX6_takeFrom cX6_takeFrom 3 none ∈ TB := tb_in 388 TW62.2.2.1 TW62.2.2.2.1
theorem tw_389 : Cond.methodLink RX6 42 yX6_setPlace ∈ TB := tb_in 389 TW62.2.2.2.2.1 TW62.2.2.2.2.2.1
theorem tw_391 : Cond.instanceMethod yX6_setPlace ∈ TB := tb_in 391 TW62.2.2.2.2.2.2.1 TW62.2.2.2.2.2.2.2
set_option maxRecDepth 100000 in
theorem TW63 : lw_tbl[392]? = some (Cond.code yX6_setPlace cX6_setPlace 5 none) ∧ goodWord (Cond.code yX6_setPlace cX6_setPlace 5 none) = true ∧ lw_tbl[393]? = some (Cond.methodLink RX5 65 yX3_takeFrom) ∧ goodWord (Cond.methodLink RX5 65 yX3_takeFrom) = true ∧ lw_tbl[394]? = some (Cond.instanceMethod yX3_takeFrom) ∧ goodWord (Cond.instanceMethod yX3_takeFrom) = true ∧ lw_tbl[395]? = some (Cond.selects RX3 yX3_takeFrom yX3_takeFrom) ∧ goodWord (Cond.selects RX3 yX3_takeFrom yX3_takeFrom) = true := by decide +kernel
theorem tw_392 : Cond.code yX6_setPlace cX6_setPlace 5 none ∈ TB := tb_in 392 TW63.1 TW63.2.1
theorem tw_393 : Cond.methodLink RX5 65 yX3_takeFrom ∈ TB := tb_in 393 TW63.2.2.1 TW63.2.2.2.1
theorem tw_394 : Cond.instanceMethod yX3_takeFrom ∈ TB := tb_in 394 TW63.2.2.2.2.1 TW63.2.2.2.2.2.1
theorem tw_395 : Cond.selects RX3 yX3_takeFrom yX3_takeFrom ∈ TB := tb_in 395 TW63.2.2.2.2.2.2.1 TW63.2.2.2.2.2.2.2
set_option maxRecDepth 100000 in
theorem TW64 : lw_tbl[396]? = some (Cond.code yX3_takeFrom cX3_takeFrom 2 none) ∧ goodWord (Cond.code yX3_takeFrom cX3_takeFrom 2 none) = true ∧ lw_tbl[397]? = some (Cond.methodLink RX7 315 yX3_clear) ∧ goodWord (Cond.methodLink RX7 315 yX3_clear) = true ∧ lw_tbl[398]? = some (Cond.instanceMethod yX3_clear) ∧ goodWord (Cond.instanceMethod yX3_clear) = true ∧ lw_tbl[399]? = some (Cond.selects RX3 yX3_clear yX3_clear) ∧ goodWord (Cond.selects RX3 yX3_clear yX3_clear) = true := by decide +kernel
theorem tw_396 : Cond.code yX3_takeFrom cX3_takeFrom 2 none ∈ TB := tb_in 396 TW64.1 TW64.2.1
theorem tw_397 : Cond.methodLink RX7 315 yX3_clear ∈ TB := tb_in 397 TW64.2.2.1 TW64.2.2.2.1
theorem tw_398 : Cond.instanceMethod yX3_clear ∈ TB := tb_in 398 TW64.2.2.2.2.1 TW64.2.2.2.2.2.1
theorem tw_399 : Cond.selects RX3 yX3_clear yX3_clear ∈ TB := tb_in 399 TW64.2.2.2.2.2.2.1 TW64.2.2.2.2.2.2.2
set_option maxRecDepth 100000 in
theorem TW65 : lw_tbl[400]? = some (Cond.code yX3_clear cX3_clear 1 none) ∧ goodWord (Cond.code yX3_clear cX3_clear 1 none) = true ∧ lw_tbl[401]? = some (Cond.methodLink RX7 268 yX7_keepDraft) ∧ goodWord (Cond.methodLink RX7 268 yX7_keepDraft) = true ∧ lw_tbl[403]? = some (Cond.instanceMethod yX7_keepDraft) ∧ goodWord (Cond.instanceMethod yX7_keepDraft) = true ∧ lw_tbl[404]? = some (Cond.code yX7_keepDraft cX7_keepDraft 2 none) ∧ goodWord (Cond.code yX7_keepDraft cX7_keepDraft 2 none) = true := by decide +kernel
theorem tw_400 : Cond.code yX3_clear cX3_clear 1 none ∈ TB := tb_in 400 TW65.1 TW65.2.1
theorem tw_401 : Cond.methodLink RX7 268 yX7_keepDraft ∈ TB := tb_in 401 TW65.2.2.1 TW65.2.2.2.1
theorem tw_403 : Cond.instanceMethod yX7_keepDraft ∈ TB := tb_in 403 TW65.2.2.2.2.1 TW65.2.2.2.2.2.1
theorem tw_404 : Cond.code yX7_keepDraft cX7_keepDraft 2 none ∈ TB := tb_in 404 TW65.2.2.2.2.2.2.1 TW65.2.2.2.2.2.2.2
set_option maxRecDepth 100000 in
theorem TW66 : lw_tbl[405]? = some (Cond.methodLink RX7 371 yX7_dropOldest) ∧ goodWord (Cond.methodLink RX7 371 yX7_dropOldest) = true ∧ lw_tbl[407]? = some (Cond.instanceMethod yX7_dropOldest) ∧ goodWord (Cond.instanceMethod yX7_dropOldest) = true ∧ lw_tbl[408]? = some (Cond.code yX7_dropOldest cX7_dropOldest 3 none) ∧ goodWord (Cond.code yX7_dropOldest cX7_dropOldest 3 none) = true ∧ lw_tbl[413]? = some (Cond.methodLink RX7 131 yX0_end) ∧ goodWord (Cond.methodLink RX7 131 yX0_end) = true := by decide +kernel
theorem tw_405 : Cond.methodLink RX7 371 yX7_dropOldest ∈ TB := tb_in 405 TW66.1 TW66.2.1
theorem tw_407 : Cond.instanceMethod yX7_dropOldest ∈ TB := tb_in 407 TW66.2.2.1 TW66.2.2.2.1
theorem tw_408 : Cond.code yX7_dropOldest cX7_dropOldest 3 none ∈ TB := tb_in 408 TW66.2.2.2.2.1 TW66.2.2.2.2.2.1
theorem tw_413 : Cond.methodLink RX7 131 yX0_end ∈ TB := tb_in 413 TW66.2.2.2.2.2.2.1 TW66.2.2.2.2.2.2.2
set_option maxRecDepth 100000 in
theorem TW67 : lw_tbl[414]? = some (Cond.instanceMethod yX0_end) ∧ goodWord (Cond.instanceMethod yX0_end) = true ∧ lw_tbl[415]? = some (Cond.selects RX0 yX0_end yX0_end) ∧ goodWord (Cond.selects RX0 yX0_end yX0_end) = true ∧ lw_tbl[416]? = some (Cond.code yX0_end cX0_end 1 (some .int)) ∧ goodWord (Cond.code yX0_end cX0_end 1 (some .int)) = true ∧ lw_tbl[417]? = some (Cond.methodLink RX7 318 Lib.Math.max.name) ∧ goodWord (Cond.methodLink RX7 318 Lib.Math.max.name) = true := by decide +kernel
theorem tw_414 : Cond.instanceMethod yX0_end ∈ TB := tb_in 414 TW67.1 TW67.2.1
theorem tw_415 : Cond.selects RX0 yX0_end yX0_end ∈ TB := tb_in 415 TW67.2.2.1 TW67.2.2.2.1
theorem tw_416 : Cond.code yX0_end cX0_end 1 (some .int) ∈ TB := tb_in 416 TW67.2.2.2.2.1 TW67.2.2.2.2.2.1
theorem tw_417 : Cond.methodLink RX7 318 Lib.Math.max.name ∈ TB := tb_in 417 TW67.2.2.2.2.2.2.1 TW67.2.2.2.2.2.2.2
set_option maxRecDepth 100000 in
theorem TW68 : lw_tbl[418]? = some (Cond.static Lib.Math.max.name) ∧ goodWord (Cond.static Lib.Math.max.name) = true ∧ lw_tbl[419]? = some (Cond.code Lib.Math.max.name Lib.Math.max.code 2 (some .int)) ∧ goodWord (Cond.code Lib.Math.max.name Lib.Math.max.code 2 (some .int)) = true ∧ lw_tbl[424]? = some (Cond.constantLong RX7 331 (18363 : Int64)) ∧ goodWord (Cond.constantLong RX7 331 (18363 : Int64)) = true ∧ lw_tbl[425]? = some (Cond.methodLink RX7 333 yX7_hashed) ∧ goodWord (Cond.methodLink RX7 333 yX7_hashed) = true := by decide +kernel
theorem tw_418 : Cond.static Lib.Math.max.name ∈ TB := tb_in 418 TW68.1 TW68.2.1
theorem tw_419 : Cond.code Lib.Math.max.name Lib.Math.max.code 2 (some .int) ∈ TB := tb_in 419 TW68.2.2.1 TW68.2.2.2.1
theorem tw_424 : Cond.constantLong RX7 331 (18363 : Int64) ∈ TB := tb_in 424 TW68.2.2.2.2.1 TW68.2.2.2.2.2.1
theorem tw_425 : Cond.methodLink RX7 333 yX7_hashed ∈ TB := tb_in 425 TW68.2.2.2.2.2.2.1 TW68.2.2.2.2.2.2.2
set_option maxRecDepth 100000 in
theorem TW69 : lw_tbl[426]? = some (Cond.static yX7_hashed) ∧ goodWord (Cond.static yX7_hashed) = true ∧ lw_tbl[427]? = some (Cond.code yX7_hashed cX7_hashed 4 (some .long)) ∧ goodWord (Cond.code yX7_hashed cX7_hashed 4 (some .long)) = true ∧ lw_tbl[428]? = some (Cond.constantLong RX7 377 (31 : Int64)) ∧ goodWord (Cond.constantLong RX7 377 (31 : Int64)) = true ∧ lw_tbl[429]? = some (Cond.methodLink RX7 337 yX5_hashTransport) ∧ goodWord (Cond.methodLink RX7 337 yX5_hashTransport) = true := by decide +kernel
theorem tw_426 : Cond.static yX7_hashed ∈ TB := tb_in 426 TW69.1 TW69.2.1
theorem tw_427 : Cond.code yX7_hashed cX7_hashed 4 (some .long) ∈ TB := tb_in 427 TW69.2.2.1 TW69.2.2.2.1
theorem tw_428 : Cond.constantLong RX7 377 (31 : Int64) ∈ TB := tb_in 428 TW69.2.2.2.2.1 TW69.2.2.2.2.2.1
theorem tw_429 : Cond.methodLink RX7 337 yX5_hashTransport ∈ TB := tb_in 429 TW69.2.2.2.2.2.2.1 TW69.2.2.2.2.2.2.2
set_option maxRecDepth 100000 in
theorem TW70 : lw_tbl[430]? = some (Cond.instanceMethod yX5_hashTransport) ∧ goodWord (Cond.instanceMethod yX5_hashTransport) = true ∧ lw_tbl[431]? = some (Cond.selects RX5 yX5_hashTransport yX5_hashTransport) ∧ goodWord (Cond.selects RX5 yX5_hashTransport yX5_hashTransport) = true ∧ lw_tbl[432]? = some (Cond.code yX5_hashTransport cX5_hashTransport 6 (some .long)) ∧ goodWord (Cond.code yX5_hashTransport cX5_hashTransport 6 (some .long)) = true ∧ lw_tbl[434]? = some (Cond.methodLink RX5 176 yX3_reading) ∧ goodWord (Cond.methodLink RX5 176 yX3_reading) = true := by decide +kernel
theorem tw_430 : Cond.instanceMethod yX5_hashTransport ∈ TB := tb_in 430 TW70.1 TW70.2.1
theorem tw_431 : Cond.selects RX5 yX5_hashTransport yX5_hashTransport ∈ TB := tb_in 431 TW70.2.2.1 TW70.2.2.2.1
theorem tw_432 : Cond.code yX5_hashTransport cX5_hashTransport 6 (some .long) ∈ TB := tb_in 432 TW70.2.2.2.2.1 TW70.2.2.2.2.2.1
theorem tw_434 : Cond.methodLink RX5 176 yX3_reading ∈ TB := tb_in 434 TW70.2.2.2.2.2.2.1 TW70.2.2.2.2.2.2.2
set_option maxRecDepth 100000 in
theorem TW71 : lw_tbl[435]? = some (Cond.instanceMethod yX3_reading) ∧ goodWord (Cond.instanceMethod yX3_reading) = true ∧ lw_tbl[436]? = some (Cond.selects RX3 yX3_reading yX3_reading) ∧ goodWord (Cond.selects RX3 yX3_reading yX3_reading) = true ∧ lw_tbl[437]? = some (Cond.code yX3_reading cX3_reading 2 (some .long)) ∧ goodWord (Cond.code yX3_reading cX3_reading 2 (some .long)) = true ∧ lw_tbl[438]? = some (Cond.methodLink RX7 341 yX5_hashSources) ∧ goodWord (Cond.methodLink RX7 341 yX5_hashSources) = true := by decide +kernel
theorem tw_435 : Cond.instanceMethod yX3_reading ∈ TB := tb_in 435 TW71.1 TW71.2.1
theorem tw_436 : Cond.selects RX3 yX3_reading yX3_reading ∈ TB := tb_in 436 TW71.2.2.1 TW71.2.2.2.1
theorem tw_437 : Cond.code yX3_reading cX3_reading 2 (some .long) ∈ TB := tb_in 437 TW71.2.2.2.2.1 TW71.2.2.2.2.2.1
theorem tw_438 : Cond.methodLink RX7 341 yX5_hashSources ∈ TB := tb_in 438 TW71.2.2.2.2.2.2.1 TW71.2.2.2.2.2.2.2
set_option maxRecDepth 100000 in
theorem TW72 : lw_tbl[439]? = some (Cond.instanceMethod yX5_hashSources) ∧ goodWord (Cond.instanceMethod yX5_hashSources) = true ∧ lw_tbl[440]? = some (Cond.selects RX5 yX5_hashSources yX5_hashSources) ∧ goodWord (Cond.selects RX5 yX5_hashSources yX5_hashSources) = true ∧ lw_tbl[441]? = some (Cond.code yX5_hashSources cX5_hashSources 9 (some .long)) ∧ goodWord (Cond.code yX5_hashSources cX5_hashSources 9 (some .long)) = true ∧ lw_tbl[442]? = some (Cond.methodLink RX7 344 yX5_hashClips) ∧ goodWord (Cond.methodLink RX7 344 yX5_hashClips) = true := by decide +kernel
theorem tw_439 : Cond.instanceMethod yX5_hashSources ∈ TB := tb_in 439 TW72.1 TW72.2.1
theorem tw_440 : Cond.selects RX5 yX5_hashSources yX5_hashSources ∈ TB := tb_in 440 TW72.2.2.1 TW72.2.2.2.1
theorem tw_441 : Cond.code yX5_hashSources cX5_hashSources 9 (some .long) ∈ TB := tb_in 441 TW72.2.2.2.2.1 TW72.2.2.2.2.2.1
theorem tw_442 : Cond.methodLink RX7 344 yX5_hashClips ∈ TB := tb_in 442 TW72.2.2.2.2.2.2.1 TW72.2.2.2.2.2.2.2
set_option maxRecDepth 100000 in
theorem TW73 : lw_tbl[443]? = some (Cond.instanceMethod yX5_hashClips) ∧ goodWord (Cond.instanceMethod yX5_hashClips) = true ∧ lw_tbl[444]? = some (Cond.selects RX5 yX5_hashClips yX5_hashClips) ∧ goodWord (Cond.selects RX5 yX5_hashClips yX5_hashClips) = true ∧ lw_tbl[445]? = some (Cond.code yX5_hashClips cX5_hashClips 7 (some .long)) ∧ goodWord (Cond.code yX5_hashClips cX5_hashClips 7 (some .long)) = true ∧ lw_tbl[446]? = some (Cond.methodLink RX5 190 yX0_property) ∧ goodWord (Cond.methodLink RX5 190 yX0_property) = true := by decide +kernel
theorem tw_443 : Cond.instanceMethod yX5_hashClips ∈ TB := tb_in 443 TW73.1 TW73.2.1
theorem tw_444 : Cond.selects RX5 yX5_hashClips yX5_hashClips ∈ TB := tb_in 444 TW73.2.2.1 TW73.2.2.2.1
theorem tw_445 : Cond.code yX5_hashClips cX5_hashClips 7 (some .long) ∈ TB := tb_in 445 TW73.2.2.2.2.1 TW73.2.2.2.2.2.1
theorem tw_446 : Cond.methodLink RX5 190 yX0_property ∈ TB := tb_in 446 TW73.2.2.2.2.2.2.1 TW73.2.2.2.2.2.2.2
set_option maxRecDepth 100000 in
theorem TW74 : lw_tbl[447]? = some (Cond.instanceMethod yX0_property) ∧ goodWord (Cond.instanceMethod yX0_property) = true ∧ lw_tbl[448]? = some (Cond.selects RX0 yX0_property yX0_property) ∧ goodWord (Cond.selects RX0 yX0_property yX0_property) = true ∧ lw_tbl[449]? = some (Cond.code yX0_property cX0_property 2 (some .int)) ∧ goodWord (Cond.code yX0_property cX0_property 2 (some .int)) = true ∧ lw_tbl[450]? = some (Cond.methodLink RX7 347 yX6_hashTrack) ∧ goodWord (Cond.methodLink RX7 347 yX6_hashTrack) = true := by decide +kernel
theorem tw_447 : Cond.instanceMethod yX0_property ∈ TB := tb_in 447 TW74.1 TW74.2.1
theorem tw_448 : Cond.selects RX0 yX0_property yX0_property ∈ TB := tb_in 448 TW74.2.2.1 TW74.2.2.2.1
theorem tw_449 : Cond.code yX0_property cX0_property 2 (some .int) ∈ TB := tb_in 449 TW74.2.2.2.2.1 TW74.2.2.2.2.2.1
theorem tw_450 : Cond.methodLink RX7 347 yX6_hashTrack ∈ TB := tb_in 450 TW74.2.2.2.2.2.2.1 TW74.2.2.2.2.2.2.2
set_option maxRecDepth 100000 in
theorem TW75 : lw_tbl[451]? = some (Cond.instanceMethod yX6_hashTrack) ∧ goodWord (Cond.instanceMethod yX6_hashTrack) = true ∧ lw_tbl[452]? = some (Cond.selects RX6 yX6_hashTrack yX6_hashTrack) ∧ goodWord (Cond.selects RX6 yX6_hashTrack yX6_hashTrack) = true ∧ lw_tbl[453]? = some (Cond.code yX6_hashTrack cX6_hashTrack 6 (some .long)) ∧ goodWord (Cond.code yX6_hashTrack cX6_hashTrack 6 (some .long)) = true ∧ lw_tbl[455]? = some (Cond.methodLink RX7 271 yX7_mixInto) ∧ goodWord (Cond.methodLink RX7 271 yX7_mixInto) = true := by decide +kernel
theorem tw_451 : Cond.instanceMethod yX6_hashTrack ∈ TB := tb_in 451 TW75.1 TW75.2.1
theorem tw_452 : Cond.selects RX6 yX6_hashTrack yX6_hashTrack ∈ TB := tb_in 452 TW75.2.2.1 TW75.2.2.2.1
theorem tw_453 : Cond.code yX6_hashTrack cX6_hashTrack 6 (some .long) ∈ TB := tb_in 453 TW75.2.2.2.2.1 TW75.2.2.2.2.2.1
theorem tw_455 : Cond.methodLink RX7 271 yX7_mixInto ∈ TB := tb_in 455 TW75.2.2.2.2.2.2.1 TW75.2.2.2.2.2.2.2
set_option maxRecDepth 100000 in
theorem TW76 : lw_tbl[457]? = some (Cond.instanceMethod yX7_mixInto) ∧ goodWord (Cond.instanceMethod yX7_mixInto) = true ∧ lw_tbl[458]? = some (Cond.code yX7_mixInto cX7_mixInto 9 none) ∧ goodWord (Cond.code yX7_mixInto cX7_mixInto 9 none) = true ∧ lw_tbl[459]? = some (Cond.methodLink RX7 256 yX5_hasSolo) ∧ goodWord (Cond.methodLink RX7 256 yX5_hasSolo) = true ∧ lw_tbl[460]? = some (Cond.instanceMethod yX5_hasSolo) ∧ goodWord (Cond.instanceMethod yX5_hasSolo) = true := by decide +kernel
theorem tw_457 : Cond.instanceMethod yX7_mixInto ∈ TB := tb_in 457 TW76.1 TW76.2.1
theorem tw_458 : Cond.code yX7_mixInto cX7_mixInto 9 none ∈ TB := tb_in 458 TW76.2.2.1 TW76.2.2.2.1
theorem tw_459 : Cond.methodLink RX7 256 yX5_hasSolo ∈ TB := tb_in 459 TW76.2.2.2.2.1 TW76.2.2.2.2.2.1
theorem tw_460 : Cond.instanceMethod yX5_hasSolo ∈ TB := tb_in 460 TW76.2.2.2.2.2.2.1 TW76.2.2.2.2.2.2.2
set_option maxRecDepth 100000 in
theorem TW77 : lw_tbl[461]? = some (Cond.selects RX5 yX5_hasSolo yX5_hasSolo) ∧ goodWord (Cond.selects RX5 yX5_hasSolo yX5_hasSolo) = true ∧ lw_tbl[462]? = some (Cond.code yX5_hasSolo cX5_hasSolo 5 (some .boolean)) ∧ goodWord (Cond.code yX5_hasSolo cX5_hasSolo 5 (some .boolean)) = true ∧ lw_tbl[463]? = some (Cond.methodLink RX7 259 yX6_isHeard) ∧ goodWord (Cond.methodLink RX7 259 yX6_isHeard) = true ∧ lw_tbl[464]? = some (Cond.instanceMethod yX6_isHeard) ∧ goodWord (Cond.instanceMethod yX6_isHeard) = true := by decide +kernel
theorem tw_461 : Cond.selects RX5 yX5_hasSolo yX5_hasSolo ∈ TB := tb_in 461 TW77.1 TW77.2.1
theorem tw_462 : Cond.code yX5_hasSolo cX5_hasSolo 5 (some .boolean) ∈ TB := tb_in 462 TW77.2.2.1 TW77.2.2.2.1
theorem tw_463 : Cond.methodLink RX7 259 yX6_isHeard ∈ TB := tb_in 463 TW77.2.2.2.2.1 TW77.2.2.2.2.2.1
theorem tw_464 : Cond.instanceMethod yX6_isHeard ∈ TB := tb_in 464 TW77.2.2.2.2.2.2.1 TW77.2.2.2.2.2.2.2
set_option maxRecDepth 100000 in
theorem TW78 : lw_tbl[465]? = some (Cond.selects RX6 yX6_isHeard yX6_isHeard) ∧ goodWord (Cond.selects RX6 yX6_isHeard yX6_isHeard) = true ∧ lw_tbl[466]? = some (Cond.code yX6_isHeard cX6_isHeard 2 (some .boolean)) ∧ goodWord (Cond.code yX6_isHeard cX6_isHeard 2 (some .boolean)) = true ∧ lw_tbl[467]? = some (Cond.methodLink RX7 247 yX7_learnDucking) ∧ goodWord (Cond.methodLink RX7 247 yX7_learnDucking) = true ∧ lw_tbl[469]? = some (Cond.instanceMethod yX7_learnDucking) ∧ goodWord (Cond.instanceMethod yX7_learnDucking) = true := by decide +kernel
theorem tw_465 : Cond.selects RX6 yX6_isHeard yX6_isHeard ∈ TB := tb_in 465 TW78.1 TW78.2.1
theorem tw_466 : Cond.code yX6_isHeard cX6_isHeard 2 (some .boolean) ∈ TB := tb_in 466 TW78.2.2.1 TW78.2.2.2.1
theorem tw_467 : Cond.methodLink RX7 247 yX7_learnDucking ∈ TB := tb_in 467 TW78.2.2.2.2.1 TW78.2.2.2.2.2.1
theorem tw_469 : Cond.instanceMethod yX7_learnDucking ∈ TB := tb_in 469 TW78.2.2.2.2.2.2.1 TW78.2.2.2.2.2.2.2
set_option maxRecDepth 100000 in
theorem TW79 : lw_tbl[470]? = some (Cond.code yX7_learnDucking cX7_learnDucking 6 none) ∧ goodWord (Cond.code yX7_learnDucking cX7_learnDucking 6 none) = true ∧ lw_tbl[471]? = some (Cond.methodLink RX7 385 yX5_reaches) ∧ goodWord (Cond.methodLink RX7 385 yX5_reaches) = true ∧ lw_tbl[472]? = some (Cond.instanceMethod yX5_reaches) ∧ goodWord (Cond.instanceMethod yX5_reaches) = true ∧ lw_tbl[473]? = some (Cond.selects RX5 yX5_reaches yX5_reaches) ∧ goodWord (Cond.selects RX5 yX5_reaches yX5_reaches) = true := by decide +kernel
theorem tw_470 : Cond.code yX7_learnDucking cX7_learnDucking 6 none ∈ TB := tb_in 470 TW79.1 TW79.2.1
theorem tw_471 : Cond.methodLink RX7 385 yX5_reaches ∈ TB := tb_in 471 TW79.2.2.1 TW79.2.2.2.1
theorem tw_472 : Cond.instanceMethod yX5_reaches ∈ TB := tb_in 472 TW79.2.2.2.2.1 TW79.2.2.2.2.2.1
theorem tw_473 : Cond.selects RX5 yX5_reaches yX5_reaches ∈ TB := tb_in 473 TW79.2.2.2.2.2.2.1 TW79.2.2.2.2.2.2.2
set_option maxRecDepth 100000 in
theorem TW80 : lw_tbl[474]? = some (Cond.code yX5_reaches cX5_reaches 6 (some .boolean)) ∧ goodWord (Cond.code yX5_reaches cX5_reaches 6 (some .boolean)) = true ∧ lw_tbl[475]? = some (Cond.methodLink RX5 160 yX5_hasClipWithin) ∧ goodWord (Cond.methodLink RX5 160 yX5_hasClipWithin) = true ∧ lw_tbl[477]? = some (Cond.instanceMethod yX5_hasClipWithin) ∧ goodWord (Cond.instanceMethod yX5_hasClipWithin) = true ∧ lw_tbl[478]? = some (Cond.code yX5_hasClipWithin cX5_hasClipWithin 6 (some .boolean)) ∧ goodWord (Cond.code yX5_hasClipWithin cX5_hasClipWithin 6 (some .boolean)) = true := by decide +kernel
theorem tw_474 : Cond.code yX5_reaches cX5_reaches 6 (some .boolean) ∈ TB := tb_in 474 TW80.1 TW80.2.1
theorem tw_475 : Cond.methodLink RX5 160 yX5_hasClipWithin ∈ TB := tb_in 475 TW80.2.2.1 TW80.2.2.2.1
theorem tw_477 : Cond.instanceMethod yX5_hasClipWithin ∈ TB := tb_in 477 TW80.2.2.2.2.1 TW80.2.2.2.2.2.1
theorem tw_478 : Cond.code yX5_hasClipWithin cX5_hasClipWithin 6 (some .boolean) ∈ TB := tb_in 478 TW80.2.2.2.2.2.2.1 TW80.2.2.2.2.2.2.2
set_option maxRecDepth 100000 in
theorem TW81 : lw_tbl[479]? = some (Cond.methodLink RX5 99 yX0_end) ∧ goodWord (Cond.methodLink RX5 99 yX0_end) = true ∧ lw_tbl[480]? = some (Cond.methodLink RX5 164 yX5_dryValue) ∧ goodWord (Cond.methodLink RX5 164 yX5_dryValue) = true ∧ lw_tbl[481]? = some (Cond.instanceMethod yX5_dryValue) ∧ goodWord (Cond.instanceMethod yX5_dryValue) = true ∧ lw_tbl[482]? = some (Cond.selects RX5 yX5_dryValue yX5_dryValue) ∧ goodWord (Cond.selects RX5 yX5_dryValue yX5_dryValue) = true := by decide +kernel
theorem tw_479 : Cond.methodLink RX5 99 yX0_end ∈ TB := tb_in 479 TW81.1 TW81.2.1
theorem tw_480 : Cond.methodLink RX5 164 yX5_dryValue ∈ TB := tb_in 480 TW81.2.2.1 TW81.2.2.2.1
theorem tw_481 : Cond.instanceMethod yX5_dryValue ∈ TB := tb_in 481 TW81.2.2.2.2.1 TW81.2.2.2.2.2.1
theorem tw_482 : Cond.selects RX5 yX5_dryValue yX5_dryValue ∈ TB := tb_in 482 TW81.2.2.2.2.2.2.1 TW81.2.2.2.2.2.2.2
set_option maxRecDepth 100000 in
theorem TW82 : lw_tbl[483]? = some (Cond.code yX5_dryValue cX5_dryValue 9 (some .int)) ∧ goodWord (Cond.code yX5_dryValue cX5_dryValue 9 (some .int)) = true ∧ lw_tbl[484]? = some (Cond.methodLink RX5 145 yX5_firstCovering) ∧ goodWord (Cond.methodLink RX5 145 yX5_firstCovering) = true ∧ lw_tbl[486]? = some (Cond.instanceMethod yX5_firstCovering) ∧ goodWord (Cond.instanceMethod yX5_firstCovering) = true ∧ lw_tbl[487]? = some (Cond.code yX5_firstCovering cX5_firstCovering 4 (some .int)) ∧ goodWord (Cond.code yX5_firstCovering cX5_firstCovering 4 (some .int)) = true := by decide +kernel
theorem tw_483 : Cond.code yX5_dryValue cX5_dryValue 9 (some .int) ∈ TB := tb_in 483 TW82.1 TW82.2.1
theorem tw_484 : Cond.methodLink RX5 145 yX5_firstCovering ∈ TB := tb_in 484 TW82.2.2.1 TW82.2.2.2.1
theorem tw_486 : Cond.instanceMethod yX5_firstCovering ∈ TB := tb_in 486 TW82.2.2.2.2.1 TW82.2.2.2.2.2.1
theorem tw_487 : Cond.code yX5_firstCovering cX5_firstCovering 4 (some .int) ∈ TB := tb_in 487 TW82.2.2.2.2.2.2.1 TW82.2.2.2.2.2.2.2
set_option maxRecDepth 100000 in
theorem TW83 : lw_tbl[488]? = some (Cond.methodLink RX5 152 yX0_covers) ∧ goodWord (Cond.methodLink RX5 152 yX0_covers) = true ∧ lw_tbl[489]? = some (Cond.instanceMethod yX0_covers) ∧ goodWord (Cond.instanceMethod yX0_covers) = true ∧ lw_tbl[490]? = some (Cond.selects RX0 yX0_covers yX0_covers) ∧ goodWord (Cond.selects RX0 yX0_covers yX0_covers) = true ∧ lw_tbl[491]? = some (Cond.code yX0_covers cX0_covers 2 (some .boolean)) ∧ goodWord (Cond.code yX0_covers cX0_covers 2 (some .boolean)) = true := by decide +kernel
theorem tw_488 : Cond.methodLink RX5 152 yX0_covers ∈ TB := tb_in 488 TW83.1 TW83.2.1
theorem tw_489 : Cond.instanceMethod yX0_covers ∈ TB := tb_in 489 TW83.2.2.1 TW83.2.2.2.1
theorem tw_490 : Cond.selects RX0 yX0_covers yX0_covers ∈ TB := tb_in 490 TW83.2.2.2.2.1 TW83.2.2.2.2.2.1
theorem tw_491 : Cond.code yX0_covers cX0_covers 2 (some .boolean) ∈ TB := tb_in 491 TW83.2.2.2.2.2.2.1 TW83.2.2.2.2.2.2.2
set_option maxRecDepth 100000 in
theorem TW84 : lw_tbl[492]? = some (Cond.methodLink RX5 148 yX5_rawValue) ∧ goodWord (Cond.methodLink RX5 148 yX5_rawValue) = true ∧ lw_tbl[493]? = some (Cond.instanceMethod yX5_rawValue) ∧ goodWord (Cond.instanceMethod yX5_rawValue) = true ∧ lw_tbl[494]? = some (Cond.selects RX5 yX5_rawValue yX5_rawValue) ∧ goodWord (Cond.selects RX5 yX5_rawValue yX5_rawValue) = true ∧ lw_tbl[495]? = some (Cond.code yX5_rawValue cX5_rawValue 5 (some .int)) ∧ goodWord (Cond.code yX5_rawValue cX5_rawValue 5 (some .int)) = true := by decide +kernel
theorem tw_492 : Cond.methodLink RX5 148 yX5_rawValue ∈ TB := tb_in 492 TW84.1 TW84.2.1
theorem tw_493 : Cond.instanceMethod yX5_rawValue ∈ TB := tb_in 493 TW84.2.2.1 TW84.2.2.2.1
theorem tw_494 : Cond.selects RX5 yX5_rawValue yX5_rawValue ∈ TB := tb_in 494 TW84.2.2.2.2.1 TW84.2.2.2.2.2.1
theorem tw_495 : Cond.code yX5_rawValue cX5_rawValue 5 (some .int) ∈ TB := tb_in 495 TW84.2.2.2.2.2.2.1 TW84.2.2.2.2.2.2.2
set_option maxRecDepth 100000 in
theorem TW85 : lw_tbl[496]? = some (Cond.methodLink RX5 129 yX4_valueAt) ∧ goodWord (Cond.methodLink RX5 129 yX4_valueAt) = true ∧ lw_tbl[497]? = some (Cond.instanceMethod yX4_valueAt) ∧ goodWord (Cond.instanceMethod yX4_valueAt) = true ∧ lw_tbl[498]? = some (Cond.selects RX4 yX4_valueAt yX4_valueAt) ∧ goodWord (Cond.selects RX4 yX4_valueAt yX4_valueAt) = true ∧ lw_tbl[499]? = some (Cond.code yX4_valueAt cX4_valueAt 6 (some .int)) ∧ goodWord (Cond.code yX4_valueAt cX4_valueAt 6 (some .int)) = true := by decide +kernel
theorem tw_496 : Cond.methodLink RX5 129 yX4_valueAt ∈ TB := tb_in 496 TW85.1 TW85.2.1
theorem tw_497 : Cond.instanceMethod yX4_valueAt ∈ TB := tb_in 497 TW85.2.2.1 TW85.2.2.2.1
theorem tw_498 : Cond.selects RX4 yX4_valueAt yX4_valueAt ∈ TB := tb_in 498 TW85.2.2.2.2.1 TW85.2.2.2.2.2.1
theorem tw_499 : Cond.code yX4_valueAt cX4_valueAt 6 (some .int) ∈ TB := tb_in 499 TW85.2.2.2.2.2.2.1 TW85.2.2.2.2.2.2.2
set_option maxRecDepth 100000 in
theorem TW86 : lw_tbl[500]? = some (Cond.methodLink RX4 28 Lib.Math.max.name) ∧ goodWord (Cond.methodLink RX4 28 Lib.Math.max.name) = true ∧ lw_tbl[501]? = some (Cond.constantLong RX4 34 (1103515245 : Int64)) ∧ goodWord (Cond.constantLong RX4 34 (1103515245 : Int64)) = true ∧ lw_tbl[502]? = some (Cond.constantLong RX4 36 (12345 : Int64)) ∧ goodWord (Cond.constantLong RX4 36 (12345 : Int64)) = true ∧ lw_tbl[503]? = some (Cond.constantLong RX4 38 (2147483648 : Int64)) ∧ goodWord (Cond.constantLong RX4 38 (2147483648 : Int64)) = true := by decide +kernel
theorem tw_500 : Cond.methodLink RX4 28 Lib.Math.max.name ∈ TB := tb_in 500 TW86.1 TW86.2.1
theorem tw_501 : Cond.constantLong RX4 34 (1103515245 : Int64) ∈ TB := tb_in 501 TW86.2.2.1 TW86.2.2.2.1
theorem tw_502 : Cond.constantLong RX4 36 (12345 : Int64) ∈ TB := tb_in 502 TW86.2.2.2.2.1 TW86.2.2.2.2.2.1
theorem tw_503 : Cond.constantLong RX4 38 (2147483648 : Int64) ∈ TB := tb_in 503 TW86.2.2.2.2.2.2.1 TW86.2.2.2.2.2.2.2
set_option maxRecDepth 100000 in
theorem TW87 : lw_tbl[504]? = some (Cond.constantLong RX4 40 (65536 : Int64)) ∧ goodWord (Cond.constantLong RX4 40 (65536 : Int64)) = true ∧ lw_tbl[506]? = some (Cond.static yX7_applied) ∧ goodWord (Cond.static yX7_applied) = true ∧ lw_tbl[507]? = some (Cond.code yX7_applied cX7_applied 2 (some .int)) ∧ goodWord (Cond.code yX7_applied cX7_applied 2 (some .int)) = true ∧ lw_tbl[508]? = some (Cond.methodLink RX7 374 yJ9_floorDiv_7cf53) ∧ goodWord (Cond.methodLink RX7 374 yJ9_floorDiv_7cf53) = true := by decide +kernel
theorem tw_504 : Cond.constantLong RX4 40 (65536 : Int64) ∈ TB := tb_in 504 TW87.1 TW87.2.1
theorem tw_506 : Cond.static yX7_applied ∈ TB := tb_in 506 TW87.2.2.1 TW87.2.2.2.1
theorem tw_507 : Cond.code yX7_applied cX7_applied 2 (some .int) ∈ TB := tb_in 507 TW87.2.2.2.2.1 TW87.2.2.2.2.2.1
theorem tw_508 : Cond.methodLink RX7 374 yJ9_floorDiv_7cf53 ∈ TB := tb_in 508 TW87.2.2.2.2.2.2.1 TW87.2.2.2.2.2.2.2
set_option maxRecDepth 100000 in
theorem TW88 : lw_tbl[509]? = some (Cond.static yJ9_floorDiv_7cf53) ∧ goodWord (Cond.static yJ9_floorDiv_7cf53) = true ∧ lw_tbl[510]? = some (Cond.code yJ9_floorDiv_7cf53 cJ9_floorDiv_7cf53 3 (some .int)) ∧ goodWord (Cond.code yJ9_floorDiv_7cf53 cJ9_floorDiv_7cf53 3 (some .int)) = true ∧ lw_tbl[511]? = some (Cond.methodLink RX5 139 yX0_fadeGain) ∧ goodWord (Cond.methodLink RX5 139 yX0_fadeGain) = true ∧ lw_tbl[512]? = some (Cond.instanceMethod yX0_fadeGain) ∧ goodWord (Cond.instanceMethod yX0_fadeGain) = true := by decide +kernel
theorem tw_509 : Cond.static yJ9_floorDiv_7cf53 ∈ TB := tb_in 509 TW88.1 TW88.2.1
theorem tw_510 : Cond.code yJ9_floorDiv_7cf53 cJ9_floorDiv_7cf53 3 (some .int) ∈ TB := tb_in 510 TW88.2.2.1 TW88.2.2.2.1
theorem tw_511 : Cond.methodLink RX5 139 yX0_fadeGain ∈ TB := tb_in 511 TW88.2.2.2.2.1 TW88.2.2.2.2.2.1
theorem tw_512 : Cond.instanceMethod yX0_fadeGain ∈ TB := tb_in 512 TW88.2.2.2.2.2.2.1 TW88.2.2.2.2.2.2.2
set_option maxRecDepth 100000 in
theorem TW89 : lw_tbl[513]? = some (Cond.selects RX0 yX0_fadeGain yX0_fadeGain) ∧ goodWord (Cond.selects RX0 yX0_fadeGain yX0_fadeGain) = true ∧ lw_tbl[514]? = some (Cond.code yX0_fadeGain cX0_fadeGain 4 (some .int)) ∧ goodWord (Cond.code yX0_fadeGain cX0_fadeGain 4 (some .int)) = true ∧ lw_tbl[515]? = some (Cond.methodLink RX5 157 yX6_laneGain) ∧ goodWord (Cond.methodLink RX5 157 yX6_laneGain) = true ∧ lw_tbl[516]? = some (Cond.instanceMethod yX6_laneGain) ∧ goodWord (Cond.instanceMethod yX6_laneGain) = true := by decide +kernel
theorem tw_513 : Cond.selects RX0 yX0_fadeGain yX0_fadeGain ∈ TB := tb_in 513 TW89.1 TW89.2.1
theorem tw_514 : Cond.code yX0_fadeGain cX0_fadeGain 4 (some .int) ∈ TB := tb_in 514 TW89.2.2.1 TW89.2.2.2.1
theorem tw_515 : Cond.methodLink RX5 157 yX6_laneGain ∈ TB := tb_in 515 TW89.2.2.2.2.1 TW89.2.2.2.2.2.1
theorem tw_516 : Cond.instanceMethod yX6_laneGain ∈ TB := tb_in 516 TW89.2.2.2.2.2.2.1 TW89.2.2.2.2.2.2.2
set_option maxRecDepth 100000 in
theorem TW90 : lw_tbl[517]? = some (Cond.selects RX6 yX6_laneGain yX6_laneGain) ∧ goodWord (Cond.selects RX6 yX6_laneGain yX6_laneGain) = true ∧ lw_tbl[518]? = some (Cond.code yX6_laneGain cX6_laneGain 6 (some .int)) ∧ goodWord (Cond.code yX6_laneGain cX6_laneGain 6 (some .int)) = true ∧ lw_tbl[519]? = some (Cond.methodLink RX6 58 yX6_lastPointUpTo) ∧ goodWord (Cond.methodLink RX6 58 yX6_lastPointUpTo) = true ∧ lw_tbl[521]? = some (Cond.instanceMethod yX6_lastPointUpTo) ∧ goodWord (Cond.instanceMethod yX6_lastPointUpTo) = true := by decide +kernel
theorem tw_517 : Cond.selects RX6 yX6_laneGain yX6_laneGain ∈ TB := tb_in 517 TW90.1 TW90.2.1
theorem tw_518 : Cond.code yX6_laneGain cX6_laneGain 6 (some .int) ∈ TB := tb_in 518 TW90.2.2.1 TW90.2.2.2.1
theorem tw_519 : Cond.methodLink RX6 58 yX6_lastPointUpTo ∈ TB := tb_in 519 TW90.2.2.2.2.1 TW90.2.2.2.2.2.1
theorem tw_521 : Cond.instanceMethod yX6_lastPointUpTo ∈ TB := tb_in 521 TW90.2.2.2.2.2.2.1 TW90.2.2.2.2.2.2.2
set_option maxRecDepth 100000 in
theorem TW91 : lw_tbl[522]? = some (Cond.code yX6_lastPointUpTo cX6_lastPointUpTo 4 (some .int)) ∧ goodWord (Cond.code yX6_lastPointUpTo cX6_lastPointUpTo 4 (some .int)) = true ∧ lw_tbl[523]? = some (Cond.methodLink RX6 66 yJ9_floorDiv_7cf53) ∧ goodWord (Cond.methodLink RX6 66 yJ9_floorDiv_7cf53) = true ∧ lw_tbl[524]? = some (Cond.methodLink RX5 167 Lib.Math.abs.name) ∧ goodWord (Cond.methodLink RX5 167 Lib.Math.abs.name) = true ∧ lw_tbl[525]? = some (Cond.static Lib.Math.abs.name) ∧ goodWord (Cond.static Lib.Math.abs.name) = true := by decide +kernel
theorem tw_522 : Cond.code yX6_lastPointUpTo cX6_lastPointUpTo 4 (some .int) ∈ TB := tb_in 522 TW91.1 TW91.2.1
theorem tw_523 : Cond.methodLink RX6 66 yJ9_floorDiv_7cf53 ∈ TB := tb_in 523 TW91.2.2.1 TW91.2.2.2.1
theorem tw_524 : Cond.methodLink RX5 167 Lib.Math.abs.name ∈ TB := tb_in 524 TW91.2.2.2.2.1 TW91.2.2.2.2.2.1
theorem tw_525 : Cond.static Lib.Math.abs.name ∈ TB := tb_in 525 TW91.2.2.2.2.2.2.1 TW91.2.2.2.2.2.2.2
set_option maxRecDepth 100000 in
theorem TW92 : lw_tbl[526]? = some (Cond.code Lib.Math.abs.name Lib.Math.abs.code 1 (some .int)) ∧ goodWord (Cond.code Lib.Math.abs.name Lib.Math.abs.code 1 (some .int)) = true ∧ lw_tbl[527]? = some (Cond.methodLink RX7 388 yX1_follow) ∧ goodWord (Cond.methodLink RX7 388 yX1_follow) = true ∧ lw_tbl[528]? = some (Cond.instanceMethod yX1_follow) ∧ goodWord (Cond.instanceMethod yX1_follow) = true ∧ lw_tbl[529]? = some (Cond.selects RX1 yX1_follow yX1_follow) ∧ goodWord (Cond.selects RX1 yX1_follow yX1_follow) = true := by decide +kernel
theorem tw_526 : Cond.code Lib.Math.abs.name Lib.Math.abs.code 1 (some .int) ∈ TB := tb_in 526 TW92.1 TW92.2.1
theorem tw_527 : Cond.methodLink RX7 388 yX1_follow ∈ TB := tb_in 527 TW92.2.2.1 TW92.2.2.2.1
theorem tw_528 : Cond.instanceMethod yX1_follow ∈ TB := tb_in 528 TW92.2.2.2.2.1 TW92.2.2.2.2.2.1
theorem tw_529 : Cond.selects RX1 yX1_follow yX1_follow ∈ TB := tb_in 529 TW92.2.2.2.2.2.2.1 TW92.2.2.2.2.2.2.2
set_option maxRecDepth 100000 in
theorem TW93 : lw_tbl[530]? = some (Cond.code yX1_follow cX1_follow 4 none) ∧ goodWord (Cond.code yX1_follow cX1_follow 4 none) = true ∧ lw_tbl[531]? = some (Cond.methodLink RX1 27 Lib.Math.max.name) ∧ goodWord (Cond.methodLink RX1 27 Lib.Math.max.name) = true ∧ lw_tbl[532]? = some (Cond.methodLink RX1 36 Lib.Math.min.name) ∧ goodWord (Cond.methodLink RX1 36 Lib.Math.min.name) = true ∧ lw_tbl[533]? = some (Cond.static Lib.Math.min.name) ∧ goodWord (Cond.static Lib.Math.min.name) = true := by decide +kernel
theorem tw_530 : Cond.code yX1_follow cX1_follow 4 none ∈ TB := tb_in 530 TW93.1 TW93.2.1
theorem tw_531 : Cond.methodLink RX1 27 Lib.Math.max.name ∈ TB := tb_in 531 TW93.2.2.1 TW93.2.2.2.1
theorem tw_532 : Cond.methodLink RX1 36 Lib.Math.min.name ∈ TB := tb_in 532 TW93.2.2.2.2.1 TW93.2.2.2.2.2.1
theorem tw_533 : Cond.static Lib.Math.min.name ∈ TB := tb_in 533 TW93.2.2.2.2.2.2.1 TW93.2.2.2.2.2.2.2
set_option maxRecDepth 100000 in
theorem TW94 : lw_tbl[534]? = some (Cond.code Lib.Math.min.name Lib.Math.min.code 2 (some .int)) ∧ goodWord (Cond.code Lib.Math.min.name Lib.Math.min.code 2 (some .int)) = true ∧ lw_tbl[535]? = some (Cond.methodLink RX7 253 yX7_valueOfTrack) ∧ goodWord (Cond.methodLink RX7 253 yX7_valueOfTrack) = true ∧ lw_tbl[537]? = some (Cond.instanceMethod yX7_valueOfTrack) ∧ goodWord (Cond.instanceMethod yX7_valueOfTrack) = true ∧ lw_tbl[538]? = some (Cond.code yX7_valueOfTrack cX7_valueOfTrack 3 (some .int)) ∧ goodWord (Cond.code yX7_valueOfTrack cX7_valueOfTrack 3 (some .int)) = true := by decide +kernel
theorem tw_534 : Cond.code Lib.Math.min.name Lib.Math.min.code 2 (some .int) ∈ TB := tb_in 534 TW94.1 TW94.2.1
theorem tw_535 : Cond.methodLink RX7 253 yX7_valueOfTrack ∈ TB := tb_in 535 TW94.2.2.1 TW94.2.2.2.1
theorem tw_537 : Cond.instanceMethod yX7_valueOfTrack ∈ TB := tb_in 537 TW94.2.2.2.2.1 TW94.2.2.2.2.2.1
theorem tw_538 : Cond.code yX7_valueOfTrack cX7_valueOfTrack 3 (some .int) ∈ TB := tb_in 538 TW94.2.2.2.2.2.2.1 TW94.2.2.2.2.2.2.2
set_option maxRecDepth 100000 in
theorem TW95 : lw_tbl[539]? = some (Cond.methodLink RX7 395 yX5_dryValue) ∧ goodWord (Cond.methodLink RX7 395 yX5_dryValue) = true ∧ lw_tbl[540]? = some (Cond.methodLink RX7 250 yX7_duckGainAt) ∧ goodWord (Cond.methodLink RX7 250 yX7_duckGainAt) = true ∧ lw_tbl[542]? = some (Cond.instanceMethod yX7_duckGainAt) ∧ goodWord (Cond.instanceMethod yX7_duckGainAt) = true ∧ lw_tbl[543]? = some (Cond.code yX7_duckGainAt cX7_duckGainAt 3 (some .int)) ∧ goodWord (Cond.code yX7_duckGainAt cX7_duckGainAt 3 (some .int)) = true := by decide +kernel
theorem tw_539 : Cond.methodLink RX7 395 yX5_dryValue ∈ TB := tb_in 539 TW95.1 TW95.2.1
theorem tw_540 : Cond.methodLink RX7 250 yX7_duckGainAt ∈ TB := tb_in 540 TW95.2.2.1 TW95.2.2.2.1
theorem tw_542 : Cond.instanceMethod yX7_duckGainAt ∈ TB := tb_in 542 TW95.2.2.2.2.1 TW95.2.2.2.2.2.1
theorem tw_543 : Cond.code yX7_duckGainAt cX7_duckGainAt 3 (some .int) ∈ TB := tb_in 543 TW95.2.2.2.2.2.2.1 TW95.2.2.2.2.2.2.2
set_option maxRecDepth 100000 in
theorem TW96 : lw_tbl[544]? = some (Cond.methodLink RX7 392 yX1_gainAt) ∧ goodWord (Cond.methodLink RX7 392 yX1_gainAt) = true ∧ lw_tbl[545]? = some (Cond.instanceMethod yX1_gainAt) ∧ goodWord (Cond.instanceMethod yX1_gainAt) = true ∧ lw_tbl[546]? = some (Cond.selects RX1 yX1_gainAt yX1_gainAt) ∧ goodWord (Cond.selects RX1 yX1_gainAt yX1_gainAt) = true ∧ lw_tbl[547]? = some (Cond.code yX1_gainAt cX1_gainAt 4 (some .int)) ∧ goodWord (Cond.code yX1_gainAt cX1_gainAt 4 (some .int)) = true := by decide +kernel
theorem tw_544 : Cond.methodLink RX7 392 yX1_gainAt ∈ TB := tb_in 544 TW96.1 TW96.2.1
theorem tw_545 : Cond.instanceMethod yX1_gainAt ∈ TB := tb_in 545 TW96.2.2.1 TW96.2.2.2.1
theorem tw_546 : Cond.selects RX1 yX1_gainAt yX1_gainAt ∈ TB := tb_in 546 TW96.2.2.2.2.1 TW96.2.2.2.2.2.1
theorem tw_547 : Cond.code yX1_gainAt cX1_gainAt 4 (some .int) ∈ TB := tb_in 547 TW96.2.2.2.2.2.2.1 TW96.2.2.2.2.2.2.2
set_option maxRecDepth 100000 in
theorem TW97 : lw_tbl[548]? = some (Cond.methodLink RX1 39 yJ9_floorDiv_7cf53) ∧ goodWord (Cond.methodLink RX1 39 yJ9_floorDiv_7cf53) = true ∧ lw_tbl[549]? = some (Cond.methodLink RX7 398 yX7_applied) ∧ goodWord (Cond.methodLink RX7 398 yX7_applied) = true ∧ lw_tbl[550]? = some (Cond.methodLink RX7 401 Lib.Math.min.name) ∧ goodWord (Cond.methodLink RX7 401 Lib.Math.min.name) = true ∧ lw_tbl[551]? = some (Cond.methodLink RX7 404 yX2_limit) ∧ goodWord (Cond.methodLink RX7 404 yX2_limit) = true := by decide +kernel
theorem tw_548 : Cond.methodLink RX1 39 yJ9_floorDiv_7cf53 ∈ TB := tb_in 548 TW97.1 TW97.2.1
theorem tw_549 : Cond.methodLink RX7 398 yX7_applied ∈ TB := tb_in 549 TW97.2.2.1 TW97.2.2.2.1
theorem tw_550 : Cond.methodLink RX7 401 Lib.Math.min.name ∈ TB := tb_in 550 TW97.2.2.2.2.1 TW97.2.2.2.2.2.1
theorem tw_551 : Cond.methodLink RX7 404 yX2_limit ∈ TB := tb_in 551 TW97.2.2.2.2.2.2.1 TW97.2.2.2.2.2.2.2
set_option maxRecDepth 100000 in
theorem TW98 : lw_tbl[552]? = some (Cond.instanceMethod yX2_limit) ∧ goodWord (Cond.instanceMethod yX2_limit) = true ∧ lw_tbl[553]? = some (Cond.selects RX2 yX2_limit yX2_limit) ∧ goodWord (Cond.selects RX2 yX2_limit yX2_limit) = true ∧ lw_tbl[554]? = some (Cond.code yX2_limit cX2_limit 3 none) ∧ goodWord (Cond.code yX2_limit cX2_limit 3 none) = true ∧ lw_tbl[555]? = some (Cond.methodLink RX2 9 Lib.Math.min.name) ∧ goodWord (Cond.methodLink RX2 9 Lib.Math.min.name) = true := by decide +kernel
theorem tw_552 : Cond.instanceMethod yX2_limit ∈ TB := tb_in 552 TW98.1 TW98.2.1
theorem tw_553 : Cond.selects RX2 yX2_limit yX2_limit ∈ TB := tb_in 553 TW98.2.2.1 TW98.2.2.2.1
theorem tw_554 : Cond.code yX2_limit cX2_limit 3 none ∈ TB := tb_in 554 TW98.2.2.2.2.1 TW98.2.2.2.2.2.1
theorem tw_555 : Cond.methodLink RX2 9 Lib.Math.min.name ∈ TB := tb_in 555 TW98.2.2.2.2.2.2.1 TW98.2.2.2.2.2.2.2
set_option maxRecDepth 100000 in
theorem TW99 : lw_tbl[556]? = some (Cond.methodLink RX2 15 Lib.Math.max.name) ∧ goodWord (Cond.methodLink RX2 15 Lib.Math.max.name) = true ∧ lw_tbl[566]? = some (Cond.methodLink RX7 37 yX7_checkSource) ∧ goodWord (Cond.methodLink RX7 37 yX7_checkSource) = true ∧ lw_tbl[567]? = some (Cond.static yX7_checkSource) ∧ goodWord (Cond.static yX7_checkSource) = true ∧ lw_tbl[568]? = some (Cond.code yX7_checkSource cX7_checkSource 1 none) ∧ goodWord (Cond.code yX7_checkSource cX7_checkSource 1 none) = true := by decide +kernel
theorem tw_556 : Cond.methodLink RX2 15 Lib.Math.max.name ∈ TB := tb_in 556 TW99.1 TW99.2.1
theorem tw_566 : Cond.methodLink RX7 37 yX7_checkSource ∈ TB := tb_in 566 TW99.2.2.1 TW99.2.2.2.1
theorem tw_567 : Cond.static yX7_checkSource ∈ TB := tb_in 567 TW99.2.2.2.2.1 TW99.2.2.2.2.2.1
theorem tw_568 : Cond.code yX7_checkSource cX7_checkSource 1 none ∈ TB := tb_in 568 TW99.2.2.2.2.2.2.1 TW99.2.2.2.2.2.2.2
set_option maxRecDepth 100000 in
theorem TW100 : lw_tbl[569]? = some (Cond.methodLink RX7 41 yX7_isOutside) ∧ goodWord (Cond.methodLink RX7 41 yX7_isOutside) = true ∧ lw_tbl[570]? = some (Cond.static yX7_isOutside) ∧ goodWord (Cond.static yX7_isOutside) = true ∧ lw_tbl[571]? = some (Cond.code yX7_isOutside cX7_isOutside 3 (some .boolean)) ∧ goodWord (Cond.code yX7_isOutside cX7_isOutside 3 (some .boolean)) = true ∧ lw_tbl[572]? = some (Cond.classLink RX7 73 "java/lang/IndexOutOfBoundsException") ∧ goodWord (Cond.classLink RX7 73 "java/lang/IndexOutOfBoundsException") = true := by decide +kernel
theorem tw_569 : Cond.methodLink RX7 41 yX7_isOutside ∈ TB := tb_in 569 TW100.1 TW100.2.1
theorem tw_570 : Cond.static yX7_isOutside ∈ TB := tb_in 570 TW100.2.2.1 TW100.2.2.2.1
theorem tw_571 : Cond.code yX7_isOutside cX7_isOutside 3 (some .boolean) ∈ TB := tb_in 571 TW100.2.2.2.2.1 TW100.2.2.2.2.2.1
theorem tw_572 : Cond.classLink RX7 73 "java/lang/IndexOutOfBoundsException" ∈ TB := tb_in 572 TW100.2.2.2.2.2.2.1 TW100.2.2.2.2.2.2.2
set_option maxRecDepth 100000 in
theorem TW101 : lw_tbl[641]? = some (Cond.classLink RX7 45 "java/lang/IllegalArgumentException") ∧ goodWord (Cond.classLink RX7 45 "java/lang/IllegalArgumentException") = true ∧ lw_tbl[657]? = some (Cond.methodLink RX7 66 yX4_define) ∧ goodWord (Cond.methodLink RX7 66 yX4_define) = true ∧ lw_tbl[658]? = some (Cond.methodLink RX7 70 yX7_keepSound) ∧ goodWord (Cond.methodLink RX7 70 yX7_keepSound) = true ∧ lw_tbl[660]? = some (Cond.instanceMethod yX7_keepSound) ∧ goodWord (Cond.instanceMethod yX7_keepSound) = true := by decide +kernel
theorem tw_641 : Cond.classLink RX7 45 "java/lang/IllegalArgumentException" ∈ TB := tb_in 641 TW101.1 TW101.2.1
theorem tw_657 : Cond.methodLink RX7 66 yX4_define ∈ TB := tb_in 657 TW101.2.2.1 TW101.2.2.2.1
theorem tw_658 : Cond.methodLink RX7 70 yX7_keepSound ∈ TB := tb_in 658 TW101.2.2.2.2.1 TW101.2.2.2.2.2.1
theorem tw_660 : Cond.instanceMethod yX7_keepSound ∈ TB := tb_in 660 TW101.2.2.2.2.2.2.1 TW101.2.2.2.2.2.2.2
set_option maxRecDepth 100000 in
theorem TW102 : lw_tbl[661]? = some (Cond.code yX7_keepSound cX7_keepSound 1 none) ∧ goodWord (Cond.code yX7_keepSound cX7_keepSound 1 none) = true ∧ lw_tbl[662]? = some (Cond.methodLink RX7 328 yX7_forgetDucking) ∧ goodWord (Cond.methodLink RX7 328 yX7_forgetDucking) = true ∧ lw_tbl[664]? = some (Cond.instanceMethod yX7_forgetDucking) ∧ goodWord (Cond.instanceMethod yX7_forgetDucking) = true ∧ lw_tbl[665]? = some (Cond.code yX7_forgetDucking cX7_forgetDucking 2 none) ∧ goodWord (Cond.code yX7_forgetDucking cX7_forgetDucking 2 none) = true := by decide +kernel
theorem tw_661 : Cond.code yX7_keepSound cX7_keepSound 1 none ∈ TB := tb_in 661 TW102.1 TW102.2.1
theorem tw_662 : Cond.methodLink RX7 328 yX7_forgetDucking ∈ TB := tb_in 662 TW102.2.2.1 TW102.2.2.2.1
theorem tw_664 : Cond.instanceMethod yX7_forgetDucking ∈ TB := tb_in 664 TW102.2.2.2.2.1 TW102.2.2.2.2.2.1
theorem tw_665 : Cond.code yX7_forgetDucking cX7_forgetDucking 2 none ∈ TB := tb_in 665 TW102.2.2.2.2.2.2.1 TW102.2.2.2.2.2.2.2
set_option maxRecDepth 100000 in
theorem TW103 : lw_tbl[666]? = some (Cond.methodLink RX7 379 yX1_forget) ∧ goodWord (Cond.methodLink RX7 379 yX1_forget) = true ∧ lw_tbl[667]? = some (Cond.instanceMethod yX1_forget) ∧ goodWord (Cond.instanceMethod yX1_forget) = true ∧ lw_tbl[668]? = some (Cond.selects RX1 yX1_forget yX1_forget) ∧ goodWord (Cond.selects RX1 yX1_forget yX1_forget) = true ∧ lw_tbl[669]? = some (Cond.code yX1_forget cX1_forget 1 none) ∧ goodWord (Cond.code yX1_forget cX1_forget 1 none) = true := by decide +kernel
theorem tw_666 : Cond.methodLink RX7 379 yX1_forget ∈ TB := tb_in 666 TW103.1 TW103.2.1
theorem tw_667 : Cond.instanceMethod yX1_forget ∈ TB := tb_in 667 TW103.2.2.1 TW103.2.2.2.1
theorem tw_668 : Cond.selects RX1 yX1_forget yX1_forget ∈ TB := tb_in 668 TW103.2.2.2.2.1 TW103.2.2.2.2.2.1
theorem tw_669 : Cond.code yX1_forget cX1_forget 1 none ∈ TB := tb_in 669 TW103.2.2.2.2.2.2.1 TW103.2.2.2.2.2.2.2
set_option maxRecDepth 100000 in
theorem TW104 : lw_tbl[678]? = some (Cond.methodLink RX7 78 yX4_valueAt) ∧ goodWord (Cond.methodLink RX7 78 yX4_valueAt) = true ∧ lw_tbl[689]? = some (Cond.methodLink RX7 84 yX7_checkRoomForClip) ∧ goodWord (Cond.methodLink RX7 84 yX7_checkRoomForClip) = true ∧ lw_tbl[691]? = some (Cond.instanceMethod yX7_checkRoomForClip) ∧ goodWord (Cond.instanceMethod yX7_checkRoomForClip) = true ∧ lw_tbl[692]? = some (Cond.code yX7_checkRoomForClip cX7_checkRoomForClip 1 none) ∧ goodWord (Cond.code yX7_checkRoomForClip cX7_checkRoomForClip 1 none) = true := by decide +kernel
theorem tw_678 : Cond.methodLink RX7 78 yX4_valueAt ∈ TB := tb_in 678 TW104.1 TW104.2.1
theorem tw_689 : Cond.methodLink RX7 84 yX7_checkRoomForClip ∈ TB := tb_in 689 TW104.2.2.1 TW104.2.2.2.1
theorem tw_691 : Cond.instanceMethod yX7_checkRoomForClip ∈ TB := tb_in 691 TW104.2.2.2.2.1 TW104.2.2.2.2.2.1
theorem tw_692 : Cond.code yX7_checkRoomForClip cX7_checkRoomForClip 1 none ∈ TB := tb_in 692 TW104.2.2.2.2.2.2.1 TW104.2.2.2.2.2.2.2
set_option maxRecDepth 100000 in
theorem TW105 : lw_tbl[693]? = some (Cond.classLink RX7 209 "java/lang/IllegalStateException") ∧ goodWord (Cond.classLink RX7 209 "java/lang/IllegalStateException") = true ∧ lw_tbl[709]? = some (Cond.methodLink RX7 87 yX5_insert) ∧ goodWord (Cond.methodLink RX7 87 yX5_insert) = true ∧ lw_tbl[710]? = some (Cond.instanceMethod yX5_insert) ∧ goodWord (Cond.instanceMethod yX5_insert) = true ∧ lw_tbl[711]? = some (Cond.selects RX5 yX5_insert yX5_insert) ∧ goodWord (Cond.selects RX5 yX5_insert yX5_insert) = true := by decide +kernel
theorem tw_693 : Cond.classLink RX7 209 "java/lang/IllegalStateException" ∈ TB := tb_in 693 TW105.1 TW105.2.1
theorem tw_709 : Cond.methodLink RX7 87 yX5_insert ∈ TB := tb_in 709 TW105.2.2.1 TW105.2.2.2.1
theorem tw_710 : Cond.instanceMethod yX5_insert ∈ TB := tb_in 710 TW105.2.2.2.2.1 TW105.2.2.2.2.2.1
theorem tw_711 : Cond.selects RX5 yX5_insert yX5_insert ∈ TB := tb_in 711 TW105.2.2.2.2.2.2.1 TW105.2.2.2.2.2.2.2
set_option maxRecDepth 100000 in
theorem TW106 : lw_tbl[712]? = some (Cond.code yX5_insert cX5_insert 8 (some .int)) ∧ goodWord (Cond.code yX5_insert cX5_insert 8 (some .int)) = true ∧ lw_tbl[713]? = some (Cond.methodLink RX5 75 yX0_place) ∧ goodWord (Cond.methodLink RX5 75 yX0_place) = true ∧ lw_tbl[714]? = some (Cond.methodLink RX5 79 yX0_play) ∧ goodWord (Cond.methodLink RX5 79 yX0_play) = true ∧ lw_tbl[715]? = some (Cond.methodLink RX5 82 yX0_fade) ∧ goodWord (Cond.methodLink RX5 82 yX0_fade) = true := by decide +kernel
theorem tw_712 : Cond.code yX5_insert cX5_insert 8 (some .int) ∈ TB := tb_in 712 TW106.1 TW106.2.1
theorem tw_713 : Cond.methodLink RX5 75 yX0_place ∈ TB := tb_in 713 TW106.2.2.1 TW106.2.2.2.1
theorem tw_714 : Cond.methodLink RX5 79 yX0_play ∈ TB := tb_in 714 TW106.2.2.2.2.1 TW106.2.2.2.2.2.1
theorem tw_715 : Cond.methodLink RX5 82 yX0_fade ∈ TB := tb_in 715 TW106.2.2.2.2.2.2.1 TW106.2.2.2.2.2.2.2
set_option maxRecDepth 100000 in
theorem TW107 : lw_tbl[716]? = some (Cond.methodLink RX5 85 yX5_settle) ∧ goodWord (Cond.methodLink RX5 85 yX5_settle) = true ∧ lw_tbl[717]? = some (Cond.instanceMethod yX5_settle) ∧ goodWord (Cond.instanceMethod yX5_settle) = true ∧ lw_tbl[718]? = some (Cond.selects RX5 yX5_settle yX5_settle) ∧ goodWord (Cond.selects RX5 yX5_settle yX5_settle) = true ∧ lw_tbl[719]? = some (Cond.code yX5_settle cX5_settle 3 (some .int)) ∧ goodWord (Cond.code yX5_settle cX5_settle 3 (some .int)) = true := by decide +kernel
theorem tw_716 : Cond.methodLink RX5 85 yX5_settle ∈ TB := tb_in 716 TW107.1 TW107.2.1
theorem tw_717 : Cond.instanceMethod yX5_settle ∈ TB := tb_in 717 TW107.2.2.1 TW107.2.2.2.1
theorem tw_718 : Cond.selects RX5 yX5_settle yX5_settle ∈ TB := tb_in 718 TW107.2.2.2.2.1 TW107.2.2.2.2.2.1
theorem tw_719 : Cond.code yX5_settle cX5_settle 3 (some .int) ∈ TB := tb_in 719 TW107.2.2.2.2.2.2.1 TW107.2.2.2.2.2.2.2
set_option maxRecDepth 100000 in
theorem TW108 : lw_tbl[720]? = some (Cond.methodLink RX5 106 yX0_isBefore) ∧ goodWord (Cond.methodLink RX5 106 yX0_isBefore) = true ∧ lw_tbl[721]? = some (Cond.instanceMethod yX0_isBefore) ∧ goodWord (Cond.instanceMethod yX0_isBefore) = true ∧ lw_tbl[722]? = some (Cond.selects RX0 yX0_isBefore yX0_isBefore) ∧ goodWord (Cond.selects RX0 yX0_isBefore yX0_isBefore) = true ∧ lw_tbl[723]? = some (Cond.code yX0_isBefore cX0_isBefore 2 (some .boolean)) ∧ goodWord (Cond.code yX0_isBefore cX0_isBefore 2 (some .boolean)) = true := by decide +kernel
theorem tw_720 : Cond.methodLink RX5 106 yX0_isBefore ∈ TB := tb_in 720 TW108.1 TW108.2.1
theorem tw_721 : Cond.instanceMethod yX0_isBefore ∈ TB := tb_in 721 TW108.2.2.1 TW108.2.2.2.1
theorem tw_722 : Cond.selects RX0 yX0_isBefore yX0_isBefore ∈ TB := tb_in 722 TW108.2.2.2.2.1 TW108.2.2.2.2.2.1
theorem tw_723 : Cond.code yX0_isBefore cX0_isBefore 2 (some .boolean) ∈ TB := tb_in 723 TW108.2.2.2.2.2.2.1 TW108.2.2.2.2.2.2.2
set_option maxRecDepth 100000 in
theorem TW109 : lw_tbl[724]? = some (Cond.methodLink RX5 110 yX5_swap) ∧ goodWord (Cond.methodLink RX5 110 yX5_swap) = true ∧ lw_tbl[726]? = some (Cond.instanceMethod yX5_swap) ∧ goodWord (Cond.instanceMethod yX5_swap) = true ∧ lw_tbl[727]? = some (Cond.code yX5_swap cX5_swap 4 none) ∧ goodWord (Cond.code yX5_swap cX5_swap 4 none) = true ∧ lw_tbl[728]? = some (Cond.methodLink RX7 91 yX7_checkLawful) ∧ goodWord (Cond.methodLink RX7 91 yX7_checkLawful) = true := by decide +kernel
theorem tw_724 : Cond.methodLink RX5 110 yX5_swap ∈ TB := tb_in 724 TW109.1 TW109.2.1
theorem tw_726 : Cond.instanceMethod yX5_swap ∈ TB := tb_in 726 TW109.2.2.1 TW109.2.2.2.1
theorem tw_727 : Cond.code yX5_swap cX5_swap 4 none ∈ TB := tb_in 727 TW109.2.2.2.2.1 TW109.2.2.2.2.2.1
theorem tw_728 : Cond.methodLink RX7 91 yX7_checkLawful ∈ TB := tb_in 728 TW109.2.2.2.2.2.2.1 TW109.2.2.2.2.2.2.2
set_option maxRecDepth 100000 in
theorem TW110 : lw_tbl[729]? = some (Cond.static yX7_checkLawful) ∧ goodWord (Cond.static yX7_checkLawful) = true ∧ lw_tbl[730]? = some (Cond.code yX7_checkLawful cX7_checkLawful 1 none) ∧ goodWord (Cond.code yX7_checkLawful cX7_checkLawful 1 none) = true ∧ lw_tbl[731]? = some (Cond.methodLink RX7 360 yX5_isLawful) ∧ goodWord (Cond.methodLink RX7 360 yX5_isLawful) = true ∧ lw_tbl[732]? = some (Cond.instanceMethod yX5_isLawful) ∧ goodWord (Cond.instanceMethod yX5_isLawful) = true := by decide +kernel
theorem tw_729 : Cond.static yX7_checkLawful ∈ TB := tb_in 729 TW110.1 TW110.2.1
theorem tw_730 : Cond.code yX7_checkLawful cX7_checkLawful 1 none ∈ TB := tb_in 730 TW110.2.2.1 TW110.2.2.2.1
theorem tw_731 : Cond.methodLink RX7 360 yX5_isLawful ∈ TB := tb_in 731 TW110.2.2.2.2.1 TW110.2.2.2.2.2.1
theorem tw_732 : Cond.instanceMethod yX5_isLawful ∈ TB := tb_in 732 TW110.2.2.2.2.2.2.1 TW110.2.2.2.2.2.2.2
set_option maxRecDepth 100000 in
theorem TW111 : lw_tbl[733]? = some (Cond.selects RX5 yX5_isLawful yX5_isLawful) ∧ goodWord (Cond.selects RX5 yX5_isLawful yX5_isLawful) = true ∧ lw_tbl[734]? = some (Cond.code yX5_isLawful cX5_isLawful 4 (some .boolean)) ∧ goodWord (Cond.code yX5_isLawful cX5_isLawful 4 (some .boolean)) = true ∧ lw_tbl[735]? = some (Cond.classLink RX7 363 "java/lang/UnsupportedOperationException") ∧ goodWord (Cond.classLink RX7 363 "java/lang/UnsupportedOperationException") = true ∧ lw_tbl[758]? = some (Cond.methodLink RX7 95 yX7_checkClip) ∧ goodWord (Cond.methodLink RX7 95 yX7_checkClip) = true := by decide +kernel
theorem tw_733 : Cond.selects RX5 yX5_isLawful yX5_isLawful ∈ TB := tb_in 733 TW111.1 TW111.2.1
theorem tw_734 : Cond.code yX5_isLawful cX5_isLawful 4 (some .boolean) ∈ TB := tb_in 734 TW111.2.2.1 TW111.2.2.2.1
theorem tw_735 : Cond.classLink RX7 363 "java/lang/UnsupportedOperationException" ∈ TB := tb_in 735 TW111.2.2.2.2.1 TW111.2.2.2.2.2.1
theorem tw_758 : Cond.methodLink RX7 95 yX7_checkClip ∈ TB := tb_in 758 TW111.2.2.2.2.2.2.1 TW111.2.2.2.2.2.2.2
set_option maxRecDepth 100000 in
theorem TW112 : lw_tbl[760]? = some (Cond.instanceMethod yX7_checkClip) ∧ goodWord (Cond.instanceMethod yX7_checkClip) = true ∧ lw_tbl[761]? = some (Cond.code yX7_checkClip cX7_checkClip 2 none) ∧ goodWord (Cond.code yX7_checkClip cX7_checkClip 2 none) = true ∧ lw_tbl[764]? = some (Cond.methodLink RX7 109 yX0_fade) ∧ goodWord (Cond.methodLink RX7 109 yX0_fade) = true ∧ lw_tbl[773]? = some (Cond.methodLink RX7 119 yX5_settle) ∧ goodWord (Cond.methodLink RX7 119 yX5_settle) = true := by decide +kernel
theorem tw_760 : Cond.instanceMethod yX7_checkClip ∈ TB := tb_in 760 TW112.1 TW112.2.1
theorem tw_761 : Cond.code yX7_checkClip cX7_checkClip 2 none ∈ TB := tb_in 761 TW112.2.2.1 TW112.2.2.2.1
theorem tw_764 : Cond.methodLink RX7 109 yX0_fade ∈ TB := tb_in 764 TW112.2.2.2.2.1 TW112.2.2.2.2.2.1
theorem tw_773 : Cond.methodLink RX7 119 yX5_settle ∈ TB := tb_in 773 TW112.2.2.2.2.2.2.1 TW112.2.2.2.2.2.2.2
set_option maxRecDepth 100000 in
theorem TW113 : lw_tbl[782]? = some (Cond.methodLink RX7 127 yX0_trim) ∧ goodWord (Cond.methodLink RX7 127 yX0_trim) = true ∧ lw_tbl[783]? = some (Cond.instanceMethod yX0_trim) ∧ goodWord (Cond.instanceMethod yX0_trim) = true ∧ lw_tbl[784]? = some (Cond.selects RX0 yX0_trim yX0_trim) ∧ goodWord (Cond.selects RX0 yX0_trim yX0_trim) = true ∧ lw_tbl[785]? = some (Cond.code yX0_trim cX0_trim 3 none) ∧ goodWord (Cond.code yX0_trim cX0_trim 3 none) = true := by decide +kernel
theorem tw_782 : Cond.methodLink RX7 127 yX0_trim ∈ TB := tb_in 782 TW113.1 TW113.2.1
theorem tw_783 : Cond.instanceMethod yX0_trim ∈ TB := tb_in 783 TW113.2.2.1 TW113.2.2.2.1
theorem tw_784 : Cond.selects RX0 yX0_trim yX0_trim ∈ TB := tb_in 784 TW113.2.2.2.2.1 TW113.2.2.2.2.2.1
theorem tw_785 : Cond.code yX0_trim cX0_trim 3 none ∈ TB := tb_in 785 TW113.2.2.2.2.2.2.1 TW113.2.2.2.2.2.2.2
set_option maxRecDepth 100000 in
theorem TW114 : lw_tbl[786]? = some (Cond.methodLink RX0 49 Lib.Math.min.name) ∧ goodWord (Cond.methodLink RX0 49 Lib.Math.min.name) = true ∧ lw_tbl[795]? = some (Cond.methodLink RX7 137 yX5_cutInTwo) ∧ goodWord (Cond.methodLink RX7 137 yX5_cutInTwo) = true ∧ lw_tbl[796]? = some (Cond.instanceMethod yX5_cutInTwo) ∧ goodWord (Cond.instanceMethod yX5_cutInTwo) = true ∧ lw_tbl[797]? = some (Cond.selects RX5 yX5_cutInTwo yX5_cutInTwo) ∧ goodWord (Cond.selects RX5 yX5_cutInTwo yX5_cutInTwo) = true := by decide +kernel
theorem tw_786 : Cond.methodLink RX0 49 Lib.Math.min.name ∈ TB := tb_in 786 TW114.1 TW114.2.1
theorem tw_795 : Cond.methodLink RX7 137 yX5_cutInTwo ∈ TB := tb_in 795 TW114.2.2.1 TW114.2.2.2.1
theorem tw_796 : Cond.instanceMethod yX5_cutInTwo ∈ TB := tb_in 796 TW114.2.2.2.2.1 TW114.2.2.2.2.2.1
theorem tw_797 : Cond.selects RX5 yX5_cutInTwo yX5_cutInTwo ∈ TB := tb_in 797 TW114.2.2.2.2.2.2.1 TW114.2.2.2.2.2.2.2
set_option maxRecDepth 100000 in
theorem TW115 : lw_tbl[798]? = some (Cond.code yX5_cutInTwo cX5_cutInTwo 5 (some .int)) ∧ goodWord (Cond.code yX5_cutInTwo cX5_cutInTwo 5 (some .int)) = true ∧ lw_tbl[799]? = some (Cond.methodLink RX5 92 yX0_trim) ∧ goodWord (Cond.methodLink RX5 92 yX0_trim) = true ∧ lw_tbl[807]? = some (Cond.methodLink RX7 141 yX5_drop) ∧ goodWord (Cond.methodLink RX7 141 yX5_drop) = true ∧ lw_tbl[808]? = some (Cond.instanceMethod yX5_drop) ∧ goodWord (Cond.instanceMethod yX5_drop) = true := by decide +kernel
theorem tw_798 : Cond.code yX5_cutInTwo cX5_cutInTwo 5 (some .int) ∈ TB := tb_in 798 TW115.1 TW115.2.1
theorem tw_799 : Cond.methodLink RX5 92 yX0_trim ∈ TB := tb_in 799 TW115.2.2.1 TW115.2.2.2.1
theorem tw_807 : Cond.methodLink RX7 141 yX5_drop ∈ TB := tb_in 807 TW115.2.2.2.2.1 TW115.2.2.2.2.2.1
theorem tw_808 : Cond.instanceMethod yX5_drop ∈ TB := tb_in 808 TW115.2.2.2.2.2.2.1 TW115.2.2.2.2.2.2.2
set_option maxRecDepth 100000 in
theorem TW116 : lw_tbl[809]? = some (Cond.selects RX5 yX5_drop yX5_drop) ∧ goodWord (Cond.selects RX5 yX5_drop yX5_drop) = true ∧ lw_tbl[810]? = some (Cond.code yX5_drop cX5_drop 3 none) ∧ goodWord (Cond.code yX5_drop cX5_drop 3 none) = true ∧ lw_tbl[818]? = some (Cond.methodLink RX7 147 yX7_checkTrack) ∧ goodWord (Cond.methodLink RX7 147 yX7_checkTrack) = true ∧ lw_tbl[819]? = some (Cond.static yX7_checkTrack) ∧ goodWord (Cond.static yX7_checkTrack) = true := by decide +kernel
theorem tw_809 : Cond.selects RX5 yX5_drop yX5_drop ∈ TB := tb_in 809 TW116.1 TW116.2.1
theorem tw_810 : Cond.code yX5_drop cX5_drop 3 none ∈ TB := tb_in 810 TW116.2.2.1 TW116.2.2.2.1
theorem tw_818 : Cond.methodLink RX7 147 yX7_checkTrack ∈ TB := tb_in 818 TW116.2.2.2.2.1 TW116.2.2.2.2.2.1
theorem tw_819 : Cond.static yX7_checkTrack ∈ TB := tb_in 819 TW116.2.2.2.2.2.2.1 TW116.2.2.2.2.2.2.2
set_option maxRecDepth 100000 in
theorem TW117 : lw_tbl[820]? = some (Cond.code yX7_checkTrack cX7_checkTrack 1 none) ∧ goodWord (Cond.code yX7_checkTrack cX7_checkTrack 1 none) = true ∧ lw_tbl[823]? = some (Cond.methodLink RX7 152 yX5_cutOut) ∧ goodWord (Cond.methodLink RX7 152 yX5_cutOut) = true ∧ lw_tbl[824]? = some (Cond.instanceMethod yX5_cutOut) ∧ goodWord (Cond.instanceMethod yX5_cutOut) = true ∧ lw_tbl[825]? = some (Cond.selects RX5 yX5_cutOut yX5_cutOut) ∧ goodWord (Cond.selects RX5 yX5_cutOut yX5_cutOut) = true := by decide +kernel
theorem tw_820 : Cond.code yX7_checkTrack cX7_checkTrack 1 none ∈ TB := tb_in 820 TW117.1 TW117.2.1
theorem tw_823 : Cond.methodLink RX7 152 yX5_cutOut ∈ TB := tb_in 823 TW117.2.2.1 TW117.2.2.2.1
theorem tw_824 : Cond.instanceMethod yX5_cutOut ∈ TB := tb_in 824 TW117.2.2.2.2.1 TW117.2.2.2.2.2.1
theorem tw_825 : Cond.selects RX5 yX5_cutOut yX5_cutOut ∈ TB := tb_in 825 TW117.2.2.2.2.2.2.1 TW117.2.2.2.2.2.2.2
set_option maxRecDepth 100000 in
theorem TW118 : lw_tbl[826]? = some (Cond.code yX5_cutOut cX5_cutOut 7 (some .int)) ∧ goodWord (Cond.code yX5_cutOut cX5_cutOut 7 (some .int)) = true ∧ lw_tbl[827]? = some (Cond.methodLink RX5 116 yX5_drop) ∧ goodWord (Cond.methodLink RX5 116 yX5_drop) = true ∧ lw_tbl[828]? = some (Cond.methodLink RX5 120 yX0_loseStretch) ∧ goodWord (Cond.methodLink RX5 120 yX0_loseStretch) = true ∧ lw_tbl[829]? = some (Cond.instanceMethod yX0_loseStretch) ∧ goodWord (Cond.instanceMethod yX0_loseStretch) = true := by decide +kernel
theorem tw_826 : Cond.code yX5_cutOut cX5_cutOut 7 (some .int) ∈ TB := tb_in 826 TW118.1 TW118.2.1
theorem tw_827 : Cond.methodLink RX5 116 yX5_drop ∈ TB := tb_in 827 TW118.2.2.1 TW118.2.2.2.1
theorem tw_828 : Cond.methodLink RX5 120 yX0_loseStretch ∈ TB := tb_in 828 TW118.2.2.2.2.1 TW118.2.2.2.2.2.1
theorem tw_829 : Cond.instanceMethod yX0_loseStretch ∈ TB := tb_in 829 TW118.2.2.2.2.2.2.1 TW118.2.2.2.2.2.2.2
set_option maxRecDepth 100000 in
theorem TW119 : lw_tbl[830]? = some (Cond.selects RX0 yX0_loseStretch yX0_loseStretch) ∧ goodWord (Cond.selects RX0 yX0_loseStretch yX0_loseStretch) = true ∧ lw_tbl[831]? = some (Cond.code yX0_loseStretch cX0_loseStretch 3 none) ∧ goodWord (Cond.code yX0_loseStretch cX0_loseStretch 3 none) = true ∧ lw_tbl[832]? = some (Cond.methodLink RX0 55 yX0_end) ∧ goodWord (Cond.methodLink RX0 55 yX0_end) = true ∧ lw_tbl[833]? = some (Cond.methodLink RX0 59 yX0_trim) ∧ goodWord (Cond.methodLink RX0 59 yX0_trim) = true := by decide +kernel
theorem tw_830 : Cond.selects RX0 yX0_loseStretch yX0_loseStretch ∈ TB := tb_in 830 TW119.1 TW119.2.1
theorem tw_831 : Cond.code yX0_loseStretch cX0_loseStretch 3 none ∈ TB := tb_in 831 TW119.2.2.1 TW119.2.2.2.1
theorem tw_832 : Cond.methodLink RX0 55 yX0_end ∈ TB := tb_in 832 TW119.2.2.2.2.1 TW119.2.2.2.2.2.1
theorem tw_833 : Cond.methodLink RX0 59 yX0_trim ∈ TB := tb_in 833 TW119.2.2.2.2.2.2.1 TW119.2.2.2.2.2.2.2
set_option maxRecDepth 100000 in
theorem TW120 : lw_tbl[834]? = some (Cond.methodLink RX7 156 yX5_offsetsFit) ∧ goodWord (Cond.methodLink RX7 156 yX5_offsetsFit) = true ∧ lw_tbl[835]? = some (Cond.instanceMethod yX5_offsetsFit) ∧ goodWord (Cond.instanceMethod yX5_offsetsFit) = true ∧ lw_tbl[836]? = some (Cond.selects RX5 yX5_offsetsFit yX5_offsetsFit) ∧ goodWord (Cond.selects RX5 yX5_offsetsFit yX5_offsetsFit) = true ∧ lw_tbl[837]? = some (Cond.code yX5_offsetsFit cX5_offsetsFit 2 (some .boolean)) ∧ goodWord (Cond.code yX5_offsetsFit cX5_offsetsFit 2 (some .boolean)) = true := by decide +kernel
theorem tw_834 : Cond.methodLink RX7 156 yX5_offsetsFit ∈ TB := tb_in 834 TW120.1 TW120.2.1
theorem tw_835 : Cond.instanceMethod yX5_offsetsFit ∈ TB := tb_in 835 TW120.2.2.1 TW120.2.2.2.1
theorem tw_836 : Cond.selects RX5 yX5_offsetsFit yX5_offsetsFit ∈ TB := tb_in 836 TW120.2.2.2.2.1 TW120.2.2.2.2.2.1
theorem tw_837 : Cond.code yX5_offsetsFit cX5_offsetsFit 2 (some .boolean) ∈ TB := tb_in 837 TW120.2.2.2.2.2.2.1 TW120.2.2.2.2.2.2.2
set_option maxRecDepth 100000 in
theorem TW121 : lw_tbl[847]? = some (Cond.methodLink RX7 164 yX0_property) ∧ goodWord (Cond.methodLink RX7 164 yX0_property) = true ∧ lw_tbl[855]? = some (Cond.methodLink RX7 167 yX0_covers) ∧ goodWord (Cond.methodLink RX7 167 yX0_covers) = true ∧ lw_tbl[857]? = some (Cond.methodLink RX7 173 yX5_rawValue) ∧ goodWord (Cond.methodLink RX7 173 yX5_rawValue) = true ∧ lw_tbl[873]? = some (Cond.methodLink RX7 198 yX7_checkPosition) ∧ goodWord (Cond.methodLink RX7 198 yX7_checkPosition) = true := by decide +kernel
theorem tw_847 : Cond.methodLink RX7 164 yX0_property ∈ TB := tb_in 847 TW121.1 TW121.2.1
theorem tw_855 : Cond.methodLink RX7 167 yX0_covers ∈ TB := tb_in 855 TW121.2.2.1 TW121.2.2.2.1
theorem tw_857 : Cond.methodLink RX7 173 yX5_rawValue ∈ TB := tb_in 857 TW121.2.2.2.2.1 TW121.2.2.2.2.2.1
theorem tw_873 : Cond.methodLink RX7 198 yX7_checkPosition ∈ TB := tb_in 873 TW121.2.2.2.2.2.2.1 TW121.2.2.2.2.2.2.2
set_option maxRecDepth 100000 in
theorem TW122 : lw_tbl[874]? = some (Cond.static yX7_checkPosition) ∧ goodWord (Cond.static yX7_checkPosition) = true ∧ lw_tbl[875]? = some (Cond.code yX7_checkPosition cX7_checkPosition 1 none) ∧ goodWord (Cond.code yX7_checkPosition cX7_checkPosition 1 none) = true ∧ lw_tbl[878]? = some (Cond.methodLink RX7 206 yX6_pointAt) ∧ goodWord (Cond.methodLink RX7 206 yX6_pointAt) = true ∧ lw_tbl[879]? = some (Cond.instanceMethod yX6_pointAt) ∧ goodWord (Cond.instanceMethod yX6_pointAt) = true := by decide +kernel
theorem tw_874 : Cond.static yX7_checkPosition ∈ TB := tb_in 874 TW122.1 TW122.2.1
theorem tw_875 : Cond.code yX7_checkPosition cX7_checkPosition 1 none ∈ TB := tb_in 875 TW122.2.2.1 TW122.2.2.2.1
theorem tw_878 : Cond.methodLink RX7 206 yX6_pointAt ∈ TB := tb_in 878 TW122.2.2.2.2.1 TW122.2.2.2.2.2.1
theorem tw_879 : Cond.instanceMethod yX6_pointAt ∈ TB := tb_in 879 TW122.2.2.2.2.2.2.1 TW122.2.2.2.2.2.2.2
set_option maxRecDepth 100000 in
theorem TW123 : lw_tbl[880]? = some (Cond.selects RX6 yX6_pointAt yX6_pointAt) ∧ goodWord (Cond.selects RX6 yX6_pointAt yX6_pointAt) = true ∧ lw_tbl[881]? = some (Cond.code yX6_pointAt cX6_pointAt 3 (some .int)) ∧ goodWord (Cond.code yX6_pointAt cX6_pointAt 3 (some .int)) = true ∧ lw_tbl[883]? = some (Cond.methodLink RX7 214 yX6_putPoint) ∧ goodWord (Cond.methodLink RX7 214 yX6_putPoint) = true ∧ lw_tbl[884]? = some (Cond.instanceMethod yX6_putPoint) ∧ goodWord (Cond.instanceMethod yX6_putPoint) = true := by decide +kernel
theorem tw_880 : Cond.selects RX6 yX6_pointAt yX6_pointAt ∈ TB := tb_in 880 TW123.1 TW123.2.1
theorem tw_881 : Cond.code yX6_pointAt cX6_pointAt 3 (some .int) ∈ TB := tb_in 881 TW123.2.2.1 TW123.2.2.2.1
theorem tw_883 : Cond.methodLink RX7 214 yX6_putPoint ∈ TB := tb_in 883 TW123.2.2.2.2.1 TW123.2.2.2.2.2.1
theorem tw_884 : Cond.instanceMethod yX6_putPoint ∈ TB := tb_in 884 TW123.2.2.2.2.2.2.1 TW123.2.2.2.2.2.2.2
set_option maxRecDepth 100000 in
theorem TW124 : lw_tbl[885]? = some (Cond.selects RX6 yX6_putPoint yX6_putPoint) ∧ goodWord (Cond.selects RX6 yX6_putPoint yX6_putPoint) = true ∧ lw_tbl[886]? = some (Cond.code yX6_putPoint cX6_putPoint 6 none) ∧ goodWord (Cond.code yX6_putPoint cX6_putPoint 6 none) = true ∧ lw_tbl[887]? = some (Cond.methodLink RX6 62 yX6_copyPlace) ∧ goodWord (Cond.methodLink RX6 62 yX6_copyPlace) = true ∧ lw_tbl[889]? = some (Cond.instanceMethod yX6_copyPlace) ∧ goodWord (Cond.instanceMethod yX6_copyPlace) = true := by decide +kernel
theorem tw_885 : Cond.selects RX6 yX6_putPoint yX6_putPoint ∈ TB := tb_in 885 TW124.1 TW124.2.1
theorem tw_886 : Cond.code yX6_putPoint cX6_putPoint 6 none ∈ TB := tb_in 886 TW124.2.2.1 TW124.2.2.2.1
theorem tw_887 : Cond.methodLink RX6 62 yX6_copyPlace ∈ TB := tb_in 887 TW124.2.2.2.2.1 TW124.2.2.2.2.2.1
theorem tw_889 : Cond.instanceMethod yX6_copyPlace ∈ TB := tb_in 889 TW124.2.2.2.2.2.2.1 TW124.2.2.2.2.2.2.2
set_option maxRecDepth 100000 in
theorem TW125 : lw_tbl[890]? = some (Cond.code yX6_copyPlace cX6_copyPlace 3 none) ∧ goodWord (Cond.code yX6_copyPlace cX6_copyPlace 3 none) = true ∧ lw_tbl[899]? = some (Cond.methodLink RX7 220 yX6_dropPoint) ∧ goodWord (Cond.methodLink RX7 220 yX6_dropPoint) = true ∧ lw_tbl[900]? = some (Cond.instanceMethod yX6_dropPoint) ∧ goodWord (Cond.instanceMethod yX6_dropPoint) = true ∧ lw_tbl[901]? = some (Cond.selects RX6 yX6_dropPoint yX6_dropPoint) ∧ goodWord (Cond.selects RX6 yX6_dropPoint yX6_dropPoint) = true := by decide +kernel
theorem tw_890 : Cond.code yX6_copyPlace cX6_copyPlace 3 none ∈ TB := tb_in 890 TW125.1 TW125.2.1
theorem tw_899 : Cond.methodLink RX7 220 yX6_dropPoint ∈ TB := tb_in 899 TW125.2.2.1 TW125.2.2.2.1
theorem tw_900 : Cond.instanceMethod yX6_dropPoint ∈ TB := tb_in 900 TW125.2.2.2.2.1 TW125.2.2.2.2.2.1
theorem tw_901 : Cond.selects RX6 yX6_dropPoint yX6_dropPoint ∈ TB := tb_in 901 TW125.2.2.2.2.2.2.1 TW125.2.2.2.2.2.2.2
set_option maxRecDepth 100000 in
theorem TW126 : lw_tbl[902]? = some (Cond.code yX6_dropPoint cX6_dropPoint 3 none) ∧ goodWord (Cond.code yX6_dropPoint cX6_dropPoint 3 none) = true ∧ lw_tbl[910]? = some (Cond.methodLink RX7 223 yX6_laneGain) ∧ goodWord (Cond.methodLink RX7 223 yX6_laneGain) = true ∧ lw_tbl[918]? = some (Cond.constant RX7 226 (100000 : Int32)) ∧ goodWord (Cond.constant RX7 226 (100000 : Int32)) = true ∧ lw_tbl[919]? = some (Cond.methodLink RX7 230 yX5_isKey) ∧ goodWord (Cond.methodLink RX7 230 yX5_isKey) = true := by decide +kernel
theorem tw_902 : Cond.code yX6_dropPoint cX6_dropPoint 3 none ∈ TB := tb_in 902 TW126.1 TW126.2.1
theorem tw_910 : Cond.methodLink RX7 223 yX6_laneGain ∈ TB := tb_in 910 TW126.2.2.1 TW126.2.2.2.1
theorem tw_918 : Cond.constant RX7 226 (100000 : Int32) ∈ TB := tb_in 918 TW126.2.2.2.2.1 TW126.2.2.2.2.2.1
theorem tw_919 : Cond.methodLink RX7 230 yX5_isKey ∈ TB := tb_in 919 TW126.2.2.2.2.2.2.1 TW126.2.2.2.2.2.2.2
set_option maxRecDepth 100000 in
theorem TW127 : lw_tbl[920]? = some (Cond.instanceMethod yX5_isKey) ∧ goodWord (Cond.instanceMethod yX5_isKey) = true ∧ lw_tbl[921]? = some (Cond.selects RX5 yX5_isKey yX5_isKey) ∧ goodWord (Cond.selects RX5 yX5_isKey yX5_isKey) = true ∧ lw_tbl[922]? = some (Cond.code yX5_isKey cX5_isKey 6 (some .boolean)) ∧ goodWord (Cond.code yX5_isKey cX5_isKey 6 (some .boolean)) = true ∧ lw_tbl[989]? = some (Cond.methodLink RX7 296 yX3_take) ∧ goodWord (Cond.methodLink RX7 296 yX3_take) = true := by decide +kernel
theorem tw_920 : Cond.instanceMethod yX5_isKey ∈ TB := tb_in 920 TW127.1 TW127.2.1
theorem tw_921 : Cond.selects RX5 yX5_isKey yX5_isKey ∈ TB := tb_in 921 TW127.2.2.1 TW127.2.2.2.1
theorem tw_922 : Cond.code yX5_isKey cX5_isKey 6 (some .boolean) ∈ TB := tb_in 922 TW127.2.2.2.2.1 TW127.2.2.2.2.2.1
theorem tw_989 : Cond.methodLink RX7 296 yX3_take ∈ TB := tb_in 989 TW127.2.2.2.2.2.2.1 TW127.2.2.2.2.2.2.2
set_option maxRecDepth 100000 in
theorem TW128 : lw_tbl[990]? = some (Cond.instanceMethod yX3_take) ∧ goodWord (Cond.instanceMethod yX3_take) = true ∧ lw_tbl[991]? = some (Cond.selects RX3 yX3_take yX3_take) ∧ goodWord (Cond.selects RX3 yX3_take yX3_take) = true ∧ lw_tbl[992]? = some (Cond.code yX3_take cX3_take 2 none) ∧ goodWord (Cond.code yX3_take cX3_take 2 none) = true ∧ lw_tbl[993]? = some (Cond.methodLink RX3 35 Lib.Math.abs.name) ∧ goodWord (Cond.methodLink RX3 35 Lib.Math.abs.name) = true := by decide +kernel
theorem tw_990 : Cond.instanceMethod yX3_take ∈ TB := tb_in 990 TW128.1 TW128.2.1
theorem tw_991 : Cond.selects RX3 yX3_take yX3_take ∈ TB := tb_in 991 TW128.2.2.1 TW128.2.2.2.1
theorem tw_992 : Cond.code yX3_take cX3_take 2 none ∈ TB := tb_in 992 TW128.2.2.2.2.1 TW128.2.2.2.2.2.1
theorem tw_993 : Cond.methodLink RX3 35 Lib.Math.abs.name ∈ TB := tb_in 993 TW128.2.2.2.2.2.2.1 TW128.2.2.2.2.2.2.2
set_option maxRecDepth 100000 in
theorem TW129 : lw_tbl[994]? = some (Cond.methodLink RX3 41 Lib.MathLoose.max_long.x) ∧ goodWord (Cond.methodLink RX3 41 Lib.MathLoose.max_long.x) = true ∧ lw_tbl[995]? = some (Cond.static Lib.MathLoose.max_long.x) ∧ goodWord (Cond.static Lib.MathLoose.max_long.x) = true ∧ lw_tbl[996]? = some (Cond.code Lib.MathLoose.max_long.x Lib.MathLoose.max_long.code 4 (some .long)) ∧ goodWord (Cond.code Lib.MathLoose.max_long.x Lib.MathLoose.max_long.code 4 (some .long)) = true ∧ lw_tbl[998]? = some (Cond.methodLink RX7 302 yX5_advance) ∧ goodWord (Cond.methodLink RX7 302 yX5_advance) = true := by decide +kernel
theorem tw_994 : Cond.methodLink RX3 41 Lib.MathLoose.max_long.x ∈ TB := tb_in 994 TW129.1 TW129.2.1
theorem tw_995 : Cond.static Lib.MathLoose.max_long.x ∈ TB := tb_in 995 TW129.2.2.1 TW129.2.2.2.1
theorem tw_996 : Cond.code Lib.MathLoose.max_long.x Lib.MathLoose.max_long.code 4 (some .long) ∈ TB := tb_in 996 TW129.2.2.2.2.1 TW129.2.2.2.2.2.1
theorem tw_998 : Cond.methodLink RX7 302 yX5_advance ∈ TB := tb_in 998 TW129.2.2.2.2.2.2.1 TW129.2.2.2.2.2.2.2
set_option maxRecDepth 100000 in
theorem TW130 : lw_tbl[999]? = some (Cond.instanceMethod yX5_advance) ∧ goodWord (Cond.instanceMethod yX5_advance) = true ∧ lw_tbl[1000]? = some (Cond.selects RX5 yX5_advance yX5_advance) ∧ goodWord (Cond.selects RX5 yX5_advance yX5_advance) = true ∧ lw_tbl[1001]? = some (Cond.code yX5_advance cX5_advance 1 none) ∧ goodWord (Cond.code yX5_advance cX5_advance 1 none) = true ∧ lw_tbl[1010]? = some (Cond.methodLink RX7 307 yX3_reading) ∧ goodWord (Cond.methodLink RX7 307 yX3_reading) = true := by decide +kernel
theorem tw_999 : Cond.instanceMethod yX5_advance ∈ TB := tb_in 999 TW130.1 TW130.2.1
theorem tw_1000 : Cond.selects RX5 yX5_advance yX5_advance ∈ TB := tb_in 1000 TW130.2.2.1 TW130.2.2.2.1
theorem tw_1001 : Cond.code yX5_advance cX5_advance 1 none ∈ TB := tb_in 1001 TW130.2.2.2.2.1 TW130.2.2.2.2.2.1
theorem tw_1010 : Cond.methodLink RX7 307 yX3_reading ∈ TB := tb_in 1010 TW130.2.2.2.2.2.2.1 TW130.2.2.2.2.2.2.2
set_option maxRecDepth 100000 in
theorem TW131 : lw_tbl[1024]? = some (Cond.methodLink RX8 1 objectInit) ∧ goodWord (Cond.methodLink RX8 1 objectInit) = true ∧ lw_tbl[1025]? = some (Cond.constantLong RX8 13 (7 : Int64)) ∧ goodWord (Cond.constantLong RX8 13 (7 : Int64)) = true ∧ lw_tbl[1026]? = some (Cond.methodLink RX8 35 yX8_trackAt) ∧ goodWord (Cond.methodLink RX8 35 yX8_trackAt) = true ∧ lw_tbl[1027]? = some (Cond.static yX8_trackAt) ∧ goodWord (Cond.static yX8_trackAt) = true := by decide +kernel
theorem tw_1024 : Cond.methodLink RX8 1 objectInit ∈ TB := tb_in 1024 TW131.1 TW131.2.1
theorem tw_1025 : Cond.constantLong RX8 13 (7 : Int64) ∈ TB := tb_in 1025 TW131.2.2.1 TW131.2.2.2.1
theorem tw_1026 : Cond.methodLink RX8 35 yX8_trackAt ∈ TB := tb_in 1026 TW131.2.2.2.2.1 TW131.2.2.2.2.2.1
theorem tw_1027 : Cond.static yX8_trackAt ∈ TB := tb_in 1027 TW131.2.2.2.2.2.2.1 TW131.2.2.2.2.2.2.2
set_option maxRecDepth 100000 in
theorem TW132 : lw_tbl[1028]? = some (Cond.code yX8_trackAt cX8_trackAt 1 (some .int)) ∧ goodWord (Cond.code yX8_trackAt cX8_trackAt 1 (some .int)) = true ∧ lw_tbl[1029]? = some (Cond.fieldLink RX8 7 RX8 "now" "[I") ∧ goodWord (Cond.fieldLink RX8 7 RX8 "now" "[I") = true ∧ lw_tbl[1030]? = some (Cond.fieldLink RX8 15 RX8 "checkSum" "J") ∧ goodWord (Cond.fieldLink RX8 15 RX8 "checkSum" "J") = true ∧ lw_tbl[1031]? = some (Cond.fieldLink RX8 19 RX8 "past" "[I") ∧ goodWord (Cond.fieldLink RX8 19 RX8 "past" "[I") = true := by decide +kernel
theorem tw_1028 : Cond.code yX8_trackAt cX8_trackAt 1 (some .int) ∈ TB := tb_in 1028 TW132.1 TW132.2.1
theorem tw_1029 : Cond.fieldLink RX8 7 RX8 "now" "[I" ∈ TB := tb_in 1029 TW132.2.2.1 TW132.2.2.2.1
theorem tw_1030 : Cond.fieldLink RX8 15 RX8 "checkSum" "J" ∈ TB := tb_in 1030 TW132.2.2.2.2.1 TW132.2.2.2.2.2.1
theorem tw_1031 : Cond.fieldLink RX8 19 RX8 "past" "[I" ∈ TB := tb_in 1031 TW132.2.2.2.2.2.2.1 TW132.2.2.2.2.2.2.2
set_option maxRecDepth 100000 in
theorem TW133 : lw_tbl[1032]? = some (Cond.fieldLink RX8 22 RX8 "pastSums" "[J") ∧ goodWord (Cond.fieldLink RX8 22 RX8 "pastSums" "[J") = true ∧ lw_tbl[1033]? = some (Cond.fieldLink RX8 55 RX8 "kept" "I") ∧ goodWord (Cond.fieldLink RX8 55 RX8 "kept" "I") = true ∧ lw_tbl[1034]? = some (Cond.fieldLink RX8 39 RX8 "thrown" "I") ∧ goodWord (Cond.fieldLink RX8 39 RX8 "thrown" "I") = true ∧ lw_tbl[1035]? = some (Cond.fieldLink RX8 95 RX8 "many" "I") ∧ goodWord (Cond.fieldLink RX8 95 RX8 "many" "I") = true := by decide +kernel
theorem tw_1032 : Cond.fieldLink RX8 22 RX8 "pastSums" "[J" ∈ TB := tb_in 1032 TW133.1 TW133.2.1
theorem tw_1033 : Cond.fieldLink RX8 55 RX8 "kept" "I" ∈ TB := tb_in 1033 TW133.2.2.1 TW133.2.2.2.1
theorem tw_1034 : Cond.fieldLink RX8 39 RX8 "thrown" "I" ∈ TB := tb_in 1034 TW133.2.2.2.2.1 TW133.2.2.2.2.2.1
theorem tw_1035 : Cond.fieldLink RX8 95 RX8 "many" "I" ∈ TB := tb_in 1035 TW133.2.2.2.2.2.2.1 TW133.2.2.2.2.2.2.2
set_option maxRecDepth 100000 in
theorem TW134 : lw_tbl[1036]? = some (Cond.fieldLink RX8 26 RX8 "tried" "[I") ∧ goodWord (Cond.fieldLink RX8 26 RX8 "tried" "[I") = true ∧ lw_tbl[1037]? = some (Cond.fieldLink RX8 29 RX8 "carried" "[I") ∧ goodWord (Cond.fieldLink RX8 29 RX8 "carried" "[I") = true ∧ lw_tbl[1038]? = some (Cond.fieldLink RX8 32 RX8 "ends" "[I") ∧ goodWord (Cond.fieldLink RX8 32 RX8 "ends" "[I") = true ∧ lw_tbl[1039]? = some (Cond.fieldLink RX8 222 RX8 "leftNow" "I") ∧ goodWord (Cond.fieldLink RX8 222 RX8 "leftNow" "I") = true := by decide +kernel
theorem tw_1036 : Cond.fieldLink RX8 26 RX8 "tried" "[I" ∈ TB := tb_in 1036 TW134.1 TW134.2.1
theorem tw_1037 : Cond.fieldLink RX8 29 RX8 "carried" "[I" ∈ TB := tb_in 1037 TW134.2.2.1 TW134.2.2.2.1
theorem tw_1038 : Cond.fieldLink RX8 32 RX8 "ends" "[I" ∈ TB := tb_in 1038 TW134.2.2.2.2.1 TW134.2.2.2.2.2.1
theorem tw_1039 : Cond.fieldLink RX8 222 RX8 "leftNow" "I" ∈ TB := tb_in 1039 TW134.2.2.2.2.2.2.1 TW134.2.2.2.2.2.2.2
set_option maxRecDepth 100000 in
theorem TW135 : lw_tbl[1040]? = some (Cond.fieldLink RX8 225 RX8 "rightNow" "I") ∧ goodWord (Cond.fieldLink RX8 225 RX8 "rightNow" "I") = true ∧ lw_tbl[1041]? = some (Cond.fieldLink RX8 216 RX8 "limitedNow" "I") ∧ goodWord (Cond.fieldLink RX8 216 RX8 "limitedNow" "I") = true ∧ lw_tbl[1042]? = some (Cond.fieldLink RX8 245 RX8 "hash" "J") ∧ goodWord (Cond.fieldLink RX8 245 RX8 "hash" "J") = true ∧ lw_tbl[1072]? = some (Cond.arrayClass .long) ∧ goodWord (Cond.arrayClass .long) = true := by decide +kernel
theorem tw_1040 : Cond.fieldLink RX8 225 RX8 "rightNow" "I" ∈ TB := tb_in 1040 TW135.1 TW135.2.1
theorem tw_1041 : Cond.fieldLink RX8 216 RX8 "limitedNow" "I" ∈ TB := tb_in 1041 TW135.2.2.1 TW135.2.2.2.1
theorem tw_1042 : Cond.fieldLink RX8 245 RX8 "hash" "J" ∈ TB := tb_in 1042 TW135.2.2.2.2.1 TW135.2.2.2.2.2.1
theorem tw_1072 : Cond.arrayClass .long ∈ TB := tb_in 1072 TW135.2.2.2.2.2.2.1 TW135.2.2.2.2.2.2.2
set_option maxRecDepth 100000 in
theorem TW136 : lw_tbl[1081]? = some (Cond.constantLong RX8 43 (3 : Int64)) ∧ goodWord (Cond.constantLong RX8 43 (3 : Int64)) = true ∧ lw_tbl[1082]? = some (Cond.methodLink RX8 45 yX8_in) ∧ goodWord (Cond.methodLink RX8 45 yX8_in) = true ∧ lw_tbl[1083]? = some (Cond.static yX8_in) ∧ goodWord (Cond.static yX8_in) = true ∧ lw_tbl[1084]? = some (Cond.code yX8_in cX8_in 6 (some .boolean)) ∧ goodWord (Cond.code yX8_in cX8_in 6 (some .boolean)) = true := by decide +kernel
theorem tw_1081 : Cond.constantLong RX8 43 (3 : Int64) ∈ TB := tb_in 1081 TW136.1 TW136.2.1
theorem tw_1082 : Cond.methodLink RX8 45 yX8_in ∈ TB := tb_in 1082 TW136.2.2.1 TW136.2.2.2.1
theorem tw_1083 : Cond.static yX8_in ∈ TB := tb_in 1083 TW136.2.2.2.2.1 TW136.2.2.2.2.2.1
theorem tw_1084 : Cond.code yX8_in cX8_in 6 (some .boolean) ∈ TB := tb_in 1084 TW136.2.2.2.2.2.2.1 TW136.2.2.2.2.2.2.2
set_option maxRecDepth 100000 in
theorem TW137 : lw_tbl[1085]? = some (Cond.constantLong RX8 66 (10000 : Int64)) ∧ goodWord (Cond.constantLong RX8 66 (10000 : Int64)) = true ∧ lw_tbl[1086]? = some (Cond.constantLong RX8 58 (1000 : Int64)) ∧ goodWord (Cond.constantLong RX8 58 (1000 : Int64)) = true ∧ lw_tbl[1087]? = some (Cond.constantLong RX8 68 (4000 : Int64)) ∧ goodWord (Cond.constantLong RX8 68 (4000 : Int64)) = true ∧ lw_tbl[1088]? = some (Cond.methodLink RX8 70 yX8_isSource) ∧ goodWord (Cond.methodLink RX8 70 yX8_isSource) = true := by decide +kernel
theorem tw_1085 : Cond.constantLong RX8 66 (10000 : Int64) ∈ TB := tb_in 1085 TW137.1 TW137.2.1
theorem tw_1086 : Cond.constantLong RX8 58 (1000 : Int64) ∈ TB := tb_in 1086 TW137.2.2.1 TW137.2.2.2.1
theorem tw_1087 : Cond.constantLong RX8 68 (4000 : Int64) ∈ TB := tb_in 1087 TW137.2.2.2.2.1 TW137.2.2.2.2.2.1
theorem tw_1088 : Cond.methodLink RX8 70 yX8_isSource ∈ TB := tb_in 1088 TW137.2.2.2.2.2.2.1 TW137.2.2.2.2.2.2.2
set_option maxRecDepth 100000 in
theorem TW138 : lw_tbl[1089]? = some (Cond.static yX8_isSource) ∧ goodWord (Cond.static yX8_isSource) = true ∧ lw_tbl[1090]? = some (Cond.code yX8_isSource cX8_isSource 1 (some .boolean)) ∧ goodWord (Cond.code yX8_isSource cX8_isSource 1 (some .boolean)) = true ∧ lw_tbl[1091]? = some (Cond.constantLong RX8 64 (5 : Int64)) ∧ goodWord (Cond.constantLong RX8 64 (5 : Int64)) = true ∧ lw_tbl[1092]? = some (Cond.methodLink RX8 73 yX8_refusesChange) ∧ goodWord (Cond.methodLink RX8 73 yX8_refusesChange) = true := by decide +kernel
theorem tw_1089 : Cond.static yX8_isSource ∈ TB := tb_in 1089 TW138.1 TW138.2.1
theorem tw_1090 : Cond.code yX8_isSource cX8_isSource 1 (some .boolean) ∈ TB := tb_in 1090 TW138.2.2.1 TW138.2.2.2.1
theorem tw_1091 : Cond.constantLong RX8 64 (5 : Int64) ∈ TB := tb_in 1091 TW138.2.2.2.2.1 TW138.2.2.2.2.2.1
theorem tw_1092 : Cond.methodLink RX8 73 yX8_refusesChange ∈ TB := tb_in 1092 TW138.2.2.2.2.2.2.1 TW138.2.2.2.2.2.2.2
set_option maxRecDepth 100000 in
theorem TW139 : lw_tbl[1094]? = some (Cond.instanceMethod yX8_refusesChange) ∧ goodWord (Cond.instanceMethod yX8_refusesChange) = true ∧ lw_tbl[1095]? = some (Cond.code yX8_refusesChange cX8_refusesChange 3 (some .boolean)) ∧ goodWord (Cond.code yX8_refusesChange cX8_refusesChange 3 (some .boolean)) = true ∧ lw_tbl[1096]? = some (Cond.methodLink RX8 51 yX8_refuses) ∧ goodWord (Cond.methodLink RX8 51 yX8_refuses) = true ∧ lw_tbl[1098]? = some (Cond.instanceMethod yX8_refuses) ∧ goodWord (Cond.instanceMethod yX8_refuses) = true := by decide +kernel
theorem tw_1094 : Cond.instanceMethod yX8_refusesChange ∈ TB := tb_in 1094 TW139.1 TW139.2.1
theorem tw_1095 : Cond.code yX8_refusesChange cX8_refusesChange 3 (some .boolean) ∈ TB := tb_in 1095 TW139.2.2.1 TW139.2.2.2.1
theorem tw_1096 : Cond.methodLink RX8 51 yX8_refuses ∈ TB := tb_in 1096 TW139.2.2.2.2.1 TW139.2.2.2.2.2.1
theorem tw_1098 : Cond.instanceMethod yX8_refuses ∈ TB := tb_in 1098 TW139.2.2.2.2.2.2.1 TW139.2.2.2.2.2.2.2
set_option maxRecDepth 100000 in
theorem TW140 : lw_tbl[1099]? = some (Cond.code yX8_refuses cX8_refuses 2 (some .boolean)) ∧ goodWord (Cond.code yX8_refuses cX8_refuses 2 (some .boolean)) = true ∧ lw_tbl[1100]? = some (Cond.methodLink RX8 76 yX8_becomes) ∧ goodWord (Cond.methodLink RX8 76 yX8_becomes) = true ∧ lw_tbl[1102]? = some (Cond.instanceMethod yX8_becomes) ∧ goodWord (Cond.instanceMethod yX8_becomes) = true ∧ lw_tbl[1103]? = some (Cond.code yX8_becomes cX8_becomes 4 (some .int)) ∧ goodWord (Cond.code yX8_becomes cX8_becomes 4 (some .int)) = true := by decide +kernel
theorem tw_1099 : Cond.code yX8_refuses cX8_refuses 2 (some .boolean) ∈ TB := tb_in 1099 TW140.1 TW140.2.1
theorem tw_1100 : Cond.methodLink RX8 76 yX8_becomes ∈ TB := tb_in 1100 TW140.2.2.1 TW140.2.2.2.1
theorem tw_1102 : Cond.instanceMethod yX8_becomes ∈ TB := tb_in 1102 TW140.2.2.2.2.1 TW140.2.2.2.2.2.1
theorem tw_1103 : Cond.code yX8_becomes cX8_becomes 4 (some .int) ∈ TB := tb_in 1103 TW140.2.2.2.2.2.2.1 TW140.2.2.2.2.2.2.2
set_option maxRecDepth 100000 in
theorem TW141 : lw_tbl[1108]? = some (Cond.methodLink RX8 88 yX8_hasSample) ∧ goodWord (Cond.methodLink RX8 88 yX8_hasSample) = true ∧ lw_tbl[1110]? = some (Cond.instanceMethod yX8_hasSample) ∧ goodWord (Cond.instanceMethod yX8_hasSample) = true ∧ lw_tbl[1111]? = some (Cond.code yX8_hasSample cX8_hasSample 3 (some .boolean)) ∧ goodWord (Cond.code yX8_hasSample cX8_hasSample 3 (some .boolean)) = true ∧ lw_tbl[1112]? = some (Cond.methodLink RX8 92 yX8_sampleOf) ∧ goodWord (Cond.methodLink RX8 92 yX8_sampleOf) = true := by decide +kernel
theorem tw_1108 : Cond.methodLink RX8 88 yX8_hasSample ∈ TB := tb_in 1108 TW141.1 TW141.2.1
theorem tw_1110 : Cond.instanceMethod yX8_hasSample ∈ TB := tb_in 1110 TW141.2.2.1 TW141.2.2.2.1
theorem tw_1111 : Cond.code yX8_hasSample cX8_hasSample 3 (some .boolean) ∈ TB := tb_in 1111 TW141.2.2.2.2.1 TW141.2.2.2.2.2.1
theorem tw_1112 : Cond.methodLink RX8 92 yX8_sampleOf ∈ TB := tb_in 1112 TW141.2.2.2.2.2.2.1 TW141.2.2.2.2.2.2.2
set_option maxRecDepth 100000 in
theorem TW142 : lw_tbl[1114]? = some (Cond.instanceMethod yX8_sampleOf) ∧ goodWord (Cond.instanceMethod yX8_sampleOf) = true ∧ lw_tbl[1115]? = some (Cond.code yX8_sampleOf cX8_sampleOf 8 (some .int)) ∧ goodWord (Cond.code yX8_sampleOf cX8_sampleOf 8 (some .int)) = true ∧ lw_tbl[1116]? = some (Cond.constantLong RX8 80 (1103515245 : Int64)) ∧ goodWord (Cond.constantLong RX8 80 (1103515245 : Int64)) = true ∧ lw_tbl[1117]? = some (Cond.constantLong RX8 82 (12345 : Int64)) ∧ goodWord (Cond.constantLong RX8 82 (12345 : Int64)) = true := by decide +kernel
theorem tw_1114 : Cond.instanceMethod yX8_sampleOf ∈ TB := tb_in 1114 TW142.1 TW142.2.1
theorem tw_1115 : Cond.code yX8_sampleOf cX8_sampleOf 8 (some .int) ∈ TB := tb_in 1115 TW142.2.2.1 TW142.2.2.2.1
theorem tw_1116 : Cond.constantLong RX8 80 (1103515245 : Int64) ∈ TB := tb_in 1116 TW142.2.2.2.2.1 TW142.2.2.2.2.2.1
theorem tw_1117 : Cond.constantLong RX8 82 (12345 : Int64) ∈ TB := tb_in 1117 TW142.2.2.2.2.2.2.1 TW142.2.2.2.2.2.2.2
set_option maxRecDepth 100000 in
theorem TW143 : lw_tbl[1118]? = some (Cond.constantLong RX8 84 (2147483648 : Int64)) ∧ goodWord (Cond.constantLong RX8 84 (2147483648 : Int64)) = true ∧ lw_tbl[1119]? = some (Cond.constantLong RX8 86 (65536 : Int64)) ∧ goodWord (Cond.constantLong RX8 86 (65536 : Int64)) = true ∧ lw_tbl[1124]? = some (Cond.methodLink RX8 111 yX8_isTrack) ∧ goodWord (Cond.methodLink RX8 111 yX8_isTrack) = true ∧ lw_tbl[1125]? = some (Cond.static yX8_isTrack) ∧ goodWord (Cond.static yX8_isTrack) = true := by decide +kernel
theorem tw_1118 : Cond.constantLong RX8 84 (2147483648 : Int64) ∈ TB := tb_in 1118 TW143.1 TW143.2.1
theorem tw_1119 : Cond.constantLong RX8 86 (65536 : Int64) ∈ TB := tb_in 1119 TW143.2.2.1 TW143.2.2.2.1
theorem tw_1124 : Cond.methodLink RX8 111 yX8_isTrack ∈ TB := tb_in 1124 TW143.2.2.2.2.1 TW143.2.2.2.2.2.1
theorem tw_1125 : Cond.static yX8_isTrack ∈ TB := tb_in 1125 TW143.2.2.2.2.2.2.1 TW143.2.2.2.2.2.2.2
set_option maxRecDepth 100000 in
theorem TW144 : lw_tbl[1126]? = some (Cond.code yX8_isTrack cX8_isTrack 1 (some .boolean)) ∧ goodWord (Cond.code yX8_isTrack cX8_isTrack 1 (some .boolean)) = true ∧ lw_tbl[1127]? = some (Cond.methodLink RX8 114 yX8_isPlace) ∧ goodWord (Cond.methodLink RX8 114 yX8_isPlace) = true ∧ lw_tbl[1128]? = some (Cond.static yX8_isPlace) ∧ goodWord (Cond.static yX8_isPlace) = true ∧ lw_tbl[1129]? = some (Cond.code yX8_isPlace cX8_isPlace 1 (some .boolean)) ∧ goodWord (Cond.code yX8_isPlace cX8_isPlace 1 (some .boolean)) = true := by decide +kernel
theorem tw_1126 : Cond.code yX8_isTrack cX8_isTrack 1 (some .boolean) ∈ TB := tb_in 1126 TW144.1 TW144.2.1
theorem tw_1127 : Cond.methodLink RX8 114 yX8_isPlace ∈ TB := tb_in 1127 TW144.2.2.1 TW144.2.2.2.1
theorem tw_1128 : Cond.static yX8_isPlace ∈ TB := tb_in 1128 TW144.2.2.2.2.1 TW144.2.2.2.2.2.1
theorem tw_1129 : Cond.code yX8_isPlace cX8_isPlace 1 (some .boolean) ∈ TB := tb_in 1129 TW144.2.2.2.2.2.2.1 TW144.2.2.2.2.2.2.2
set_option maxRecDepth 100000 in
theorem TW145 : lw_tbl[1130]? = some (Cond.constantLong RX8 49 (3999 : Int64)) ∧ goodWord (Cond.constantLong RX8 49 (3999 : Int64)) = true ∧ lw_tbl[1131]? = some (Cond.constantLong RX8 117 (2000 : Int64)) ∧ goodWord (Cond.constantLong RX8 117 (2000 : Int64)) = true ∧ lw_tbl[1132]? = some (Cond.methodLink RX8 119 yX8_tries) ∧ goodWord (Cond.methodLink RX8 119 yX8_tries) = true ∧ lw_tbl[1134]? = some (Cond.instanceMethod yX8_tries) ∧ goodWord (Cond.instanceMethod yX8_tries) = true := by decide +kernel
theorem tw_1130 : Cond.constantLong RX8 49 (3999 : Int64) ∈ TB := tb_in 1130 TW145.1 TW145.2.1
theorem tw_1131 : Cond.constantLong RX8 117 (2000 : Int64) ∈ TB := tb_in 1131 TW145.2.2.1 TW145.2.2.2.1
theorem tw_1132 : Cond.methodLink RX8 119 yX8_tries ∈ TB := tb_in 1132 TW145.2.2.2.2.1 TW145.2.2.2.2.2.1
theorem tw_1134 : Cond.instanceMethod yX8_tries ∈ TB := tb_in 1134 TW145.2.2.2.2.2.2.1 TW145.2.2.2.2.2.2.2
set_option maxRecDepth 100000 in
theorem TW146 : lw_tbl[1135]? = some (Cond.code yX8_tries cX8_tries 2 none) ∧ goodWord (Cond.code yX8_tries cX8_tries 2 none) = true ∧ lw_tbl[1136]? = some (Cond.methodLink RX8 122 yX8_set) ∧ goodWord (Cond.methodLink RX8 122 yX8_set) = true ∧ lw_tbl[1138]? = some (Cond.instanceMethod yX8_set) ∧ goodWord (Cond.instanceMethod yX8_set) = true ∧ lw_tbl[1139]? = some (Cond.code yX8_set cX8_set 4 none) ∧ goodWord (Cond.code yX8_set cX8_set 4 none) = true := by decide +kernel
theorem tw_1135 : Cond.code yX8_tries cX8_tries 2 none ∈ TB := tb_in 1135 TW146.1 TW146.2.1
theorem tw_1136 : Cond.methodLink RX8 122 yX8_set ∈ TB := tb_in 1136 TW146.2.2.1 TW146.2.2.2.1
theorem tw_1138 : Cond.instanceMethod yX8_set ∈ TB := tb_in 1138 TW146.2.2.2.2.1 TW146.2.2.2.2.2.1
theorem tw_1139 : Cond.code yX8_set cX8_set 4 none ∈ TB := tb_in 1139 TW146.2.2.2.2.2.2.1 TW146.2.2.2.2.2.2.2
set_option maxRecDepth 100000 in
theorem TW147 : lw_tbl[1140]? = some (Cond.methodLink RX8 126 yX8_settles) ∧ goodWord (Cond.methodLink RX8 126 yX8_settles) = true ∧ lw_tbl[1142]? = some (Cond.instanceMethod yX8_settles) ∧ goodWord (Cond.instanceMethod yX8_settles) = true ∧ lw_tbl[1143]? = some (Cond.code yX8_settles cX8_settles 5 (some .int)) ∧ goodWord (Cond.code yX8_settles cX8_settles 5 (some .int)) = true ∧ lw_tbl[1144]? = some (Cond.methodLink RX8 98 yX8_of) ∧ goodWord (Cond.methodLink RX8 98 yX8_of) = true := by decide +kernel
theorem tw_1140 : Cond.methodLink RX8 126 yX8_settles ∈ TB := tb_in 1140 TW147.1 TW147.2.1
theorem tw_1142 : Cond.instanceMethod yX8_settles ∈ TB := tb_in 1142 TW147.2.2.1 TW147.2.2.2.1
theorem tw_1143 : Cond.code yX8_settles cX8_settles 5 (some .int) ∈ TB := tb_in 1143 TW147.2.2.2.2.1 TW147.2.2.2.2.2.1
theorem tw_1144 : Cond.methodLink RX8 98 yX8_of ∈ TB := tb_in 1144 TW147.2.2.2.2.2.2.1 TW147.2.2.2.2.2.2.2
set_option maxRecDepth 100000 in
theorem TW148 : lw_tbl[1146]? = some (Cond.instanceMethod yX8_of) ∧ goodWord (Cond.instanceMethod yX8_of) = true ∧ lw_tbl[1147]? = some (Cond.code yX8_of cX8_of 3 (some .int)) ∧ goodWord (Cond.code yX8_of cX8_of 3 (some .int)) = true ∧ lw_tbl[1148]? = some (Cond.methodLink RX8 105 yX8_carries) ∧ goodWord (Cond.methodLink RX8 105 yX8_carries) = true ∧ lw_tbl[1150]? = some (Cond.instanceMethod yX8_carries) ∧ goodWord (Cond.instanceMethod yX8_carries) = true := by decide +kernel
theorem tw_1146 : Cond.instanceMethod yX8_of ∈ TB := tb_in 1146 TW148.1 TW148.2.1
theorem tw_1147 : Cond.code yX8_of cX8_of 3 (some .int) ∈ TB := tb_in 1147 TW148.2.2.1 TW148.2.2.2.1
theorem tw_1148 : Cond.methodLink RX8 105 yX8_carries ∈ TB := tb_in 1148 TW148.2.2.2.2.1 TW148.2.2.2.2.2.1
theorem tw_1150 : Cond.instanceMethod yX8_carries ∈ TB := tb_in 1150 TW148.2.2.2.2.2.2.1 TW148.2.2.2.2.2.2.2
set_option maxRecDepth 100000 in
theorem TW149 : lw_tbl[1151]? = some (Cond.code yX8_carries cX8_carries 4 none) ∧ goodWord (Cond.code yX8_carries cX8_carries 4 none) = true ∧ lw_tbl[1152]? = some (Cond.methodLink RX8 101 yX8_shifts) ∧ goodWord (Cond.methodLink RX8 101 yX8_shifts) = true ∧ lw_tbl[1154]? = some (Cond.instanceMethod yX8_shifts) ∧ goodWord (Cond.instanceMethod yX8_shifts) = true ∧ lw_tbl[1155]? = some (Cond.code yX8_shifts cX8_shifts 4 none) ∧ goodWord (Cond.code yX8_shifts cX8_shifts 4 none) = true := by decide +kernel
theorem tw_1151 : Cond.code yX8_carries cX8_carries 4 none ∈ TB := tb_in 1151 TW149.1 TW149.2.1
theorem tw_1152 : Cond.methodLink RX8 101 yX8_shifts ∈ TB := tb_in 1152 TW149.2.2.1 TW149.2.2.2.1
theorem tw_1154 : Cond.instanceMethod yX8_shifts ∈ TB := tb_in 1154 TW149.2.2.2.2.1 TW149.2.2.2.2.2.1
theorem tw_1155 : Cond.code yX8_shifts cX8_shifts 4 none ∈ TB := tb_in 1155 TW149.2.2.2.2.2.2.1 TW149.2.2.2.2.2.2.2
set_option maxRecDepth 100000 in
theorem TW150 : lw_tbl[1156]? = some (Cond.methodLink RX8 129 yX8_isFine) ∧ goodWord (Cond.methodLink RX8 129 yX8_isFine) = true ∧ lw_tbl[1158]? = some (Cond.instanceMethod yX8_isFine) ∧ goodWord (Cond.instanceMethod yX8_isFine) = true ∧ lw_tbl[1159]? = some (Cond.code yX8_isFine cX8_isFine 3 (some .boolean)) ∧ goodWord (Cond.code yX8_isFine cX8_isFine 3 (some .boolean)) = true ∧ lw_tbl[1160]? = some (Cond.methodLink RX8 108 yX8_endOf) ∧ goodWord (Cond.methodLink RX8 108 yX8_endOf) = true := by decide +kernel
theorem tw_1156 : Cond.methodLink RX8 129 yX8_isFine ∈ TB := tb_in 1156 TW150.1 TW150.2.1
theorem tw_1158 : Cond.instanceMethod yX8_isFine ∈ TB := tb_in 1158 TW150.2.2.1 TW150.2.2.2.1
theorem tw_1159 : Cond.code yX8_isFine cX8_isFine 3 (some .boolean) ∈ TB := tb_in 1159 TW150.2.2.2.2.1 TW150.2.2.2.2.2.1
theorem tw_1160 : Cond.methodLink RX8 108 yX8_endOf ∈ TB := tb_in 1160 TW150.2.2.2.2.2.2.1 TW150.2.2.2.2.2.2.2
set_option maxRecDepth 100000 in
theorem TW151 : lw_tbl[1162]? = some (Cond.instanceMethod yX8_endOf) ∧ goodWord (Cond.instanceMethod yX8_endOf) = true ∧ lw_tbl[1163]? = some (Cond.code yX8_endOf cX8_endOf 2 (some .int)) ∧ goodWord (Cond.code yX8_endOf cX8_endOf 2 (some .int)) = true ∧ lw_tbl[1164]? = some (Cond.methodLink RX8 133 yX8_takesOver) ∧ goodWord (Cond.methodLink RX8 133 yX8_takesOver) = true ∧ lw_tbl[1166]? = some (Cond.instanceMethod yX8_takesOver) ∧ goodWord (Cond.instanceMethod yX8_takesOver) = true := by decide +kernel
theorem tw_1162 : Cond.instanceMethod yX8_endOf ∈ TB := tb_in 1162 TW151.1 TW151.2.1
theorem tw_1163 : Cond.code yX8_endOf cX8_endOf 2 (some .int) ∈ TB := tb_in 1163 TW151.2.2.1 TW151.2.2.2.1
theorem tw_1164 : Cond.methodLink RX8 133 yX8_takesOver ∈ TB := tb_in 1164 TW151.2.2.2.2.1 TW151.2.2.2.2.2.1
theorem tw_1166 : Cond.instanceMethod yX8_takesOver ∈ TB := tb_in 1166 TW151.2.2.2.2.2.2.1 TW151.2.2.2.2.2.2.2
set_option maxRecDepth 100000 in
theorem TW152 : lw_tbl[1167]? = some (Cond.code yX8_takesOver cX8_takesOver 2 none) ∧ goodWord (Cond.code yX8_takesOver cX8_takesOver 2 none) = true ∧ lw_tbl[1172]? = some (Cond.methodLink RX8 136 yX8_isClip) ∧ goodWord (Cond.methodLink RX8 136 yX8_isClip) = true ∧ lw_tbl[1174]? = some (Cond.instanceMethod yX8_isClip) ∧ goodWord (Cond.instanceMethod yX8_isClip) = true ∧ lw_tbl[1175]? = some (Cond.code yX8_isClip cX8_isClip 2 (some .boolean)) ∧ goodWord (Cond.code yX8_isClip cX8_isClip 2 (some .boolean)) = true := by decide +kernel
theorem tw_1167 : Cond.code yX8_takesOver cX8_takesOver 2 none ∈ TB := tb_in 1167 TW152.1 TW152.2.1
theorem tw_1172 : Cond.methodLink RX8 136 yX8_isClip ∈ TB := tb_in 1172 TW152.2.2.1 TW152.2.2.2.1
theorem tw_1174 : Cond.instanceMethod yX8_isClip ∈ TB := tb_in 1174 TW152.2.2.2.2.1 TW152.2.2.2.2.2.1
theorem tw_1175 : Cond.code yX8_isClip cX8_isClip 2 (some .boolean) ∈ TB := tb_in 1175 TW152.2.2.2.2.2.2.1 TW152.2.2.2.2.2.2.2
set_option maxRecDepth 100000 in
theorem TW153 : lw_tbl[1184]? = some (Cond.methodLink RX8 143 yX8_cuts) ∧ goodWord (Cond.methodLink RX8 143 yX8_cuts) = true ∧ lw_tbl[1186]? = some (Cond.instanceMethod yX8_cuts) ∧ goodWord (Cond.instanceMethod yX8_cuts) = true ∧ lw_tbl[1187]? = some (Cond.code yX8_cuts cX8_cuts 4 none) ∧ goodWord (Cond.code yX8_cuts cX8_cuts 4 none) = true ∧ lw_tbl[1188]? = some (Cond.methodLink RX8 139 yX8_limitsFades) ∧ goodWord (Cond.methodLink RX8 139 yX8_limitsFades) = true := by decide +kernel
theorem tw_1184 : Cond.methodLink RX8 143 yX8_cuts ∈ TB := tb_in 1184 TW153.1 TW153.2.1
theorem tw_1186 : Cond.instanceMethod yX8_cuts ∈ TB := tb_in 1186 TW153.2.2.1 TW153.2.2.2.1
theorem tw_1187 : Cond.code yX8_cuts cX8_cuts 4 none ∈ TB := tb_in 1187 TW153.2.2.2.2.1 TW153.2.2.2.2.2.1
theorem tw_1188 : Cond.methodLink RX8 139 yX8_limitsFades ∈ TB := tb_in 1188 TW153.2.2.2.2.2.2.1 TW153.2.2.2.2.2.2.2
set_option maxRecDepth 100000 in
theorem TW154 : lw_tbl[1190]? = some (Cond.instanceMethod yX8_limitsFades) ∧ goodWord (Cond.instanceMethod yX8_limitsFades) = true ∧ lw_tbl[1191]? = some (Cond.code yX8_limitsFades cX8_limitsFades 3 none) ∧ goodWord (Cond.code yX8_limitsFades cX8_limitsFades 3 none) = true ∧ lw_tbl[1200]? = some (Cond.methodLink RX8 146 yX8_leaves) ∧ goodWord (Cond.methodLink RX8 146 yX8_leaves) = true ∧ lw_tbl[1202]? = some (Cond.instanceMethod yX8_leaves) ∧ goodWord (Cond.instanceMethod yX8_leaves) = true := by decide +kernel
theorem tw_1190 : Cond.instanceMethod yX8_limitsFades ∈ TB := tb_in 1190 TW154.1 TW154.2.1
theorem tw_1191 : Cond.code yX8_limitsFades cX8_limitsFades 3 none ∈ TB := tb_in 1191 TW154.2.2.1 TW154.2.2.2.1
theorem tw_1200 : Cond.methodLink RX8 146 yX8_leaves ∈ TB := tb_in 1200 TW154.2.2.2.2.1 TW154.2.2.2.2.2.1
theorem tw_1202 : Cond.instanceMethod yX8_leaves ∈ TB := tb_in 1202 TW154.2.2.2.2.2.2.1 TW154.2.2.2.2.2.2.2
set_option maxRecDepth 100000 in
theorem TW155 : lw_tbl[1203]? = some (Cond.code yX8_leaves cX8_leaves 3 none) ∧ goodWord (Cond.code yX8_leaves cX8_leaves 3 none) = true ∧ lw_tbl[1208]? = some (Cond.methodLink RX8 149 yX8_deletes) ∧ goodWord (Cond.methodLink RX8 149 yX8_deletes) = true ∧ lw_tbl[1210]? = some (Cond.instanceMethod yX8_deletes) ∧ goodWord (Cond.instanceMethod yX8_deletes) = true ∧ lw_tbl[1211]? = some (Cond.code yX8_deletes cX8_deletes 6 (some .boolean)) ∧ goodWord (Cond.code yX8_deletes cX8_deletes 6 (some .boolean)) = true := by decide +kernel
theorem tw_1203 : Cond.code yX8_leaves cX8_leaves 3 none ∈ TB := tb_in 1203 TW155.1 TW155.2.1
theorem tw_1208 : Cond.methodLink RX8 149 yX8_deletes ∈ TB := tb_in 1208 TW155.2.2.1 TW155.2.2.2.1
theorem tw_1210 : Cond.instanceMethod yX8_deletes ∈ TB := tb_in 1210 TW155.2.2.2.2.1 TW155.2.2.2.2.2.1
theorem tw_1211 : Cond.code yX8_deletes cX8_deletes 6 (some .boolean) ∈ TB := tb_in 1211 TW155.2.2.2.2.2.2.1 TW155.2.2.2.2.2.2.2
set_option maxRecDepth 100000 in
theorem TW156 : lw_tbl[1212]? = some (Cond.methodLink RX8 153 yX8_ordersAll) ∧ goodWord (Cond.methodLink RX8 153 yX8_ordersAll) = true ∧ lw_tbl[1214]? = some (Cond.instanceMethod yX8_ordersAll) ∧ goodWord (Cond.instanceMethod yX8_ordersAll) = true ∧ lw_tbl[1215]? = some (Cond.code yX8_ordersAll cX8_ordersAll 3 none) ∧ goodWord (Cond.code yX8_ordersAll cX8_ordersAll 3 none) = true ∧ lw_tbl[1224]? = some (Cond.constantLong RX8 156 (8 : Int64)) ∧ goodWord (Cond.constantLong RX8 156 (8 : Int64)) = true := by decide +kernel
theorem tw_1212 : Cond.methodLink RX8 153 yX8_ordersAll ∈ TB := tb_in 1212 TW156.1 TW156.2.1
theorem tw_1214 : Cond.instanceMethod yX8_ordersAll ∈ TB := tb_in 1214 TW156.2.2.1 TW156.2.2.2.1
theorem tw_1215 : Cond.code yX8_ordersAll cX8_ordersAll 3 none ∈ TB := tb_in 1215 TW156.2.2.2.2.1 TW156.2.2.2.2.2.1
theorem tw_1224 : Cond.constantLong RX8 156 (8 : Int64) ∈ TB := tb_in 1224 TW156.2.2.2.2.2.2.1 TW156.2.2.2.2.2.2.2
set_option maxRecDepth 100000 in
theorem TW157 : lw_tbl[1225]? = some (Cond.methodLink RX8 158 yX8_clipOf) ∧ goodWord (Cond.methodLink RX8 158 yX8_clipOf) = true ∧ lw_tbl[1227]? = some (Cond.instanceMethod yX8_clipOf) ∧ goodWord (Cond.instanceMethod yX8_clipOf) = true ∧ lw_tbl[1228]? = some (Cond.code yX8_clipOf cX8_clipOf 3 (some .int)) ∧ goodWord (Cond.code yX8_clipOf cX8_clipOf 3 (some .int)) = true ∧ lw_tbl[1233]? = some (Cond.methodLink RX8 172 yX8_covers) ∧ goodWord (Cond.methodLink RX8 172 yX8_covers) = true := by decide +kernel
theorem tw_1225 : Cond.methodLink RX8 158 yX8_clipOf ∈ TB := tb_in 1225 TW157.1 TW157.2.1
theorem tw_1227 : Cond.instanceMethod yX8_clipOf ∈ TB := tb_in 1227 TW157.2.2.1 TW157.2.2.2.1
theorem tw_1228 : Cond.code yX8_clipOf cX8_clipOf 3 (some .int) ∈ TB := tb_in 1228 TW157.2.2.2.2.1 TW157.2.2.2.2.2.1
theorem tw_1233 : Cond.methodLink RX8 172 yX8_covers ∈ TB := tb_in 1233 TW157.2.2.2.2.2.2.1 TW157.2.2.2.2.2.2.2
set_option maxRecDepth 100000 in
theorem TW158 : lw_tbl[1235]? = some (Cond.instanceMethod yX8_covers) ∧ goodWord (Cond.instanceMethod yX8_covers) = true ∧ lw_tbl[1236]? = some (Cond.code yX8_covers cX8_covers 3 (some .boolean)) ∧ goodWord (Cond.code yX8_covers cX8_covers 3 (some .boolean)) = true ∧ lw_tbl[1237]? = some (Cond.methodLink RX8 161 yX8_clipEnd) ∧ goodWord (Cond.methodLink RX8 161 yX8_clipEnd) = true ∧ lw_tbl[1239]? = some (Cond.instanceMethod yX8_clipEnd) ∧ goodWord (Cond.instanceMethod yX8_clipEnd) = true := by decide +kernel
theorem tw_1235 : Cond.instanceMethod yX8_covers ∈ TB := tb_in 1235 TW158.1 TW158.2.1
theorem tw_1236 : Cond.code yX8_covers cX8_covers 3 (some .boolean) ∈ TB := tb_in 1236 TW158.2.2.1 TW158.2.2.2.1
theorem tw_1237 : Cond.methodLink RX8 161 yX8_clipEnd ∈ TB := tb_in 1237 TW158.2.2.2.2.1 TW158.2.2.2.2.2.1
theorem tw_1239 : Cond.instanceMethod yX8_clipEnd ∈ TB := tb_in 1239 TW158.2.2.2.2.2.2.1 TW158.2.2.2.2.2.2.2
set_option maxRecDepth 100000 in
theorem TW159 : lw_tbl[1240]? = some (Cond.code yX8_clipEnd cX8_clipEnd 2 (some .int)) ∧ goodWord (Cond.code yX8_clipEnd cX8_clipEnd 2 (some .int)) = true ∧ lw_tbl[1241]? = some (Cond.methodLink RX8 175 yX8_raw) ∧ goodWord (Cond.methodLink RX8 175 yX8_raw) = true ∧ lw_tbl[1243]? = some (Cond.instanceMethod yX8_raw) ∧ goodWord (Cond.instanceMethod yX8_raw) = true ∧ lw_tbl[1244]? = some (Cond.code yX8_raw cX8_raw 7 (some .int)) ∧ goodWord (Cond.code yX8_raw cX8_raw 7 (some .int)) = true := by decide +kernel
theorem tw_1240 : Cond.code yX8_clipEnd cX8_clipEnd 2 (some .int) ∈ TB := tb_in 1240 TW159.1 TW159.2.1
theorem tw_1241 : Cond.methodLink RX8 175 yX8_raw ∈ TB := tb_in 1241 TW159.2.2.1 TW159.2.2.2.1
theorem tw_1243 : Cond.instanceMethod yX8_raw ∈ TB := tb_in 1243 TW159.2.2.2.2.1 TW159.2.2.2.2.2.1
theorem tw_1244 : Cond.code yX8_raw cX8_raw 7 (some .int) ∈ TB := tb_in 1244 TW159.2.2.2.2.2.2.1 TW159.2.2.2.2.2.2.2
set_option maxRecDepth 100000 in
theorem TW160 : lw_tbl[1245]? = some (Cond.methodLink RX8 164 yX8_applied) ∧ goodWord (Cond.methodLink RX8 164 yX8_applied) = true ∧ lw_tbl[1246]? = some (Cond.static yX8_applied) ∧ goodWord (Cond.static yX8_applied) = true ∧ lw_tbl[1247]? = some (Cond.code yX8_applied cX8_applied 3 (some .int)) ∧ goodWord (Cond.code yX8_applied cX8_applied 3 (some .int)) = true ∧ lw_tbl[1248]? = some (Cond.methodLink RX8 60 yX8_floor) ∧ goodWord (Cond.methodLink RX8 60 yX8_floor) = true := by decide +kernel
theorem tw_1245 : Cond.methodLink RX8 164 yX8_applied ∈ TB := tb_in 1245 TW160.1 TW160.2.1
theorem tw_1246 : Cond.static yX8_applied ∈ TB := tb_in 1246 TW160.2.2.1 TW160.2.2.2.1
theorem tw_1247 : Cond.code yX8_applied cX8_applied 3 (some .int) ∈ TB := tb_in 1247 TW160.2.2.2.2.1 TW160.2.2.2.2.2.1
theorem tw_1248 : Cond.methodLink RX8 60 yX8_floor ∈ TB := tb_in 1248 TW160.2.2.2.2.2.2.1 TW160.2.2.2.2.2.2.2
set_option maxRecDepth 100000 in
theorem TW161 : lw_tbl[1249]? = some (Cond.static yX8_floor) ∧ goodWord (Cond.static yX8_floor) = true ∧ lw_tbl[1250]? = some (Cond.code yX8_floor cX8_floor 6 (some .long)) ∧ goodWord (Cond.code yX8_floor cX8_floor 6 (some .long)) = true ∧ lw_tbl[1251]? = some (Cond.methodLink RX8 168 yX8_faded) ∧ goodWord (Cond.methodLink RX8 168 yX8_faded) = true ∧ lw_tbl[1252]? = some (Cond.static yX8_faded) ∧ goodWord (Cond.static yX8_faded) = true := by decide +kernel
theorem tw_1249 : Cond.static yX8_floor ∈ TB := tb_in 1249 TW161.1 TW161.2.1
theorem tw_1250 : Cond.code yX8_floor cX8_floor 6 (some .long) ∈ TB := tb_in 1250 TW161.2.2.1 TW161.2.2.2.1
theorem tw_1251 : Cond.methodLink RX8 168 yX8_faded ∈ TB := tb_in 1251 TW161.2.2.2.2.1 TW161.2.2.2.2.2.1
theorem tw_1252 : Cond.static yX8_faded ∈ TB := tb_in 1252 TW161.2.2.2.2.2.2.1 TW161.2.2.2.2.2.2.2
set_option maxRecDepth 100000 in
theorem TW162 : lw_tbl[1253]? = some (Cond.code yX8_faded cX8_faded 5 (some .int)) ∧ goodWord (Cond.code yX8_faded cX8_faded 5 (some .int)) = true ∧ lw_tbl[1258]? = some (Cond.constantLong RX8 178 (-100 : Int64)) ∧ goodWord (Cond.constantLong RX8 178 (-100 : Int64)) = true ∧ lw_tbl[1259]? = some (Cond.constantLong RX8 180 (100 : Int64)) ∧ goodWord (Cond.constantLong RX8 180 (100 : Int64)) = true ∧ lw_tbl[1264]? = some (Cond.methodLink RX8 185 yX8_hasPoint) ∧ goodWord (Cond.methodLink RX8 185 yX8_hasPoint) = true := by decide +kernel
theorem tw_1253 : Cond.code yX8_faded cX8_faded 5 (some .int) ∈ TB := tb_in 1253 TW162.1 TW162.2.1
theorem tw_1258 : Cond.constantLong RX8 178 (-100 : Int64) ∈ TB := tb_in 1258 TW162.2.2.1 TW162.2.2.2.1
theorem tw_1259 : Cond.constantLong RX8 180 (100 : Int64) ∈ TB := tb_in 1259 TW162.2.2.2.2.1 TW162.2.2.2.2.2.1
theorem tw_1264 : Cond.methodLink RX8 185 yX8_hasPoint ∈ TB := tb_in 1264 TW162.2.2.2.2.2.2.1 TW162.2.2.2.2.2.2.2
set_option maxRecDepth 100000 in
theorem TW163 : lw_tbl[1266]? = some (Cond.instanceMethod yX8_hasPoint) ∧ goodWord (Cond.instanceMethod yX8_hasPoint) = true ∧ lw_tbl[1267]? = some (Cond.code yX8_hasPoint cX8_hasPoint 4 (some .boolean)) ∧ goodWord (Cond.code yX8_hasPoint cX8_hasPoint 4 (some .boolean)) = true ∧ lw_tbl[1268]? = some (Cond.methodLink RX8 182 yX8_pointsAhead) ∧ goodWord (Cond.methodLink RX8 182 yX8_pointsAhead) = true ∧ lw_tbl[1270]? = some (Cond.instanceMethod yX8_pointsAhead) ∧ goodWord (Cond.instanceMethod yX8_pointsAhead) = true := by decide +kernel
theorem tw_1266 : Cond.instanceMethod yX8_hasPoint ∈ TB := tb_in 1266 TW163.1 TW163.2.1
theorem tw_1267 : Cond.code yX8_hasPoint cX8_hasPoint 4 (some .boolean) ∈ TB := tb_in 1267 TW163.2.2.1 TW163.2.2.2.1
theorem tw_1268 : Cond.methodLink RX8 182 yX8_pointsAhead ∈ TB := tb_in 1268 TW163.2.2.2.2.1 TW163.2.2.2.2.2.1
theorem tw_1270 : Cond.instanceMethod yX8_pointsAhead ∈ TB := tb_in 1270 TW163.2.2.2.2.2.2.1 TW163.2.2.2.2.2.2.2
set_option maxRecDepth 100000 in
theorem TW164 : lw_tbl[1271]? = some (Cond.code yX8_pointsAhead cX8_pointsAhead 5 (some .int)) ∧ goodWord (Cond.code yX8_pointsAhead cX8_pointsAhead 5 (some .int)) = true ∧ lw_tbl[1280]? = some (Cond.methodLink RX8 188 yX8_laneAt) ∧ goodWord (Cond.methodLink RX8 188 yX8_laneAt) = true ∧ lw_tbl[1282]? = some (Cond.instanceMethod yX8_laneAt) ∧ goodWord (Cond.instanceMethod yX8_laneAt) = true ∧ lw_tbl[1283]? = some (Cond.code yX8_laneAt cX8_laneAt 9 (some .int)) ∧ goodWord (Cond.code yX8_laneAt cX8_laneAt 9 (some .int)) = true := by decide +kernel
theorem tw_1271 : Cond.code yX8_pointsAhead cX8_pointsAhead 5 (some .int) ∈ TB := tb_in 1271 TW164.1 TW164.2.1
theorem tw_1280 : Cond.methodLink RX8 188 yX8_laneAt ∈ TB := tb_in 1280 TW164.2.2.1 TW164.2.2.2.1
theorem tw_1282 : Cond.instanceMethod yX8_laneAt ∈ TB := tb_in 1282 TW164.2.2.2.2.1 TW164.2.2.2.2.2.1
theorem tw_1283 : Cond.code yX8_laneAt cX8_laneAt 9 (some .int) ∈ TB := tb_in 1283 TW164.2.2.2.2.2.2.1 TW164.2.2.2.2.2.2.2
set_option maxRecDepth 100000 in
theorem TW165 : lw_tbl[1288]? = some (Cond.constantLong RX8 191 (100000 : Int64)) ∧ goodWord (Cond.constantLong RX8 191 (100000 : Int64)) = true ∧ lw_tbl[1289]? = some (Cond.methodLink RX8 193 yX8_isKey) ∧ goodWord (Cond.methodLink RX8 193 yX8_isKey) = true ∧ lw_tbl[1291]? = some (Cond.instanceMethod yX8_isKey) ∧ goodWord (Cond.instanceMethod yX8_isKey) = true ∧ lw_tbl[1292]? = some (Cond.code yX8_isKey cX8_isKey 4 (some .boolean)) ∧ goodWord (Cond.code yX8_isKey cX8_isKey 4 (some .boolean)) = true := by decide +kernel
theorem tw_1288 : Cond.constantLong RX8 191 (100000 : Int64) ∈ TB := tb_in 1288 TW165.1 TW165.2.1
theorem tw_1289 : Cond.methodLink RX8 193 yX8_isKey ∈ TB := tb_in 1289 TW165.2.2.1 TW165.2.2.2.1
theorem tw_1291 : Cond.instanceMethod yX8_isKey ∈ TB := tb_in 1291 TW165.2.2.2.2.1 TW165.2.2.2.2.2.1
theorem tw_1292 : Cond.code yX8_isKey cX8_isKey 4 (some .boolean) ∈ TB := tb_in 1292 TW165.2.2.2.2.2.2.1 TW165.2.2.2.2.2.2.2
set_option maxRecDepth 100000 in
theorem TW166 : lw_tbl[1301]? = some (Cond.methodLink RX8 204 yX8_laysDuck) ∧ goodWord (Cond.methodLink RX8 204 yX8_laysDuck) = true ∧ lw_tbl[1303]? = some (Cond.instanceMethod yX8_laysDuck) ∧ goodWord (Cond.instanceMethod yX8_laysDuck) = true ∧ lw_tbl[1304]? = some (Cond.code yX8_laysDuck cX8_laysDuck 10 none) ∧ goodWord (Cond.code yX8_laysDuck cX8_laysDuck 10 none) = true ∧ lw_tbl[1305]? = some (Cond.methodLink RX8 199 yX8_levelOf) ∧ goodWord (Cond.methodLink RX8 199 yX8_levelOf) = true := by decide +kernel
theorem tw_1301 : Cond.methodLink RX8 204 yX8_laysDuck ∈ TB := tb_in 1301 TW166.1 TW166.2.1
theorem tw_1303 : Cond.instanceMethod yX8_laysDuck ∈ TB := tb_in 1303 TW166.2.2.1 TW166.2.2.2.1
theorem tw_1304 : Cond.code yX8_laysDuck cX8_laysDuck 10 none ∈ TB := tb_in 1304 TW166.2.2.2.2.1 TW166.2.2.2.2.2.1
theorem tw_1305 : Cond.methodLink RX8 199 yX8_levelOf ∈ TB := tb_in 1305 TW166.2.2.2.2.2.2.1 TW166.2.2.2.2.2.2.2
set_option maxRecDepth 100000 in
theorem TW167 : lw_tbl[1307]? = some (Cond.instanceMethod yX8_levelOf) ∧ goodWord (Cond.instanceMethod yX8_levelOf) = true ∧ lw_tbl[1308]? = some (Cond.code yX8_levelOf cX8_levelOf 7 (some .int)) ∧ goodWord (Cond.code yX8_levelOf cX8_levelOf 7 (some .int)) = true ∧ lw_tbl[1309]? = some (Cond.methodLink RX8 196 yX8_dry) ∧ goodWord (Cond.methodLink RX8 196 yX8_dry) = true ∧ lw_tbl[1311]? = some (Cond.instanceMethod yX8_dry) ∧ goodWord (Cond.instanceMethod yX8_dry) = true := by decide +kernel
theorem tw_1307 : Cond.instanceMethod yX8_levelOf ∈ TB := tb_in 1307 TW167.1 TW167.2.1
theorem tw_1308 : Cond.code yX8_levelOf cX8_levelOf 7 (some .int) ∈ TB := tb_in 1308 TW167.2.2.1 TW167.2.2.2.1
theorem tw_1309 : Cond.methodLink RX8 196 yX8_dry ∈ TB := tb_in 1309 TW167.2.2.2.2.1 TW167.2.2.2.2.2.1
theorem tw_1311 : Cond.instanceMethod yX8_dry ∈ TB := tb_in 1311 TW167.2.2.2.2.2.2.1 TW167.2.2.2.2.2.2.2
set_option maxRecDepth 100000 in
theorem TW168 : lw_tbl[1312]? = some (Cond.code yX8_dry cX8_dry 7 (some .int)) ∧ goodWord (Cond.code yX8_dry cX8_dry 7 (some .int)) = true ∧ lw_tbl[1313]? = some (Cond.methodLink RX8 207 yX8_duckAt) ∧ goodWord (Cond.methodLink RX8 207 yX8_duckAt) = true ∧ lw_tbl[1315]? = some (Cond.instanceMethod yX8_duckAt) ∧ goodWord (Cond.instanceMethod yX8_duckAt) = true ∧ lw_tbl[1316]? = some (Cond.code yX8_duckAt cX8_duckAt 5 (some .int)) ∧ goodWord (Cond.code yX8_duckAt cX8_duckAt 5 (some .int)) = true := by decide +kernel
theorem tw_1312 : Cond.code yX8_dry cX8_dry 7 (some .int) ∈ TB := tb_in 1312 TW168.1 TW168.2.1
theorem tw_1313 : Cond.methodLink RX8 207 yX8_duckAt ∈ TB := tb_in 1313 TW168.2.2.1 TW168.2.2.2.1
theorem tw_1315 : Cond.instanceMethod yX8_duckAt ∈ TB := tb_in 1315 TW168.2.2.2.2.1 TW168.2.2.2.2.2.1
theorem tw_1316 : Cond.code yX8_duckAt cX8_duckAt 5 (some .int) ∈ TB := tb_in 1316 TW168.2.2.2.2.2.2.1 TW168.2.2.2.2.2.2.2
set_option maxRecDepth 100000 in
theorem TW169 : lw_tbl[1317]? = some (Cond.constantLong RX8 202 (40 : Int64)) ∧ goodWord (Cond.constantLong RX8 202 (40 : Int64)) = true ∧ lw_tbl[1322]? = some (Cond.methodLink RX8 210 yX8_valueAt) ∧ goodWord (Cond.methodLink RX8 210 yX8_valueAt) = true ∧ lw_tbl[1324]? = some (Cond.instanceMethod yX8_valueAt) ∧ goodWord (Cond.instanceMethod yX8_valueAt) = true ∧ lw_tbl[1325]? = some (Cond.code yX8_valueAt cX8_valueAt 4 (some .int)) ∧ goodWord (Cond.code yX8_valueAt cX8_valueAt 4 (some .int)) = true := by decide +kernel
theorem tw_1317 : Cond.constantLong RX8 202 (40 : Int64) ∈ TB := tb_in 1317 TW169.1 TW169.2.1
theorem tw_1322 : Cond.methodLink RX8 210 yX8_valueAt ∈ TB := tb_in 1322 TW169.2.2.1 TW169.2.2.2.1
theorem tw_1324 : Cond.instanceMethod yX8_valueAt ∈ TB := tb_in 1324 TW169.2.2.2.2.1 TW169.2.2.2.2.2.1
theorem tw_1325 : Cond.code yX8_valueAt cX8_valueAt 4 (some .int) ∈ TB := tb_in 1325 TW169.2.2.2.2.2.2.1 TW169.2.2.2.2.2.2.2
set_option maxRecDepth 100000 in
theorem TW170 : lw_tbl[1330]? = some (Cond.methodLink RX8 213 yX8_isHeard) ∧ goodWord (Cond.methodLink RX8 213 yX8_isHeard) = true ∧ lw_tbl[1332]? = some (Cond.instanceMethod yX8_isHeard) ∧ goodWord (Cond.instanceMethod yX8_isHeard) = true ∧ lw_tbl[1333]? = some (Cond.code yX8_isHeard cX8_isHeard 4 (some .boolean)) ∧ goodWord (Cond.code yX8_isHeard cX8_isHeard 4 (some .boolean)) = true ∧ lw_tbl[1342]? = some (Cond.methodLink RX8 228 yX8_laysDucks) ∧ goodWord (Cond.methodLink RX8 228 yX8_laysDucks) = true := by decide +kernel
theorem tw_1330 : Cond.methodLink RX8 213 yX8_isHeard ∈ TB := tb_in 1330 TW170.1 TW170.2.1
theorem tw_1332 : Cond.instanceMethod yX8_isHeard ∈ TB := tb_in 1332 TW170.2.2.1 TW170.2.2.2.1
theorem tw_1333 : Cond.code yX8_isHeard cX8_isHeard 4 (some .boolean) ∈ TB := tb_in 1333 TW170.2.2.2.2.1 TW170.2.2.2.2.2.1
theorem tw_1342 : Cond.methodLink RX8 228 yX8_laysDucks ∈ TB := tb_in 1342 TW170.2.2.2.2.2.2.1 TW170.2.2.2.2.2.2.2
set_option maxRecDepth 100000 in
theorem TW171 : lw_tbl[1344]? = some (Cond.instanceMethod yX8_laysDucks) ∧ goodWord (Cond.instanceMethod yX8_laysDucks) = true ∧ lw_tbl[1345]? = some (Cond.code yX8_laysDucks cX8_laysDucks 3 none) ∧ goodWord (Cond.code yX8_laysDucks cX8_laysDucks 3 none) = true ∧ lw_tbl[1346]? = some (Cond.methodLink RX8 231 yX8_mixes) ∧ goodWord (Cond.methodLink RX8 231 yX8_mixes) = true ∧ lw_tbl[1348]? = some (Cond.instanceMethod yX8_mixes) ∧ goodWord (Cond.instanceMethod yX8_mixes) = true := by decide +kernel
theorem tw_1344 : Cond.instanceMethod yX8_laysDucks ∈ TB := tb_in 1344 TW171.1 TW171.2.1
theorem tw_1345 : Cond.code yX8_laysDucks cX8_laysDucks 3 none ∈ TB := tb_in 1345 TW171.2.2.1 TW171.2.2.2.1
theorem tw_1346 : Cond.methodLink RX8 231 yX8_mixes ∈ TB := tb_in 1346 TW171.2.2.2.2.1 TW171.2.2.2.2.2.1
theorem tw_1348 : Cond.instanceMethod yX8_mixes ∈ TB := tb_in 1348 TW171.2.2.2.2.2.2.1 TW171.2.2.2.2.2.2.2
set_option maxRecDepth 100000 in
theorem TW172 : lw_tbl[1349]? = some (Cond.code yX8_mixes cX8_mixes 10 none) ∧ goodWord (Cond.code yX8_mixes cX8_mixes 10 none) = true ∧ lw_tbl[1350]? = some (Cond.methodLink RX8 219 yX8_limited) ∧ goodWord (Cond.methodLink RX8 219 yX8_limited) = true ∧ lw_tbl[1352]? = some (Cond.instanceMethod yX8_limited) ∧ goodWord (Cond.instanceMethod yX8_limited) = true ∧ lw_tbl[1353]? = some (Cond.code yX8_limited cX8_limited 2 (some .int)) ∧ goodWord (Cond.code yX8_limited cX8_limited 2 (some .int)) = true := by decide +kernel
theorem tw_1349 : Cond.code yX8_mixes cX8_mixes 10 none ∈ TB := tb_in 1349 TW172.1 TW172.2.1
theorem tw_1350 : Cond.methodLink RX8 219 yX8_limited ∈ TB := tb_in 1350 TW172.2.2.1 TW172.2.2.2.1
theorem tw_1352 : Cond.instanceMethod yX8_limited ∈ TB := tb_in 1352 TW172.2.2.2.2.1 TW172.2.2.2.2.2.1
theorem tw_1353 : Cond.code yX8_limited cX8_limited 2 (some .int) ∈ TB := tb_in 1353 TW172.2.2.2.2.2.2.1 TW172.2.2.2.2.2.2.2
set_option maxRecDepth 100000 in
theorem TW173 : lw_tbl[1366]? = some (Cond.methodLink RX8 236 yX8_renders) ∧ goodWord (Cond.methodLink RX8 236 yX8_renders) = true ∧ lw_tbl[1368]? = some (Cond.instanceMethod yX8_renders) ∧ goodWord (Cond.instanceMethod yX8_renders) = true ∧ lw_tbl[1369]? = some (Cond.code yX8_renders cX8_renders 3 none) ∧ goodWord (Cond.code yX8_renders cX8_renders 3 none) = true ∧ lw_tbl[1370]? = some (Cond.constantLong RX8 234 (31 : Int64)) ∧ goodWord (Cond.constantLong RX8 234 (31 : Int64)) = true := by decide +kernel
theorem tw_1366 : Cond.methodLink RX8 236 yX8_renders ∈ TB := tb_in 1366 TW173.1 TW173.2.1
theorem tw_1368 : Cond.instanceMethod yX8_renders ∈ TB := tb_in 1368 TW173.2.2.1 TW173.2.2.2.1
theorem tw_1369 : Cond.code yX8_renders cX8_renders 3 none ∈ TB := tb_in 1369 TW173.2.2.2.2.1 TW173.2.2.2.2.2.1
theorem tw_1370 : Cond.constantLong RX8 234 (31 : Int64) ∈ TB := tb_in 1370 TW173.2.2.2.2.2.2.1 TW173.2.2.2.2.2.2.2
set_option maxRecDepth 100000 in
theorem TW174 : lw_tbl[1375]? = some (Cond.constantLong RX8 239 (4 : Int64)) ∧ goodWord (Cond.constantLong RX8 239 (4 : Int64)) = true ∧ lw_tbl[1376]? = some (Cond.methodLink RX8 241 yX8_meterOf) ∧ goodWord (Cond.methodLink RX8 241 yX8_meterOf) = true ∧ lw_tbl[1378]? = some (Cond.instanceMethod yX8_meterOf) ∧ goodWord (Cond.instanceMethod yX8_meterOf) = true ∧ lw_tbl[1379]? = some (Cond.code yX8_meterOf cX8_meterOf 2 (some .long)) ∧ goodWord (Cond.code yX8_meterOf cX8_meterOf 2 (some .long)) = true := by decide +kernel
theorem tw_1375 : Cond.constantLong RX8 239 (4 : Int64) ∈ TB := tb_in 1375 TW174.1 TW174.2.1
theorem tw_1376 : Cond.methodLink RX8 241 yX8_meterOf ∈ TB := tb_in 1376 TW174.2.2.1 TW174.2.2.2.1
theorem tw_1378 : Cond.instanceMethod yX8_meterOf ∈ TB := tb_in 1378 TW174.2.2.2.2.1 TW174.2.2.2.2.2.1
theorem tw_1379 : Cond.code yX8_meterOf cX8_meterOf 2 (some .long) ∈ TB := tb_in 1379 TW174.2.2.2.2.2.2.1 TW174.2.2.2.2.2.2.2
set_option maxRecDepth 100000 in
theorem TW175 : lw_tbl[1396]? = some (Cond.constantLong RX8 252 (18363 : Int64)) ∧ goodWord (Cond.constantLong RX8 252 (18363 : Int64)) = true ∧ lw_tbl[1397]? = some (Cond.methodLink RX8 248 yX8_hashes) ∧ goodWord (Cond.methodLink RX8 248 yX8_hashes) = true ∧ lw_tbl[1399]? = some (Cond.instanceMethod yX8_hashes) ∧ goodWord (Cond.instanceMethod yX8_hashes) = true ∧ lw_tbl[1400]? = some (Cond.code yX8_hashes cX8_hashes 3 none) ∧ goodWord (Cond.code yX8_hashes cX8_hashes 3 none) = true := by decide +kernel
theorem tw_1396 : Cond.constantLong RX8 252 (18363 : Int64) ∈ TB := tb_in 1396 TW175.1 TW175.2.1
theorem tw_1397 : Cond.methodLink RX8 248 yX8_hashes ∈ TB := tb_in 1397 TW175.2.2.1 TW175.2.2.2.1
theorem tw_1399 : Cond.instanceMethod yX8_hashes ∈ TB := tb_in 1399 TW175.2.2.2.2.1 TW175.2.2.2.2.2.1
theorem tw_1400 : Cond.code yX8_hashes cX8_hashes 3 none ∈ TB := tb_in 1400 TW175.2.2.2.2.2.2.1 TW175.2.2.2.2.2.2.2
set_option maxRecDepth 100000 in
theorem TW176 : lw_tbl[1401]? = some (Cond.methodLink RX8 254 yX8_hashesRow) ∧ goodWord (Cond.methodLink RX8 254 yX8_hashesRow) = true ∧ lw_tbl[1403]? = some (Cond.instanceMethod yX8_hashesRow) ∧ goodWord (Cond.instanceMethod yX8_hashesRow) = true ∧ lw_tbl[1404]? = some (Cond.code yX8_hashesRow cX8_hashesRow 4 none) ∧ goodWord (Cond.code yX8_hashesRow cX8_hashesRow 4 none) = true := by decide +kernel
theorem tw_1401 : Cond.methodLink RX8 254 yX8_hashesRow ∈ TB := tb_in 1401 TW176.1 TW176.2.1
theorem tw_1403 : Cond.instanceMethod yX8_hashesRow ∈ TB := tb_in 1403 TW176.2.2.1 TW176.2.2.2.1
theorem tw_1404 : Cond.code yX8_hashesRow cX8_hashesRow 4 none ∈ TB := tb_in 1404 TW176.2.2.2.2.1 TW176.2.2.2.2.2
theorem fl_RX0_9 : mw_F RX0 9 0 6 0 := ⟨RX0, TX0, _, mw_Cl0, by decide, by decide +kernel, tw_164⟩
theorem fp_RX0_9 : mw_FP RX0 9 0 6 0 .int false := ⟨RX0, TX0, _, mw_Cl0, by decide, by decide +kernel, tw_164, by decide +kernel, by decide +kernel⟩
theorem fl_RX0_15 : mw_F RX0 15 0 7 0 := ⟨RX0, TX0, _, mw_Cl0, by decide, by decide +kernel, tw_167⟩
theorem fp_RX0_15 : mw_FP RX0 15 0 7 0 .int false := ⟨RX0, TX0, _, mw_Cl0, by decide, by decide +kernel, tw_167, by decide +kernel, by decide +kernel⟩
theorem fl_RX0_18 : mw_F RX0 18 0 8 0 := ⟨RX0, TX0, _, mw_Cl0, by decide, by decide +kernel, tw_169⟩
theorem fp_RX0_18 : mw_FP RX0 18 0 8 0 .int false := ⟨RX0, TX0, _, mw_Cl0, by decide, by decide +kernel, tw_169, by decide +kernel, by decide +kernel⟩
theorem fl_RX0_21 : mw_F RX0 21 0 0 0 := ⟨RX0, TX0, _, mw_Cl0, by decide, by decide +kernel, tw_149⟩
theorem fp_RX0_21 : mw_FP RX0 21 0 0 0 .int false := ⟨RX0, TX0, _, mw_Cl0, by decide, by decide +kernel, tw_149, by decide +kernel, by decide +kernel⟩
theorem fl_RX0_24 : mw_F RX0 24 0 2 0 := ⟨RX0, TX0, _, mw_Cl0, by decide, by decide +kernel, tw_153⟩
theorem fp_RX0_24 : mw_FP RX0 24 0 2 0 .int false := ⟨RX0, TX0, _, mw_Cl0, by decide, by decide +kernel, tw_153, by decide +kernel, by decide +kernel⟩
theorem fl_RX0_27 : mw_F RX0 27 0 4 0 := ⟨RX0, TX0, _, mw_Cl0, by decide, by decide +kernel, tw_159⟩
theorem fp_RX0_27 : mw_FP RX0 27 0 4 0 .int false := ⟨RX0, TX0, _, mw_Cl0, by decide, by decide +kernel, tw_159, by decide +kernel, by decide +kernel⟩
theorem fl_RX0_30 : mw_F RX0 30 0 1 0 := ⟨RX0, TX0, _, mw_Cl0, by decide, by decide +kernel, tw_151⟩
theorem fp_RX0_30 : mw_FP RX0 30 0 1 0 .int false := ⟨RX0, TX0, _, mw_Cl0, by decide, by decide +kernel, tw_151, by decide +kernel, by decide +kernel⟩
theorem fl_RX0_33 : mw_F RX0 33 0 3 0 := ⟨RX0, TX0, _, mw_Cl0, by decide, by decide +kernel, tw_156⟩
theorem fp_RX0_33 : mw_FP RX0 33 0 3 0 .int false := ⟨RX0, TX0, _, mw_Cl0, by decide, by decide +kernel, tw_156, by decide +kernel, by decide +kernel⟩
theorem fl_RX0_36 : mw_F RX0 36 0 5 0 := ⟨RX0, TX0, _, mw_Cl0, by decide, by decide +kernel, tw_162⟩
theorem fp_RX0_36 : mw_FP RX0 36 0 5 0 .int false := ⟨RX0, TX0, _, mw_Cl0, by decide, by decide +kernel, tw_162, by decide +kernel, by decide +kernel⟩
theorem na_X0_place : mw_NA yX0_place cX0_place 4 none 3 := ⟨⟨by decide +kernel, by decide +kernel, by decide +kernel⟩, tw_376, tw_64⟩
theorem nc_RX0_39 : mw_NV RX0 39 0 yX0_place cX0_place 4 none 3 := ⟨na_X0_place, ⟨TX0, _, rfl⟩, tw_373, tw_374, tw_375⟩
theorem na_X0_play : mw_NA yX0_play cX0_play 4 none 3 := ⟨⟨by decide +kernel, by decide +kernel, by decide +kernel⟩, tw_380, tw_64⟩
theorem nc_RX0_43 : mw_NV RX0 43 0 yX0_play cX0_play 4 none 3 := ⟨na_X0_play, ⟨TX0, _, rfl⟩, tw_377, tw_378, tw_379⟩
theorem na_X0_fade : mw_NA yX0_fade cX0_fade 4 none 3 := ⟨⟨by decide +kernel, by decide +kernel, by decide +kernel⟩, tw_384, tw_64⟩
theorem nc_RX0_46 : mw_NV RX0 46 0 yX0_fade cX0_fade 4 none 3 := ⟨na_X0_fade, ⟨TX0, _, rfl⟩, tw_381, tw_382, tw_383⟩
theorem na_X0_trim : mw_NA yX0_trim cX0_trim 3 none 2 := ⟨⟨by decide +kernel, by decide +kernel, by decide +kernel⟩, tw_785, tw_64⟩
theorem nc_RX0_59 : mw_NV RX0 59 0 yX0_trim cX0_trim 3 none 2 := ⟨na_X0_trim, ⟨TX0, _, rfl⟩, tw_833, tw_783, tw_784⟩
theorem na_X0_end : mw_NA yX0_end cX0_end 1 (some .int) 0 := ⟨⟨by decide +kernel, by decide +kernel, by decide +kernel⟩, tw_416, tw_64⟩
theorem nc_RX0_55 : mw_NV RX0 55 0 yX0_end cX0_end 1 (some .int) 0 := ⟨na_X0_end, ⟨TX0, _, rfl⟩, tw_832, tw_414, tw_415⟩
theorem fl_RX1_9 : mw_F RX1 9 1 0 2 := ⟨RX1, TX1, _, mw_Cl1, by decide, by decide +kernel, tw_318⟩
theorem fp_RX1_9 : mw_FP RX1 9 1 0 2 (.array .int) true := ⟨RX1, TX1, _, mw_Cl1, by decide, by decide +kernel, tw_318, by decide +kernel, by decide +kernel⟩
theorem fl_RX1_15 : mw_F RX1 15 1 1 0 := ⟨RX1, TX1, _, mw_Cl1, by decide, by decide +kernel, tw_319⟩
theorem fp_RX1_15 : mw_FP RX1 15 1 1 0 .int false := ⟨RX1, TX1, _, mw_Cl1, by decide, by decide +kernel, tw_319, by decide +kernel, by decide +kernel⟩
theorem fl_RX1_33 : mw_F RX1 33 6 12 0 := ⟨RX6, TX6, _, mw_Cl6, by decide, by decide +kernel, tw_221⟩
theorem fl_RX1_19 : mw_F RX1 19 6 10 0 := ⟨RX6, TX6, _, mw_Cl6, by decide, by decide +kernel, tw_215⟩
theorem fl_RX1_24 : mw_F RX1 24 6 11 0 := ⟨RX6, TX6, _, mw_Cl6, by decide, by decide +kernel, tw_218⟩
theorem na_J9_floorDiv_7cf53 : mw_NA yJ9_floorDiv_7cf53 cJ9_floorDiv_7cf53 3 (some .int) 2 := ⟨⟨by decide +kernel, by decide +kernel, by decide +kernel⟩, tw_510, tw_74⟩
theorem nc_RX1_39 : mw_NS RX1 39 yJ9_floorDiv_7cf53 cJ9_floorDiv_7cf53 3 (some .int) 2 := ⟨na_J9_floorDiv_7cf53, tw_548, tw_509⟩
theorem fl_RX2_27 : mw_F RX2 27 2 2 0 := ⟨RX2, TX2, _, mw_Cl2, by decide, by decide +kernel, tw_304⟩
theorem fp_RX2_27 : mw_FP RX2 27 2 2 0 .int false := ⟨RX2, TX2, _, mw_Cl2, by decide, by decide +kernel, tw_304, by decide +kernel, by decide +kernel⟩
theorem fl_RX2_24 : mw_F RX2 24 2 1 0 := ⟨RX2, TX2, _, mw_Cl2, by decide, by decide +kernel, tw_301⟩
theorem fl_RX2_18 : mw_F RX2 18 2 0 0 := ⟨RX2, TX2, _, mw_Cl2, by decide, by decide +kernel, tw_298⟩
theorem fp_RX2_18 : mw_FP RX2 18 2 0 0 .int false := ⟨RX2, TX2, _, mw_Cl2, by decide, by decide +kernel, tw_298, by decide +kernel, by decide +kernel⟩
theorem fp_RX2_24 : mw_FP RX2 24 2 1 0 .int false := ⟨RX2, TX2, _, mw_Cl2, by decide, by decide +kernel, tw_301, by decide +kernel, by decide +kernel⟩
theorem fl_RX3_11 : mw_F RX3 11 3 4 1 := ⟨RX3, TX3, _, mw_Cl3, by decide, by decide +kernel, tw_109⟩
theorem fp_RX3_11 : mw_FP RX3 11 3 4 1 .long false := ⟨RX3, TX3, _, mw_Cl3, by decide, by decide +kernel, tw_109, by decide +kernel, by decide +kernel⟩
theorem fl_RX3_17 : mw_F RX3 17 3 0 1 := ⟨RX3, TX3, _, mw_Cl3, by decide, by decide +kernel, tw_104⟩
theorem fp_RX3_17 : mw_FP RX3 17 3 0 1 .long false := ⟨RX3, TX3, _, mw_Cl3, by decide, by decide +kernel, tw_104, by decide +kernel, by decide +kernel⟩
theorem fl_RX3_20 : mw_F RX3 20 3 1 1 := ⟨RX3, TX3, _, mw_Cl3, by decide, by decide +kernel, tw_106⟩
theorem fp_RX3_20 : mw_FP RX3 20 3 1 1 .long false := ⟨RX3, TX3, _, mw_Cl3, by decide, by decide +kernel, tw_106, by decide +kernel, by decide +kernel⟩
theorem fl_RX3_23 : mw_F RX3 23 3 2 1 := ⟨RX3, TX3, _, mw_Cl3, by decide, by decide +kernel, tw_107⟩
theorem fp_RX3_23 : mw_FP RX3 23 3 2 1 .long false := ⟨RX3, TX3, _, mw_Cl3, by decide, by decide +kernel, tw_107, by decide +kernel, by decide +kernel⟩
theorem fl_RX3_26 : mw_F RX3 26 3 3 1 := ⟨RX3, TX3, _, mw_Cl3, by decide, by decide +kernel, tw_108⟩
theorem fp_RX3_26 : mw_FP RX3 26 3 3 1 .long false := ⟨RX3, TX3, _, mw_Cl3, by decide, by decide +kernel, tw_108, by decide +kernel, by decide +kernel⟩
theorem fl_RX3_29 : mw_F RX3 29 2 0 0 := ⟨RX2, TX2, _, mw_Cl2, by decide, by decide +kernel, tw_299⟩
theorem fl_RX3_45 : mw_F RX3 45 2 1 0 := ⟨RX2, TX2, _, mw_Cl2, by decide, by decide +kernel, tw_302⟩
theorem fl_RX3_48 : mw_F RX3 48 2 2 0 := ⟨RX2, TX2, _, mw_Cl2, by decide, by decide +kernel, tw_305⟩
theorem na_X7_hashed : mw_NA yX7_hashed cX7_hashed 4 (some .long) 2 := ⟨⟨by decide +kernel, by decide +kernel, by decide +kernel⟩, tw_427, tw_60⟩
theorem nx_RX3_50 : Cond.methodLinkNest RX3 50 yX7_hashed "ClipMixer" ∈ mw_nw := by decide +kernel
theorem nc_RX3_50 : mw_NSn RX3 50 yX7_hashed cX7_hashed 4 (some .long) 2 := ⟨na_X7_hashed, ⟨_, nx_RX3_50⟩, tw_426⟩
theorem fl_RX4_9 : mw_F RX4 9 4 0 0 := ⟨RX4, TX4, _, mw_Cl4, by decide, by decide +kernel, tw_126⟩
theorem fp_RX4_9 : mw_FP RX4 9 4 0 0 .int false := ⟨RX4, TX4, _, mw_Cl4, by decide, by decide +kernel, tw_126, by decide +kernel, by decide +kernel⟩
theorem fl_RX4_15 : mw_F RX4 15 4 2 0 := ⟨RX4, TX4, _, mw_Cl4, by decide, by decide +kernel, tw_130⟩
theorem fp_RX4_15 : mw_FP RX4 15 4 2 0 .int false := ⟨RX4, TX4, _, mw_Cl4, by decide, by decide +kernel, tw_130, by decide +kernel, by decide +kernel⟩
theorem fl_RX4_18 : mw_F RX4 18 4 3 0 := ⟨RX4, TX4, _, mw_Cl4, by decide, by decide +kernel, tw_132⟩
theorem fp_RX4_18 : mw_FP RX4 18 4 3 0 .int false := ⟨RX4, TX4, _, mw_Cl4, by decide, by decide +kernel, tw_132, by decide +kernel, by decide +kernel⟩
theorem fl_RX4_21 : mw_F RX4 21 4 1 0 := ⟨RX4, TX4, _, mw_Cl4, by decide, by decide +kernel, tw_128⟩
theorem fp_RX4_21 : mw_FP RX4 21 4 1 0 .int false := ⟨RX4, TX4, _, mw_Cl4, by decide, by decide +kernel, tw_128, by decide +kernel, by decide +kernel⟩
theorem na_X4_define : mw_NA yX4_define cX4_define 5 none 4 := ⟨⟨by decide +kernel, by decide +kernel, by decide +kernel⟩, tw_368, tw_63⟩
theorem nc_RX4_24 : mw_NV RX4 24 4 yX4_define cX4_define 5 none 4 := ⟨na_X4_define, ⟨TX4, _, rfl⟩, tw_365, tw_366, tw_367⟩
theorem fl_RX6_9 : mw_F RX6 9 6 0 0 := ⟨RX6, TX6, _, mw_Cl6, by decide, by decide +kernel, tw_194⟩
theorem fp_RX6_9 : mw_FP RX6 9 6 0 0 .int false := ⟨RX6, TX6, _, mw_Cl6, by decide, by decide +kernel, tw_194, by decide +kernel, by decide +kernel⟩
theorem fl_RX6_15 : mw_F RX6 15 6 5 2 := ⟨RX6, TX6, _, mw_Cl6, by decide, by decide +kernel, tw_206⟩
theorem fp_RX6_15 : mw_FP RX6 15 6 5 2 (.array .int) true := ⟨RX6, TX6, _, mw_Cl6, by decide, by decide +kernel, tw_206, by decide +kernel, by decide +kernel⟩
theorem fl_RX6_19 : mw_F RX6 19 6 6 2 := ⟨RX6, TX6, _, mw_Cl6, by decide, by decide +kernel, tw_207⟩
theorem fp_RX6_19 : mw_FP RX6 19 6 6 2 (.array .int) true := ⟨RX6, TX6, _, mw_Cl6, by decide, by decide +kernel, tw_207, by decide +kernel, by decide +kernel⟩
theorem fl_RX6_22 : mw_F RX6 22 6 7 2 := ⟨RX6, TX6, _, mw_Cl6, by decide, by decide +kernel, tw_208⟩
theorem fp_RX6_22 : mw_FP RX6 22 6 7 2 (.array .boolean) true := ⟨RX6, TX6, _, mw_Cl6, by decide, by decide +kernel, tw_208, by decide +kernel, by decide +kernel⟩
theorem fl_RX6_26 : mw_F RX6 26 6 8 0 := ⟨RX6, TX6, _, mw_Cl6, by decide, by decide +kernel, tw_209⟩
theorem fp_RX6_26 : mw_FP RX6 26 6 8 0 .int false := ⟨RX6, TX6, _, mw_Cl6, by decide, by decide +kernel, tw_209, by decide +kernel, by decide +kernel⟩
theorem fl_RX5_25 : mw_F RX5 25 5 3 2 := ⟨RX5, TX5, _, mw_Cl5, by decide, by decide +kernel, tw_258⟩
theorem na_X6_init : mw_NA yX6_init cX6_init 1 none 0 := ⟨⟨by decide +kernel, by decide +kernel, by decide +kernel⟩, tw_192, tw_65⟩
theorem nx_RX5_45 : Cond.methodLinkNest RX5 45 yX6_init "ClipMixer" ∈ mw_nw := by decide +kernel
theorem nc_RX5_45 : mw_NIn RX5 45 yX6_init cX6_init 1 0 := ⟨na_X6_init, ⟨_, nx_RX5_45⟩, tw_191, rfl⟩
theorem fl_RX5_19 : mw_F RX5 19 5 1 2 := ⟨RX5, TX5, _, mw_Cl5, by decide, by decide +kernel, tw_254⟩
theorem na_X0_init : mw_NA yX0_init cX0_init 1 none 0 := ⟨⟨by decide +kernel, by decide +kernel, by decide +kernel⟩, tw_147, tw_64⟩
theorem nx_RX5_44 : Cond.methodLinkNest RX5 44 yX0_init "ClipMixer" ∈ mw_nw := by decide +kernel
theorem nc_RX5_44 : mw_NIn RX5 44 yX0_init cX0_init 1 0 := ⟨na_X0_init, ⟨_, nx_RX5_44⟩, tw_146, rfl⟩
theorem fl_RX5_11 : mw_F RX5 11 5 0 2 := ⟨RX5, TX5, _, mw_Cl5, by decide, by decide +kernel, tw_252⟩
theorem na_X4_init : mw_NA yX4_init cX4_init 1 none 0 := ⟨⟨by decide +kernel, by decide +kernel, by decide +kernel⟩, tw_124, tw_63⟩
theorem nx_RX5_43 : Cond.methodLinkNest RX5 43 yX4_init "ClipMixer" ∈ mw_nw := by decide +kernel
theorem nc_RX5_43 : mw_NIn RX5 43 yX4_init cX4_init 1 0 := ⟨na_X4_init, ⟨_, nx_RX5_43⟩, tw_123, rfl⟩
theorem fp_RX5_11 : mw_FP RX5 11 5 0 2 (.array (.object "ClipMixer$Source")) true := ⟨RX5, TX5, _, mw_Cl5, by decide, by decide +kernel, tw_252, by decide +kernel, by decide +kernel⟩
theorem fp_RX5_19 : mw_FP RX5 19 5 1 2 (.array (.object "ClipMixer$Clip")) true := ⟨RX5, TX5, _, mw_Cl5, by decide, by decide +kernel, tw_254, by decide +kernel, by decide +kernel⟩
theorem fp_RX5_25 : mw_FP RX5 25 5 3 2 (.array (.object "ClipMixer$Track")) true := ⟨RX5, TX5, _, mw_Cl5, by decide, by decide +kernel, tw_258, by decide +kernel, by decide +kernel⟩
theorem fl_RX5_29 : mw_F RX5 29 5 4 0 := ⟨RX5, TX5, _, mw_Cl5, by decide, by decide +kernel, tw_260⟩
theorem fp_RX5_29 : mw_FP RX5 29 5 4 0 .int false := ⟨RX5, TX5, _, mw_Cl5, by decide, by decide +kernel, tw_260, by decide +kernel, by decide +kernel⟩
theorem fl_RX5_33 : mw_F RX5 33 5 7 0 := ⟨RX5, TX5, _, mw_Cl5, by decide, by decide +kernel, tw_266⟩
theorem fp_RX5_33 : mw_FP RX5 33 5 7 0 .int false := ⟨RX5, TX5, _, mw_Cl5, by decide, by decide +kernel, tw_266, by decide +kernel, by decide +kernel⟩
theorem na_X3_init : mw_NA yX3_init cX3_init 1 none 0 := ⟨⟨by decide +kernel, by decide +kernel, by decide +kernel⟩, tw_101, tw_62⟩
theorem nx_RX5_38 : Cond.methodLinkNest RX5 38 yX3_init "ClipMixer" ∈ mw_nw := by decide +kernel
theorem nc_RX5_38 : mw_NIn RX5 38 yX3_init cX3_init 1 0 := ⟨na_X3_init, ⟨_, nx_RX5_38⟩, tw_100, rfl⟩
theorem fl_RX5_39 : mw_F RX5 39 5 8 2 := ⟨RX5, TX5, _, mw_Cl5, by decide, by decide +kernel, tw_268⟩
theorem fp_RX5_39 : mw_FP RX5 39 5 8 2 (.object "ClipMixer$Meters") true := ⟨RX5, TX5, _, mw_Cl5, by decide, by decide +kernel, tw_268, by decide +kernel, by decide +kernel⟩
theorem fl_RX6_39 : mw_F RX6 39 6 4 0 := ⟨RX6, TX6, _, mw_Cl6, by decide, by decide +kernel, tw_204⟩
theorem fl_RX6_46 : mw_F RX6 46 6 9 0 := ⟨RX6, TX6, _, mw_Cl6, by decide, by decide +kernel, tw_212⟩
theorem fp_RX6_46 : mw_FP RX6 46 6 9 0 .int false := ⟨RX6, TX6, _, mw_Cl6, by decide, by decide +kernel, tw_212, by decide +kernel, by decide +kernel⟩
theorem fl_RX6_49 : mw_F RX6 49 6 10 0 := ⟨RX6, TX6, _, mw_Cl6, by decide, by decide +kernel, tw_214⟩
theorem fp_RX6_49 : mw_FP RX6 49 6 10 0 .int false := ⟨RX6, TX6, _, mw_Cl6, by decide, by decide +kernel, tw_214, by decide +kernel, by decide +kernel⟩
theorem fl_RX6_52 : mw_F RX6 52 6 11 0 := ⟨RX6, TX6, _, mw_Cl6, by decide, by decide +kernel, tw_217⟩
theorem fp_RX6_52 : mw_FP RX6 52 6 11 0 .int false := ⟨RX6, TX6, _, mw_Cl6, by decide, by decide +kernel, tw_217, by decide +kernel, by decide +kernel⟩
theorem fl_RX6_55 : mw_F RX6 55 6 12 0 := ⟨RX6, TX6, _, mw_Cl6, by decide, by decide +kernel, tw_220⟩
theorem fp_RX6_55 : mw_FP RX6 55 6 12 0 .int false := ⟨RX6, TX6, _, mw_Cl6, by decide, by decide +kernel, tw_220, by decide +kernel, by decide +kernel⟩
theorem na_X6_setPlace : mw_NA yX6_setPlace cX6_setPlace 5 none 4 := ⟨⟨by decide +kernel, by decide +kernel, by decide +kernel⟩, tw_392, tw_65⟩
theorem nc_RX6_42 : mw_NV RX6 42 6 yX6_setPlace cX6_setPlace 5 none 4 := ⟨na_X6_setPlace, ⟨TX6, _, rfl⟩, tw_389, tw_391, tw_1⟩
theorem fl_RX6_29 : mw_F RX6 29 6 1 0 := ⟨RX6, TX6, _, mw_Cl6, by decide, by decide +kernel, tw_197⟩
theorem fp_RX6_29 : mw_FP RX6 29 6 1 0 .int false := ⟨RX6, TX6, _, mw_Cl6, by decide, by decide +kernel, tw_197, by decide +kernel, by decide +kernel⟩
theorem fl_RX6_32 : mw_F RX6 32 6 2 0 := ⟨RX6, TX6, _, mw_Cl6, by decide, by decide +kernel, tw_199⟩
theorem fp_RX6_32 : mw_FP RX6 32 6 2 0 .boolean false := ⟨RX6, TX6, _, mw_Cl6, by decide, by decide +kernel, tw_199, by decide +kernel, by decide +kernel⟩
theorem fl_RX6_36 : mw_F RX6 36 6 3 0 := ⟨RX6, TX6, _, mw_Cl6, by decide, by decide +kernel, tw_201⟩
theorem fp_RX6_36 : mw_FP RX6 36 6 3 0 .boolean false := ⟨RX6, TX6, _, mw_Cl6, by decide, by decide +kernel, tw_201, by decide +kernel, by decide +kernel⟩
theorem fp_RX6_39 : mw_FP RX6 39 6 4 0 .int false := ⟨RX6, TX6, _, mw_Cl6, by decide, by decide +kernel, tw_204, by decide +kernel, by decide +kernel⟩
theorem fl_RX5_59 : mw_F RX5 59 5 5 0 := ⟨RX5, TX5, _, mw_Cl5, by decide, by decide +kernel, tw_262⟩
theorem fp_RX5_59 : mw_FP RX5 59 5 5 0 .int false := ⟨RX5, TX5, _, mw_Cl5, by decide, by decide +kernel, tw_262, by decide +kernel, by decide +kernel⟩
theorem fl_RX5_62 : mw_F RX5 62 5 6 0 := ⟨RX5, TX5, _, mw_Cl5, by decide, by decide +kernel, tw_264⟩
theorem fp_RX5_62 : mw_FP RX5 62 5 6 0 .int false := ⟨RX5, TX5, _, mw_Cl5, by decide, by decide +kernel, tw_264, by decide +kernel, by decide +kernel⟩
theorem na_X3_takeFrom : mw_NA yX3_takeFrom cX3_takeFrom 2 none 1 := ⟨⟨by decide +kernel, by decide +kernel, by decide +kernel⟩, tw_396, tw_62⟩
theorem nc_RX5_65 : mw_NV RX5 65 3 yX3_takeFrom cX3_takeFrom 2 none 1 := ⟨na_X3_takeFrom, ⟨TX3, _, rfl⟩, tw_393, tw_394, tw_395⟩
theorem na_X6_takeFrom : mw_NA yX6_takeFrom cX6_takeFrom 3 none 1 := ⟨⟨by decide +kernel, by decide +kernel, by decide +kernel⟩, tw_388, tw_65⟩
theorem nc_RX5_56 : mw_NV RX5 56 6 yX6_takeFrom cX6_takeFrom 3 none 1 := ⟨na_X6_takeFrom, ⟨TX6, _, rfl⟩, tw_385, tw_386, tw_387⟩
theorem fl_RX5_50 : mw_F RX5 50 5 2 0 := ⟨RX5, TX5, _, mw_Cl5, by decide, by decide +kernel, tw_256⟩
theorem na_X0_takeFrom : mw_NA yX0_takeFrom cX0_takeFrom 2 none 1 := ⟨⟨by decide +kernel, by decide +kernel, by decide +kernel⟩, tw_372, tw_64⟩
theorem nc_RX5_53 : mw_NV RX5 53 0 yX0_takeFrom cX0_takeFrom 2 none 1 := ⟨na_X0_takeFrom, ⟨TX0, _, rfl⟩, tw_369, tw_370, tw_371⟩
theorem fp_RX5_50 : mw_FP RX5 50 5 2 0 .int false := ⟨RX5, TX5, _, mw_Cl5, by decide, by decide +kernel, tw_256, by decide +kernel, by decide +kernel⟩
theorem na_X4_takeFrom : mw_NA yX4_takeFrom cX4_takeFrom 2 none 1 := ⟨⟨by decide +kernel, by decide +kernel, by decide +kernel⟩, tw_364, tw_63⟩
theorem nc_RX5_46 : mw_NV RX5 46 4 yX4_takeFrom cX4_takeFrom 2 none 1 := ⟨na_X4_takeFrom, ⟨TX4, _, rfl⟩, tw_361, tw_362, tw_363⟩
theorem fl_RX5_68 : mw_F RX5 68 6 3 0 := ⟨RX6, TX6, _, mw_Cl6, by decide, by decide +kernel, tw_202⟩
theorem fl_RX5_72 : mw_F RX5 72 6 8 0 := ⟨RX6, TX6, _, mw_Cl6, by decide, by decide +kernel, tw_210⟩
theorem na_X0_isBefore : mw_NA yX0_isBefore cX0_isBefore 2 (some .boolean) 1 := ⟨⟨by decide +kernel, by decide +kernel, by decide +kernel⟩, tw_723, tw_64⟩
theorem nc_RX5_106 : mw_NV RX5 106 0 yX0_isBefore cX0_isBefore 2 (some .boolean) 1 := ⟨na_X0_isBefore, ⟨TX0, _, rfl⟩, tw_720, tw_721, tw_722⟩
theorem na_X5_swap : mw_NA yX5_swap cX5_swap 4 none 2 := ⟨⟨by decide +kernel, by decide +kernel, by decide +kernel⟩, tw_727, tw_61⟩
theorem nc_RX5_110 : mw_NV RX5 110 5 yX5_swap cX5_swap 4 none 2 := ⟨na_X5_swap, ⟨TX5, _, rfl⟩, tw_724, tw_726, tw_15⟩
theorem nc_RX5_75 : mw_NV RX5 75 0 yX0_place cX0_place 4 none 3 := ⟨na_X0_place, ⟨TX0, _, rfl⟩, tw_713, tw_374, tw_375⟩
theorem nc_RX5_79 : mw_NV RX5 79 0 yX0_play cX0_play 4 none 3 := ⟨na_X0_play, ⟨TX0, _, rfl⟩, tw_714, tw_378, tw_379⟩
theorem nc_RX5_82 : mw_NV RX5 82 0 yX0_fade cX0_fade 4 none 3 := ⟨na_X0_fade, ⟨TX0, _, rfl⟩, tw_715, tw_382, tw_383⟩
theorem na_X5_settle : mw_NA yX5_settle cX5_settle 3 (some .int) 1 := ⟨⟨by decide +kernel, by decide +kernel, by decide +kernel⟩, tw_719, tw_61⟩
theorem nc_RX5_85 : mw_NV RX5 85 5 yX5_settle cX5_settle 3 (some .int) 1 := ⟨na_X5_settle, ⟨TX5, _, rfl⟩, tw_716, tw_717, tw_718⟩
theorem fl_RX5_89 : mw_F RX5 89 0 2 0 := ⟨RX0, TX0, _, mw_Cl0, by decide, by decide +kernel, tw_155⟩
theorem nc_RX5_92 : mw_NV RX5 92 0 yX0_trim cX0_trim 3 none 2 := ⟨na_X0_trim, ⟨TX0, _, rfl⟩, tw_799, tw_783, tw_784⟩
theorem fl_RX5_96 : mw_F RX5 96 0 6 0 := ⟨RX0, TX0, _, mw_Cl0, by decide, by decide +kernel, tw_166⟩
theorem fp_RX5_96 : mw_FP RX5 96 0 6 0 .int false := ⟨RX0, TX0, _, mw_Cl0, by decide, by decide +kernel, tw_166, by decide +kernel, by decide +kernel⟩
theorem nc_RX5_99 : mw_NV RX5 99 0 yX0_end cX0_end 1 (some .int) 0 := ⟨na_X0_end, ⟨TX0, _, rfl⟩, tw_479, tw_414, tw_415⟩
theorem fl_RX5_103 : mw_F RX5 103 0 7 0 := ⟨RX0, TX0, _, mw_Cl0, by decide, by decide +kernel, tw_168⟩
theorem fp_RX5_103 : mw_FP RX5 103 0 7 0 .int false := ⟨RX0, TX0, _, mw_Cl0, by decide, by decide +kernel, tw_168, by decide +kernel, by decide +kernel⟩
theorem na_X0_loseStretch : mw_NA yX0_loseStretch cX0_loseStretch 3 none 2 := ⟨⟨by decide +kernel, by decide +kernel, by decide +kernel⟩, tw_831, tw_64⟩
theorem nc_RX5_120 : mw_NV RX5 120 0 yX0_loseStretch cX0_loseStretch 3 none 2 := ⟨na_X0_loseStretch, ⟨TX0, _, rfl⟩, tw_828, tw_829, tw_830⟩
theorem fl_RX5_113 : mw_F RX5 113 0 0 0 := ⟨RX0, TX0, _, mw_Cl0, by decide, by decide +kernel, tw_150⟩
theorem na_X5_drop : mw_NA yX5_drop cX5_drop 3 none 1 := ⟨⟨by decide +kernel, by decide +kernel, by decide +kernel⟩, tw_810, tw_61⟩
theorem nc_RX5_116 : mw_NV RX5 116 5 yX5_drop cX5_drop 3 none 1 := ⟨na_X5_drop, ⟨TX5, _, rfl⟩, tw_827, tw_808, tw_809⟩
theorem fl_RX5_123 : mw_F RX5 123 0 3 0 := ⟨RX0, TX0, _, mw_Cl0, by decide, by decide +kernel, tw_158⟩
theorem nc_RX7_374 : mw_NS RX7 374 yJ9_floorDiv_7cf53 cJ9_floorDiv_7cf53 3 (some .int) 2 := ⟨na_J9_floorDiv_7cf53, tw_508, tw_509⟩
theorem fl_RX5_132 : mw_F RX5 132 0 5 0 := ⟨RX0, TX0, _, mw_Cl0, by decide, by decide +kernel, tw_163⟩
theorem na_X7_applied : mw_NA yX7_applied cX7_applied 2 (some .int) 2 := ⟨⟨by decide +kernel, by decide +kernel, by decide +kernel⟩, tw_507, tw_60⟩
theorem nx_RX5_135 : Cond.methodLinkNest RX5 135 yX7_applied "ClipMixer" ∈ mw_nw := by decide +kernel
theorem nc_RX5_135 : mw_NSn RX5 135 yX7_applied cX7_applied 2 (some .int) 2 := ⟨na_X7_applied, ⟨_, nx_RX5_135⟩, tw_506⟩
theorem na_X0_fadeGain : mw_NA yX0_fadeGain cX0_fadeGain 4 (some .int) 2 := ⟨⟨by decide +kernel, by decide +kernel, by decide +kernel⟩, tw_514, tw_64⟩
theorem nc_RX5_139 : mw_NV RX5 139 0 yX0_fadeGain cX0_fadeGain 4 (some .int) 2 := ⟨na_X0_fadeGain, ⟨TX0, _, rfl⟩, tw_511, tw_512, tw_513⟩
theorem fl_RX5_142 : mw_F RX5 142 0 4 0 := ⟨RX0, TX0, _, mw_Cl0, by decide, by decide +kernel, tw_161⟩
theorem fl_RX5_126 : mw_F RX5 126 0 1 0 := ⟨RX0, TX0, _, mw_Cl0, by decide, by decide +kernel, tw_152⟩
theorem na_X4_valueAt : mw_NA yX4_valueAt cX4_valueAt 6 (some .int) 1 := ⟨⟨by decide +kernel, by decide +kernel, by decide +kernel⟩, tw_499, tw_63⟩
theorem nc_RX5_129 : mw_NV RX5 129 4 yX4_valueAt cX4_valueAt 6 (some .int) 1 := ⟨na_X4_valueAt, ⟨TX4, _, rfl⟩, tw_496, tw_497, tw_498⟩
theorem na_X0_covers : mw_NA yX0_covers cX0_covers 2 (some .boolean) 1 := ⟨⟨by decide +kernel, by decide +kernel, by decide +kernel⟩, tw_491, tw_64⟩
theorem nc_RX5_152 : mw_NV RX5 152 0 yX0_covers cX0_covers 2 (some .boolean) 1 := ⟨na_X0_covers, ⟨TX0, _, rfl⟩, tw_488, tw_489, tw_490⟩
theorem na_X6_lastPointUpTo : mw_NA yX6_lastPointUpTo cX6_lastPointUpTo 4 (some .int) 1 := ⟨⟨by decide +kernel, by decide +kernel, by decide +kernel⟩, tw_522, tw_65⟩
theorem nc_RX6_58 : mw_NV RX6 58 6 yX6_lastPointUpTo cX6_lastPointUpTo 4 (some .int) 1 := ⟨na_X6_lastPointUpTo, ⟨TX6, _, rfl⟩, tw_519, tw_521, tw_8⟩
theorem nc_RX6_66 : mw_NS RX6 66 yJ9_floorDiv_7cf53 cJ9_floorDiv_7cf53 3 (some .int) 2 := ⟨na_J9_floorDiv_7cf53, tw_523, tw_509⟩
theorem fl_RX5_156 : mw_F RX5 156 6 0 0 := ⟨RX6, TX6, _, mw_Cl6, by decide, by decide +kernel, tw_196⟩
theorem na_X6_laneGain : mw_NA yX6_laneGain cX6_laneGain 6 (some .int) 1 := ⟨⟨by decide +kernel, by decide +kernel, by decide +kernel⟩, tw_518, tw_65⟩
theorem nc_RX5_157 : mw_NV RX5 157 6 yX6_laneGain cX6_laneGain 6 (some .int) 1 := ⟨na_X6_laneGain, ⟨TX6, _, rfl⟩, tw_515, tw_516, tw_517⟩
theorem na_X5_rawValue : mw_NA yX5_rawValue cX5_rawValue 5 (some .int) 2 := ⟨⟨by decide +kernel, by decide +kernel, by decide +kernel⟩, tw_495, tw_61⟩
theorem nc_RX5_148 : mw_NV RX5 148 5 yX5_rawValue cX5_rawValue 5 (some .int) 2 := ⟨na_X5_rawValue, ⟨TX5, _, rfl⟩, tw_492, tw_493, tw_494⟩
theorem na_X5_firstCovering : mw_NA yX5_firstCovering cX5_firstCovering 4 (some .int) 2 := ⟨⟨by decide +kernel, by decide +kernel, by decide +kernel⟩, tw_487, tw_61⟩
theorem nc_RX5_145 : mw_NV RX5 145 5 yX5_firstCovering cX5_firstCovering 4 (some .int) 2 := ⟨na_X5_firstCovering, ⟨TX5, _, rfl⟩, tw_484, tw_486, tw_7⟩
theorem na_X5_dryValue : mw_NA yX5_dryValue cX5_dryValue 9 (some .int) 2 := ⟨⟨by decide +kernel, by decide +kernel, by decide +kernel⟩, tw_483, tw_61⟩
theorem nc_RX5_164 : mw_NV RX5 164 5 yX5_dryValue cX5_dryValue 9 (some .int) 2 := ⟨na_X5_dryValue, ⟨TX5, _, rfl⟩, tw_480, tw_481, tw_482⟩
theorem na_X5_hasClipWithin : mw_NA yX5_hasClipWithin cX5_hasClipWithin 6 (some .boolean) 3 := ⟨⟨by decide +kernel, by decide +kernel, by decide +kernel⟩, tw_478, tw_61⟩
theorem nc_RX5_160 : mw_NV RX5 160 5 yX5_hasClipWithin cX5_hasClipWithin 6 (some .boolean) 3 := ⟨na_X5_hasClipWithin, ⟨TX5, _, rfl⟩, tw_475, tw_477, tw_6⟩
theorem na_X3_reading : mw_NA yX3_reading cX3_reading 2 (some .long) 1 := ⟨⟨by decide +kernel, by decide +kernel, by decide +kernel⟩, tw_437, tw_62⟩
theorem nc_RX5_176 : mw_NV RX5 176 3 yX3_reading cX3_reading 2 (some .long) 1 := ⟨na_X3_reading, ⟨TX3, _, rfl⟩, tw_434, tw_435, tw_436⟩
theorem nx_RX5_172 : Cond.methodLinkNest RX5 172 yX7_hashed "ClipMixer" ∈ mw_nw := by decide +kernel
theorem nc_RX5_172 : mw_NSn RX5 172 yX7_hashed cX7_hashed 4 (some .long) 2 := ⟨na_X7_hashed, ⟨_, nx_RX5_172⟩, tw_426⟩
theorem fl_RX5_180 : mw_F RX5 180 4 0 0 := ⟨RX4, TX4, _, mw_Cl4, by decide, by decide +kernel, tw_127⟩
theorem fl_RX5_183 : mw_F RX5 183 4 1 0 := ⟨RX4, TX4, _, mw_Cl4, by decide, by decide +kernel, tw_129⟩
theorem fl_RX5_186 : mw_F RX5 186 4 2 0 := ⟨RX4, TX4, _, mw_Cl4, by decide, by decide +kernel, tw_131⟩
theorem fl_RX5_189 : mw_F RX5 189 4 3 0 := ⟨RX4, TX4, _, mw_Cl4, by decide, by decide +kernel, tw_134⟩
theorem na_X0_property : mw_NA yX0_property cX0_property 2 (some .int) 1 := ⟨⟨by decide +kernel, by decide +kernel, by decide +kernel⟩, tw_449, tw_64⟩
theorem nc_RX5_190 : mw_NV RX5 190 0 yX0_property cX0_property 2 (some .int) 1 := ⟨na_X0_property, ⟨TX0, _, rfl⟩, tw_446, tw_447, tw_448⟩
theorem na_X6_copyPlace : mw_NA yX6_copyPlace cX6_copyPlace 3 none 2 := ⟨⟨by decide +kernel, by decide +kernel, by decide +kernel⟩, tw_890, tw_65⟩
theorem nc_RX6_62 : mw_NV RX6 62 6 yX6_copyPlace cX6_copyPlace 3 none 2 := ⟨na_X6_copyPlace, ⟨TX6, _, rfl⟩, tw_887, tw_889, tw_17⟩
theorem nx_RX6_72 : Cond.methodLinkNest RX6 72 yX7_hashed "ClipMixer" ∈ mw_nw := by decide +kernel
theorem nc_RX6_72 : mw_NSn RX6 72 yX7_hashed cX7_hashed 4 (some .long) 2 := ⟨na_X7_hashed, ⟨_, nx_RX6_72⟩, tw_426⟩
theorem fl_RX7_25 : mw_F RX7 25 7 4 2 := ⟨RX7, TX7, _, mw_Cl7, by decide, by decide +kernel, tw_330⟩
theorem na_X1_init : mw_NA yX1_init cX1_init 1 none 0 := ⟨⟨by decide +kernel, by decide +kernel, by decide +kernel⟩, tw_316, tw_67⟩
theorem nc_RX7_36 : mw_NI RX7 36 yX1_init cX1_init 1 0 := ⟨na_X1_init, tw_314, tw_315, rfl⟩
theorem fl_RX7_19 : mw_F RX7 19 7 2 2 := ⟨RX7, TX7, _, mw_Cl7, by decide, by decide +kernel, tw_328⟩
theorem na_X5_init : mw_NA yX5_init cX5_init 2 none 0 := ⟨⟨by decide +kernel, by decide +kernel, by decide +kernel⟩, tw_89, tw_61⟩
theorem nc_RX7_11 : mw_NI RX7 11 yX5_init cX5_init 2 0 := ⟨na_X5_init, tw_87, tw_88, rfl⟩
theorem fl_RX7_12 : mw_F RX7 12 7 0 2 := ⟨RX7, TX7, _, mw_Cl7, by decide, by decide +kernel, tw_326⟩
theorem fp_RX7_12 : mw_FP RX7 12 7 0 2 (.object "ClipMixer$State") false := ⟨RX7, TX7, _, mw_Cl7, by decide, by decide +kernel, tw_326, by decide +kernel, by decide +kernel⟩
theorem fl_RX7_16 : mw_F RX7 16 7 1 2 := ⟨RX7, TX7, _, mw_Cl7, by decide, by decide +kernel, tw_327⟩
theorem fp_RX7_16 : mw_FP RX7 16 7 1 2 (.object "ClipMixer$State") false := ⟨RX7, TX7, _, mw_Cl7, by decide, by decide +kernel, tw_327, by decide +kernel, by decide +kernel⟩
theorem fp_RX7_19 : mw_FP RX7 19 7 2 2 (.array (.object "ClipMixer$State")) true := ⟨RX7, TX7, _, mw_Cl7, by decide, by decide +kernel, tw_328, by decide +kernel, by decide +kernel⟩
theorem fp_RX7_25 : mw_FP RX7 25 7 4 2 (.array (.object "ClipMixer$DuckCurve")) true := ⟨RX7, TX7, _, mw_Cl7, by decide, by decide +kernel, tw_330, by decide +kernel, by decide +kernel⟩
theorem na_X2_init : mw_NA yX2_init cX2_init 1 none 0 := ⟨⟨by decide +kernel, by decide +kernel, by decide +kernel⟩, tw_296, tw_66⟩
theorem nx_RX7_31 : Cond.methodLinkNest RX7 31 yX2_init "ClipMixer" ∈ mw_nw := by decide +kernel
theorem nc_RX7_31 : mw_NIn RX7 31 yX2_init cX2_init 1 0 := ⟨na_X2_init, ⟨_, nx_RX7_31⟩, tw_295, rfl⟩
theorem fl_RX7_32 : mw_F RX7 32 7 5 2 := ⟨RX7, TX7, _, mw_Cl7, by decide, by decide +kernel, tw_331⟩
theorem fp_RX7_32 : mw_FP RX7 32 7 5 2 (.object "ClipMixer$Frame") true := ⟨RX7, TX7, _, mw_Cl7, by decide, by decide +kernel, tw_331, by decide +kernel, by decide +kernel⟩
theorem na_X7_isOutside : mw_NA yX7_isOutside cX7_isOutside 3 (some .boolean) 3 := ⟨⟨by decide +kernel, by decide +kernel, by decide +kernel⟩, tw_571, tw_60⟩
theorem nc_RX7_41 : mw_NS RX7 41 yX7_isOutside cX7_isOutside 3 (some .boolean) 3 := ⟨na_X7_isOutside, tw_569, tw_570⟩
theorem at_RX7_77 : ∀ w ∈ vx_atS RX7 77 "java/lang/IndexOutOfBoundsException" ["java/lang/RuntimeException", "java/lang/Exception"], w ∈ TB ∨ w ∈ mw_nw := by decide +kernel
theorem sx_RX7_350 : (RX7, 350, "there is no such source") ∈ mw_strs := by decide +kernel
theorem na_X5_takeFrom : mw_NA yX5_takeFrom cX5_takeFrom 3 none 1 := ⟨⟨by decide +kernel, by decide +kernel, by decide +kernel⟩, tw_360, tw_61⟩
theorem nc_RX7_368 : mw_NV RX7 368 5 yX5_takeFrom cX5_takeFrom 3 none 1 := ⟨na_X5_takeFrom, ⟨TX5, _, rfl⟩, tw_357, tw_358, tw_359⟩
theorem fl_RX7_323 : mw_F RX7 323 7 3 0 := ⟨RX7, TX7, _, mw_Cl7, by decide, by decide +kernel, tw_329⟩
theorem fp_RX7_323 : mw_FP RX7 323 7 3 0 .int false := ⟨RX7, TX7, _, mw_Cl7, by decide, by decide +kernel, tw_329, by decide +kernel, by decide +kernel⟩
theorem na_X7_dropOldest : mw_NA yX7_dropOldest cX7_dropOldest 3 none 0 := ⟨⟨by decide +kernel, by decide +kernel, by decide +kernel⟩, tw_408, tw_60⟩
theorem nc_RX7_371 : mw_NV RX7 371 7 yX7_dropOldest cX7_dropOldest 3 none 0 := ⟨na_X7_dropOldest, ⟨TX7, _, rfl⟩, tw_405, tw_407, tw_3⟩
theorem na_X1_forget : mw_NA yX1_forget cX1_forget 1 none 0 := ⟨⟨by decide +kernel, by decide +kernel, by decide +kernel⟩, tw_669, tw_67⟩
theorem nc_RX7_379 : mw_NV RX7 379 1 yX1_forget cX1_forget 1 none 0 := ⟨na_X1_forget, ⟨TX1, _, rfl⟩, tw_666, tw_667, tw_668⟩
theorem na_X7_keepDraft : mw_NA yX7_keepDraft cX7_keepDraft 2 none 0 := ⟨⟨by decide +kernel, by decide +kernel, by decide +kernel⟩, tw_404, tw_60⟩
theorem nc_RX7_268 : mw_NV RX7 268 7 yX7_keepDraft cX7_keepDraft 2 none 0 := ⟨na_X7_keepDraft, ⟨TX7, _, rfl⟩, tw_401, tw_403, tw_2⟩
theorem na_X7_forgetDucking : mw_NA yX7_forgetDucking cX7_forgetDucking 2 none 0 := ⟨⟨by decide +kernel, by decide +kernel, by decide +kernel⟩, tw_665, tw_60⟩
theorem nc_RX7_328 : mw_NV RX7 328 7 yX7_forgetDucking cX7_forgetDucking 2 none 0 := ⟨na_X7_forgetDucking, ⟨TX7, _, rfl⟩, tw_662, tw_664, tw_13⟩
theorem at_RX7_49 : ∀ w ∈ vx_atS RX7 49 "java/lang/IllegalArgumentException" ["java/lang/RuntimeException", "java/lang/Exception"], w ∈ TB ∨ w ∈ mw_nw := by decide +kernel
theorem sx_RX7_47 : (RX7, 47, "shape, amplitude, period or length is out of range") ∈ mw_strs := by decide +kernel
theorem na_X7_checkSource : mw_NA yX7_checkSource cX7_checkSource 1 none 1 := ⟨⟨by decide +kernel, by decide +kernel, by decide +kernel⟩, tw_568, tw_60⟩
theorem nc_RX7_37 : mw_NS RX7 37 yX7_checkSource cX7_checkSource 1 none 1 := ⟨na_X7_checkSource, tw_566, tw_567⟩
theorem fl_RX7_52 : mw_F RX7 52 5 0 2 := ⟨RX5, TX5, _, mw_Cl5, by decide, by decide +kernel, tw_253⟩
theorem fl_RX7_56 : mw_F RX7 56 4 3 0 := ⟨RX4, TX4, _, mw_Cl4, by decide, by decide +kernel, tw_133⟩
theorem na_X7_draft : mw_NA yX7_draft cX7_draft 1 (some (.object "ClipMixer$State")) 0 := ⟨⟨by decide +kernel, by decide +kernel, by decide +kernel⟩, tw_356, tw_60⟩
theorem nc_RX7_62 : mw_NV RX7 62 7 yX7_draft cX7_draft 1 (some (.object "ClipMixer$State")) 0 := ⟨na_X7_draft, ⟨TX7, _, rfl⟩, tw_353, tw_355, tw_0⟩
theorem nc_RX7_66 : mw_NV RX7 66 4 yX4_define cX4_define 5 none 4 := ⟨na_X4_define, ⟨TX4, _, rfl⟩, tw_657, tw_366, tw_367⟩
theorem na_X7_keepSound : mw_NA yX7_keepSound cX7_keepSound 1 none 0 := ⟨⟨by decide +kernel, by decide +kernel, by decide +kernel⟩, tw_661, tw_60⟩
theorem nc_RX7_70 : mw_NV RX7 70 7 yX7_keepSound cX7_keepSound 1 none 0 := ⟨na_X7_keepSound, ⟨TX7, _, rfl⟩, tw_658, tw_660, tw_12⟩
theorem nc_RX7_78 : mw_NV RX7 78 4 yX4_valueAt cX4_valueAt 6 (some .int) 1 := ⟨na_X4_valueAt, ⟨TX4, _, rfl⟩, tw_678, tw_497, tw_498⟩
theorem sx_RX7_75 : (RX7, 75, "there is no such sample") ∈ mw_strs := by decide +kernel
theorem fl_RX7_144 : mw_F RX7 144 5 2 0 := ⟨RX5, TX5, _, mw_Cl5, by decide, by decide +kernel, tw_257⟩
theorem at_RX7_213 : ∀ w ∈ vx_atS RX7 213 "java/lang/IllegalStateException" ["java/lang/RuntimeException", "java/lang/Exception"], w ∈ TB ∨ w ∈ mw_nw := by decide +kernel
theorem sx_RX7_358 : (RX7, 358, "there is no room for another clip") ∈ mw_strs := by decide +kernel
theorem na_X5_isLawful : mw_NA yX5_isLawful cX5_isLawful 4 (some .boolean) 0 := ⟨⟨by decide +kernel, by decide +kernel, by decide +kernel⟩, tw_734, tw_61⟩
theorem nc_RX7_360 : mw_NV RX7 360 5 yX5_isLawful cX5_isLawful 4 (some .boolean) 0 := ⟨na_X5_isLawful, ⟨TX5, _, rfl⟩, tw_731, tw_732, tw_733⟩
theorem at_RX7_367 : ∀ w ∈ vx_atS RX7 367 "java/lang/UnsupportedOperationException" ["java/lang/RuntimeException", "java/lang/Exception"], w ∈ TB ∨ w ∈ mw_nw := by decide +kernel
theorem sx_RX7_365 : (RX7, 365, "the clips of the track would be in conflict") ∈ mw_strs := by decide +kernel
theorem sx_RX7_82 : (RX7, 82, "an argument is out of range") ∈ mw_strs := by decide +kernel
theorem na_X7_checkRoomForClip : mw_NA yX7_checkRoomForClip cX7_checkRoomForClip 1 none 0 := ⟨⟨by decide +kernel, by decide +kernel, by decide +kernel⟩, tw_692, tw_60⟩
theorem nc_RX7_84 : mw_NV RX7 84 7 yX7_checkRoomForClip cX7_checkRoomForClip 1 none 0 := ⟨na_X7_checkRoomForClip, ⟨TX7, _, rfl⟩, tw_689, tw_691, tw_14⟩
theorem na_X5_insert : mw_NA yX5_insert cX5_insert 8 (some .int) 6 := ⟨⟨by decide +kernel, by decide +kernel, by decide +kernel⟩, tw_712, tw_61⟩
theorem nc_RX7_87 : mw_NV RX7 87 5 yX5_insert cX5_insert 8 (some .int) 6 := ⟨na_X5_insert, ⟨TX5, _, rfl⟩, tw_709, tw_710, tw_711⟩
theorem na_X7_checkLawful : mw_NA yX7_checkLawful cX7_checkLawful 1 none 1 := ⟨⟨by decide +kernel, by decide +kernel, by decide +kernel⟩, tw_730, tw_60⟩
theorem nc_RX7_91 : mw_NS RX7 91 yX7_checkLawful cX7_checkLawful 1 none 1 := ⟨na_X7_checkLawful, tw_728, tw_729⟩
theorem sx_RX7_356 : (RX7, 356, "there is no such clip") ∈ mw_strs := by decide +kernel
theorem sx_RX7_98 : (RX7, 98, "a fade length or the curve is out of range") ∈ mw_strs := by decide +kernel
theorem na_X7_checkClip : mw_NA yX7_checkClip cX7_checkClip 2 none 1 := ⟨⟨by decide +kernel, by decide +kernel, by decide +kernel⟩, tw_761, tw_60⟩
theorem nc_RX7_95 : mw_NV RX7 95 7 yX7_checkClip cX7_checkClip 2 none 1 := ⟨na_X7_checkClip, ⟨TX7, _, rfl⟩, tw_758, tw_760, tw_16⟩
theorem fl_RX7_100 : mw_F RX7 100 5 1 2 := ⟨RX5, TX5, _, mw_Cl5, by decide, by decide +kernel, tw_255⟩
theorem fl_RX7_104 : mw_F RX7 104 0 6 0 := ⟨RX0, TX0, _, mw_Cl0, by decide, by decide +kernel, tw_165⟩
theorem nc_RX7_109 : mw_NV RX7 109 0 yX0_fade cX0_fade 4 none 3 := ⟨na_X0_fade, ⟨TX0, _, rfl⟩, tw_764, tw_382, tw_383⟩
theorem fl_RX7_113 : mw_F RX7 113 0 4 0 := ⟨RX0, TX0, _, mw_Cl0, by decide, by decide +kernel, tw_160⟩
theorem fl_RX7_116 : mw_F RX7 116 0 2 0 := ⟨RX0, TX0, _, mw_Cl0, by decide, by decide +kernel, tw_154⟩
theorem fp_RX7_116 : mw_FP RX7 116 0 2 0 .int false := ⟨RX0, TX0, _, mw_Cl0, by decide, by decide +kernel, tw_154, by decide +kernel, by decide +kernel⟩
theorem nc_RX7_119 : mw_NV RX7 119 5 yX5_settle cX5_settle 3 (some .int) 1 := ⟨na_X5_settle, ⟨TX5, _, rfl⟩, tw_773, tw_717, tw_718⟩
theorem sx_RX7_114 : (RX7, 114, "start is out of range") ∈ mw_strs := by decide +kernel
theorem sx_RX7_125 : (RX7, 125, "front or back is out of range, or the offset would be") ∈ mw_strs := by decide +kernel
theorem fl_RX7_122 : mw_F RX7 122 0 3 0 := ⟨RX0, TX0, _, mw_Cl0, by decide, by decide +kernel, tw_157⟩
theorem nc_RX7_127 : mw_NV RX7 127 0 yX0_trim cX0_trim 3 none 2 := ⟨na_X0_trim, ⟨TX0, _, rfl⟩, tw_782, tw_783, tw_784⟩
theorem sx_RX7_135 : (RX7, 135, "position is out of range, or the offset would be") ∈ mw_strs := by decide +kernel
theorem nc_RX7_131 : mw_NV RX7 131 0 yX0_end cX0_end 1 (some .int) 0 := ⟨na_X0_end, ⟨TX0, _, rfl⟩, tw_413, tw_414, tw_415⟩
theorem na_X5_cutInTwo : mw_NA yX5_cutInTwo cX5_cutInTwo 5 (some .int) 2 := ⟨⟨by decide +kernel, by decide +kernel, by decide +kernel⟩, tw_798, tw_61⟩
theorem nc_RX7_137 : mw_NV RX7 137 5 yX5_cutInTwo cX5_cutInTwo 5 (some .int) 2 := ⟨na_X5_cutInTwo, ⟨TX5, _, rfl⟩, tw_795, tw_796, tw_797⟩
theorem nc_RX7_141 : mw_NV RX7 141 5 yX5_drop cX5_drop 3 none 1 := ⟨na_X5_drop, ⟨TX5, _, rfl⟩, tw_807, tw_808, tw_809⟩
theorem sx_RX7_352 : (RX7, 352, "there is no such track") ∈ mw_strs := by decide +kernel
theorem sx_RX7_150 : (RX7, 150, "from or to is out of range") ∈ mw_strs := by decide +kernel
theorem na_X7_checkTrack : mw_NA yX7_checkTrack cX7_checkTrack 1 none 1 := ⟨⟨by decide +kernel, by decide +kernel, by decide +kernel⟩, tw_820, tw_60⟩
theorem nc_RX7_147 : mw_NS RX7 147 yX7_checkTrack cX7_checkTrack 1 none 1 := ⟨na_X7_checkTrack, tw_818, tw_819⟩
theorem na_X5_cutOut : mw_NA yX5_cutOut cX5_cutOut 7 (some .int) 3 := ⟨⟨by decide +kernel, by decide +kernel, by decide +kernel⟩, tw_826, tw_61⟩
theorem nc_RX7_152 : mw_NV RX7 152 5 yX5_cutOut cX5_cutOut 7 (some .int) 3 := ⟨na_X5_cutOut, ⟨TX5, _, rfl⟩, tw_823, tw_824, tw_825⟩
theorem na_X5_offsetsFit : mw_NA yX5_offsetsFit cX5_offsetsFit 2 (some .boolean) 0 := ⟨⟨by decide +kernel, by decide +kernel, by decide +kernel⟩, tw_837, tw_61⟩
theorem nc_RX7_156 : mw_NV RX7 156 5 yX5_offsetsFit cX5_offsetsFit 2 (some .boolean) 0 := ⟨na_X5_offsetsFit, ⟨TX5, _, rfl⟩, tw_834, tw_835, tw_836⟩
theorem sx_RX7_160 : (RX7, 160, "the offset of a clip would be out of range") ∈ mw_strs := by decide +kernel
theorem nc_RX7_164 : mw_NV RX7 164 0 yX0_property cX0_property 2 (some .int) 1 := ⟨na_X0_property, ⟨TX0, _, rfl⟩, tw_847, tw_447, tw_448⟩
theorem sx_RX7_162 : (RX7, 162, "there is no such property") ∈ mw_strs := by decide +kernel
theorem nc_RX7_167 : mw_NV RX7 167 0 yX0_covers cX0_covers 2 (some .boolean) 1 := ⟨na_X0_covers, ⟨TX0, _, rfl⟩, tw_855, tw_489, tw_490⟩
theorem nc_RX7_173 : mw_NV RX7 173 5 yX5_rawValue cX5_rawValue 5 (some .int) 2 := ⟨na_X5_rawValue, ⟨TX5, _, rfl⟩, tw_857, tw_493, tw_494⟩
theorem sx_RX7_171 : (RX7, 171, "the clip does not cover the position") ∈ mw_strs := by decide +kernel
theorem sx_RX7_177 : (RX7, 177, "gain or panorama is out of range") ∈ mw_strs := by decide +kernel
theorem fl_RX7_179 : mw_F RX7 179 5 3 2 := ⟨RX5, TX5, _, mw_Cl5, by decide, by decide +kernel, tw_259⟩
theorem fl_RX7_183 : mw_F RX7 183 6 0 0 := ⟨RX6, TX6, _, mw_Cl6, by decide, by decide +kernel, tw_195⟩
theorem fp_RX7_183 : mw_FP RX7 183 6 0 0 .int false := ⟨RX6, TX6, _, mw_Cl6, by decide, by decide +kernel, tw_195, by decide +kernel, by decide +kernel⟩
theorem fl_RX7_188 : mw_F RX7 188 6 1 0 := ⟨RX6, TX6, _, mw_Cl6, by decide, by decide +kernel, tw_198⟩
theorem fp_RX7_188 : mw_FP RX7 188 6 1 0 .int false := ⟨RX6, TX6, _, mw_Cl6, by decide, by decide +kernel, tw_198, by decide +kernel, by decide +kernel⟩
theorem fl_RX7_191 : mw_F RX7 191 6 2 0 := ⟨RX6, TX6, _, mw_Cl6, by decide, by decide +kernel, tw_200⟩
theorem fp_RX7_191 : mw_FP RX7 191 6 2 0 .boolean false := ⟨RX6, TX6, _, mw_Cl6, by decide, by decide +kernel, tw_200, by decide +kernel, by decide +kernel⟩
theorem fl_RX7_195 : mw_F RX7 195 6 3 0 := ⟨RX6, TX6, _, mw_Cl6, by decide, by decide +kernel, tw_203⟩
theorem fp_RX7_195 : mw_FP RX7 195 6 3 0 .boolean false := ⟨RX6, TX6, _, mw_Cl6, by decide, by decide +kernel, tw_203, by decide +kernel, by decide +kernel⟩
theorem sx_RX7_354 : (RX7, 354, "position is out of range") ∈ mw_strs := by decide +kernel
theorem na_X6_putPoint : mw_NA yX6_putPoint cX6_putPoint 6 none 3 := ⟨⟨by decide +kernel, by decide +kernel, by decide +kernel⟩, tw_886, tw_65⟩
theorem nc_RX7_214 : mw_NV RX7 214 6 yX6_putPoint cX6_putPoint 6 none 3 := ⟨na_X6_putPoint, ⟨TX6, _, rfl⟩, tw_883, tw_884, tw_885⟩
theorem fl_RX7_203 : mw_F RX7 203 6 4 0 := ⟨RX6, TX6, _, mw_Cl6, by decide, by decide +kernel, tw_205⟩
theorem na_X7_checkPosition : mw_NA yX7_checkPosition cX7_checkPosition 1 none 1 := ⟨⟨by decide +kernel, by decide +kernel, by decide +kernel⟩, tw_875, tw_60⟩
theorem nc_RX7_198 : mw_NS RX7 198 yX7_checkPosition cX7_checkPosition 1 none 1 := ⟨na_X7_checkPosition, tw_873, tw_874⟩
theorem na_X6_pointAt : mw_NA yX6_pointAt cX6_pointAt 3 (some .int) 1 := ⟨⟨by decide +kernel, by decide +kernel, by decide +kernel⟩, tw_881, tw_65⟩
theorem nc_RX7_206 : mw_NV RX7 206 6 yX6_pointAt cX6_pointAt 3 (some .int) 1 := ⟨na_X6_pointAt, ⟨TX6, _, rfl⟩, tw_878, tw_879, tw_880⟩
theorem sx_RX7_211 : (RX7, 211, "there would be too many points") ∈ mw_strs := by decide +kernel
theorem sx_RX7_201 : (RX7, 201, "value is out of range") ∈ mw_strs := by decide +kernel
theorem na_X6_dropPoint : mw_NA yX6_dropPoint cX6_dropPoint 3 none 1 := ⟨⟨by decide +kernel, by decide +kernel, by decide +kernel⟩, tw_902, tw_65⟩
theorem nc_RX7_220 : mw_NV RX7 220 6 yX6_dropPoint cX6_dropPoint 3 none 1 := ⟨na_X6_dropPoint, ⟨TX6, _, rfl⟩, tw_899, tw_900, tw_901⟩
theorem sx_RX7_218 : (RX7, 218, "there is no point at this position") ∈ mw_strs := by decide +kernel
theorem nc_RX7_223 : mw_NV RX7 223 6 yX6_laneGain cX6_laneGain 6 (some .int) 1 := ⟨na_X6_laneGain, ⟨TX6, _, rfl⟩, tw_910, tw_516, tw_517⟩
theorem sx_RX7_233 : (RX7, 233, "the track can't be ducked by this key") ∈ mw_strs := by decide +kernel
theorem fl_RX7_227 : mw_F RX7 227 6 8 0 := ⟨RX6, TX6, _, mw_Cl6, by decide, by decide +kernel, tw_211⟩
theorem na_X5_isKey : mw_NA yX5_isKey cX5_isKey 6 (some .boolean) 1 := ⟨⟨by decide +kernel, by decide +kernel, by decide +kernel⟩, tw_922, tw_61⟩
theorem nc_RX7_230 : mw_NV RX7 230 5 yX5_isKey cX5_isKey 6 (some .boolean) 1 := ⟨na_X5_isKey, ⟨TX5, _, rfl⟩, tw_919, tw_920, tw_921⟩
theorem fp_RX7_227 : mw_FP RX7 227 6 8 0 .int false := ⟨RX6, TX6, _, mw_Cl6, by decide, by decide +kernel, tw_211, by decide +kernel, by decide +kernel⟩
theorem fl_RX7_235 : mw_F RX7 235 6 9 0 := ⟨RX6, TX6, _, mw_Cl6, by decide, by decide +kernel, tw_213⟩
theorem fp_RX7_235 : mw_FP RX7 235 6 9 0 .int false := ⟨RX6, TX6, _, mw_Cl6, by decide, by decide +kernel, tw_213, by decide +kernel, by decide +kernel⟩
theorem fl_RX7_238 : mw_F RX7 238 6 10 0 := ⟨RX6, TX6, _, mw_Cl6, by decide, by decide +kernel, tw_216⟩
theorem fp_RX7_238 : mw_FP RX7 238 6 10 0 .int false := ⟨RX6, TX6, _, mw_Cl6, by decide, by decide +kernel, tw_216, by decide +kernel, by decide +kernel⟩
theorem fl_RX7_241 : mw_F RX7 241 6 11 0 := ⟨RX6, TX6, _, mw_Cl6, by decide, by decide +kernel, tw_219⟩
theorem fp_RX7_241 : mw_FP RX7 241 6 11 0 .int false := ⟨RX6, TX6, _, mw_Cl6, by decide, by decide +kernel, tw_219, by decide +kernel, by decide +kernel⟩
theorem fl_RX7_244 : mw_F RX7 244 6 12 0 := ⟨RX6, TX6, _, mw_Cl6, by decide, by decide +kernel, tw_222⟩
theorem fp_RX7_244 : mw_FP RX7 244 6 12 0 .int false := ⟨RX6, TX6, _, mw_Cl6, by decide, by decide +kernel, tw_222, by decide +kernel, by decide +kernel⟩
theorem na_X5_reaches : mw_NA yX5_reaches cX5_reaches 6 (some .boolean) 3 := ⟨⟨by decide +kernel, by decide +kernel, by decide +kernel⟩, tw_474, tw_61⟩
theorem nc_RX7_385 : mw_NV RX7 385 5 yX5_reaches cX5_reaches 6 (some .boolean) 3 := ⟨na_X5_reaches, ⟨TX5, _, rfl⟩, tw_471, tw_472, tw_473⟩
theorem na_X1_follow : mw_NA yX1_follow cX1_follow 4 none 2 := ⟨⟨by decide +kernel, by decide +kernel, by decide +kernel⟩, tw_530, tw_67⟩
theorem nc_RX7_388 : mw_NV RX7 388 1 yX1_follow cX1_follow 4 none 2 := ⟨na_X1_follow, ⟨TX1, _, rfl⟩, tw_527, tw_528, tw_529⟩
theorem fl_RX7_382 : mw_F RX7 382 1 1 0 := ⟨RX1, TX1, _, mw_Cl1, by decide, by decide +kernel, tw_320⟩
theorem na_X1_gainAt : mw_NA yX1_gainAt cX1_gainAt 4 (some .int) 1 := ⟨⟨by decide +kernel, by decide +kernel, by decide +kernel⟩, tw_547, tw_67⟩
theorem nc_RX7_392 : mw_NV RX7 392 1 yX1_gainAt cX1_gainAt 4 (some .int) 1 := ⟨na_X1_gainAt, ⟨TX1, _, rfl⟩, tw_544, tw_545, tw_546⟩
theorem na_X7_learnDucking : mw_NA yX7_learnDucking cX7_learnDucking 6 none 2 := ⟨⟨by decide +kernel, by decide +kernel, by decide +kernel⟩, tw_470, tw_60⟩
theorem nc_RX7_247 : mw_NV RX7 247 7 yX7_learnDucking cX7_learnDucking 6 none 2 := ⟨na_X7_learnDucking, ⟨TX7, _, rfl⟩, tw_467, tw_469, tw_5⟩
theorem na_X7_duckGainAt : mw_NA yX7_duckGainAt cX7_duckGainAt 3 (some .int) 2 := ⟨⟨by decide +kernel, by decide +kernel, by decide +kernel⟩, tw_543, tw_60⟩
theorem nc_RX7_250 : mw_NV RX7 250 7 yX7_duckGainAt cX7_duckGainAt 3 (some .int) 2 := ⟨na_X7_duckGainAt, ⟨TX7, _, rfl⟩, tw_540, tw_542, tw_10⟩
theorem nc_RX7_395 : mw_NV RX7 395 5 yX5_dryValue cX5_dryValue 9 (some .int) 2 := ⟨na_X5_dryValue, ⟨TX5, _, rfl⟩, tw_539, tw_481, tw_482⟩
theorem nc_RX7_398 : mw_NS RX7 398 yX7_applied cX7_applied 2 (some .int) 2 := ⟨na_X7_applied, tw_549, tw_506⟩
theorem na_X7_valueOfTrack : mw_NA yX7_valueOfTrack cX7_valueOfTrack 3 (some .int) 2 := ⟨⟨by decide +kernel, by decide +kernel, by decide +kernel⟩, tw_538, tw_60⟩
theorem nc_RX7_253 : mw_NV RX7 253 7 yX7_valueOfTrack cX7_valueOfTrack 3 (some .int) 2 := ⟨na_X7_valueOfTrack, ⟨TX7, _, rfl⟩, tw_535, tw_537, tw_9⟩
theorem na_X5_hasSolo : mw_NA yX5_hasSolo cX5_hasSolo 5 (some .boolean) 0 := ⟨⟨by decide +kernel, by decide +kernel, by decide +kernel⟩, tw_462, tw_61⟩
theorem nc_RX7_256 : mw_NV RX7 256 5 yX5_hasSolo cX5_hasSolo 5 (some .boolean) 0 := ⟨na_X5_hasSolo, ⟨TX5, _, rfl⟩, tw_459, tw_460, tw_461⟩
theorem na_X6_isHeard : mw_NA yX6_isHeard cX6_isHeard 2 (some .boolean) 1 := ⟨⟨by decide +kernel, by decide +kernel, by decide +kernel⟩, tw_466, tw_65⟩
theorem nc_RX7_259 : mw_NV RX7 259 6 yX6_isHeard cX6_isHeard 2 (some .boolean) 1 := ⟨na_X6_isHeard, ⟨TX6, _, rfl⟩, tw_463, tw_464, tw_465⟩
theorem fl_RX7_265 : mw_F RX7 265 5 4 0 := ⟨RX5, TX5, _, mw_Cl5, by decide, by decide +kernel, tw_261⟩
theorem fp_RX7_265 : mw_FP RX7 265 5 4 0 .int false := ⟨RX5, TX5, _, mw_Cl5, by decide, by decide +kernel, tw_261, by decide +kernel, by decide +kernel⟩
theorem sx_RX7_263 : (RX7, 263, "gain is out of range") ∈ mw_strs := by decide +kernel
theorem na_X2_limit : mw_NA yX2_limit cX2_limit 3 none 2 := ⟨⟨by decide +kernel, by decide +kernel, by decide +kernel⟩, tw_554, tw_66⟩
theorem nc_RX7_404 : mw_NV RX7 404 2 yX2_limit cX2_limit 3 none 2 := ⟨na_X2_limit, ⟨TX2, _, rfl⟩, tw_551, tw_552, tw_553⟩
theorem na_X7_mixInto : mw_NA yX7_mixInto cX7_mixInto 9 none 2 := ⟨⟨by decide +kernel, by decide +kernel, by decide +kernel⟩, tw_458, tw_60⟩
theorem nc_RX7_271 : mw_NV RX7 271 7 yX7_mixInto cX7_mixInto 9 none 2 := ⟨na_X7_mixInto, ⟨TX7, _, rfl⟩, tw_455, tw_457, tw_4⟩
theorem fl_RX7_278 : mw_F RX7 278 2 0 0 := ⟨RX2, TX2, _, mw_Cl2, by decide, by decide +kernel, tw_300⟩
theorem fl_RX7_275 : mw_F RX7 275 2 1 0 := ⟨RX2, TX2, _, mw_Cl2, by decide, by decide +kernel, tw_303⟩
theorem fl_RX7_281 : mw_F RX7 281 5 6 0 := ⟨RX5, TX5, _, mw_Cl5, by decide, by decide +kernel, tw_265⟩
theorem fp_RX7_281 : mw_FP RX7 281 5 6 0 .int false := ⟨RX5, TX5, _, mw_Cl5, by decide, by decide +kernel, tw_265, by decide +kernel, by decide +kernel⟩
theorem fl_RX7_284 : mw_F RX7 284 5 7 0 := ⟨RX5, TX5, _, mw_Cl5, by decide, by decide +kernel, tw_267⟩
theorem fp_RX7_284 : mw_FP RX7 284 5 7 0 .int false := ⟨RX5, TX5, _, mw_Cl5, by decide, by decide +kernel, tw_267, by decide +kernel, by decide +kernel⟩
theorem fl_RX7_287 : mw_F RX7 287 5 5 0 := ⟨RX5, TX5, _, mw_Cl5, by decide, by decide +kernel, tw_263⟩
theorem fp_RX7_287 : mw_FP RX7 287 5 5 0 .int false := ⟨RX5, TX5, _, mw_Cl5, by decide, by decide +kernel, tw_263, by decide +kernel, by decide +kernel⟩
theorem fl_RX7_292 : mw_F RX7 292 5 8 2 := ⟨RX5, TX5, _, mw_Cl5, by decide, by decide +kernel, tw_269⟩
theorem na_X3_take : mw_NA yX3_take cX3_take 2 none 1 := ⟨⟨by decide +kernel, by decide +kernel, by decide +kernel⟩, tw_992, tw_62⟩
theorem nc_RX7_296 : mw_NV RX7 296 3 yX3_take cX3_take 2 none 1 := ⟨na_X3_take, ⟨TX3, _, rfl⟩, tw_989, tw_990, tw_991⟩
theorem na_X5_advance : mw_NA yX5_advance cX5_advance 1 none 0 := ⟨⟨by decide +kernel, by decide +kernel, by decide +kernel⟩, tw_1001, tw_61⟩
theorem nc_RX7_302 : mw_NV RX7 302 5 yX5_advance cX5_advance 1 none 0 := ⟨na_X5_advance, ⟨TX5, _, rfl⟩, tw_998, tw_999, tw_1000⟩
theorem sx_RX7_290 : (RX7, 290, "count is out of range") ∈ mw_strs := by decide +kernel
theorem nc_RX7_307 : mw_NV RX7 307 3 yX3_reading cX3_reading 2 (some .long) 1 := ⟨na_X3_reading, ⟨TX3, _, rfl⟩, tw_1010, tw_435, tw_436⟩
theorem sx_RX7_305 : (RX7, 305, "there is no such meter") ∈ mw_strs := by decide +kernel
theorem fl_RX7_311 : mw_F RX7 311 3 0 1 := ⟨RX3, TX3, _, mw_Cl3, by decide, by decide +kernel, tw_105⟩
theorem na_X3_clear : mw_NA yX3_clear cX3_clear 1 none 0 := ⟨⟨by decide +kernel, by decide +kernel, by decide +kernel⟩, tw_400, tw_62⟩
theorem nc_RX7_315 : mw_NV RX7 315 3 yX3_clear cX3_clear 1 none 0 := ⟨na_X3_clear, ⟨TX3, _, rfl⟩, tw_397, tw_398, tw_399⟩
theorem sx_RX7_326 : (RX7, 326, "there is nothing to undo") ∈ mw_strs := by decide +kernel
theorem nc_RX7_333 : mw_NS RX7 333 yX7_hashed cX7_hashed 4 (some .long) 2 := ⟨na_X7_hashed, tw_425, tw_426⟩
theorem na_X6_hashTrack : mw_NA yX6_hashTrack cX6_hashTrack 6 (some .long) 1 := ⟨⟨by decide +kernel, by decide +kernel, by decide +kernel⟩, tw_453, tw_65⟩
theorem nc_RX7_347 : mw_NV RX7 347 6 yX6_hashTrack cX6_hashTrack 6 (some .long) 1 := ⟨na_X6_hashTrack, ⟨TX6, _, rfl⟩, tw_450, tw_451, tw_452⟩
theorem na_X5_hashTransport : mw_NA yX5_hashTransport cX5_hashTransport 6 (some .long) 1 := ⟨⟨by decide +kernel, by decide +kernel, by decide +kernel⟩, tw_432, tw_61⟩
theorem nc_RX7_337 : mw_NV RX7 337 5 yX5_hashTransport cX5_hashTransport 6 (some .long) 1 := ⟨na_X5_hashTransport, ⟨TX5, _, rfl⟩, tw_429, tw_430, tw_431⟩
theorem na_X5_hashSources : mw_NA yX5_hashSources cX5_hashSources 9 (some .long) 1 := ⟨⟨by decide +kernel, by decide +kernel, by decide +kernel⟩, tw_441, tw_61⟩
theorem nc_RX7_341 : mw_NV RX7 341 5 yX5_hashSources cX5_hashSources 9 (some .long) 1 := ⟨na_X5_hashSources, ⟨TX5, _, rfl⟩, tw_438, tw_439, tw_440⟩
theorem na_X5_hashClips : mw_NA yX5_hashClips cX5_hashClips 7 (some .long) 1 := ⟨⟨by decide +kernel, by decide +kernel, by decide +kernel⟩, tw_445, tw_61⟩
theorem nc_RX7_344 : mw_NV RX7 344 5 yX5_hashClips cX5_hashClips 7 (some .long) 1 := ⟨na_X5_hashClips, ⟨TX5, _, rfl⟩, tw_442, tw_443, tw_444⟩
theorem fl_RX8_7 : mw_F RX8 7 8 0 2 := ⟨RX8, TX8, _, mw_Cl8, by decide, by decide +kernel, tw_1029⟩
theorem na_X8_trackAt : mw_NA yX8_trackAt cX8_trackAt 1 (some .int) 1 := ⟨⟨by decide +kernel, by decide +kernel, by decide +kernel⟩, tw_1028, tw_68⟩
theorem nc_RX8_35 : mw_NS RX8 35 yX8_trackAt cX8_trackAt 1 (some .int) 1 := ⟨na_X8_trackAt, tw_1026, tw_1027⟩
theorem fp_RX8_7 : mw_FP RX8 7 8 0 2 (.array .int) true := ⟨RX8, TX8, _, mw_Cl8, by decide, by decide +kernel, tw_1029, by decide +kernel, by decide +kernel⟩
theorem fl_RX8_15 : mw_F RX8 15 8 1 1 := ⟨RX8, TX8, _, mw_Cl8, by decide, by decide +kernel, tw_1030⟩
theorem fp_RX8_15 : mw_FP RX8 15 8 1 1 .long false := ⟨RX8, TX8, _, mw_Cl8, by decide, by decide +kernel, tw_1030, by decide +kernel, by decide +kernel⟩
theorem fl_RX8_19 : mw_F RX8 19 8 2 2 := ⟨RX8, TX8, _, mw_Cl8, by decide, by decide +kernel, tw_1031⟩
theorem fp_RX8_19 : mw_FP RX8 19 8 2 2 (.array .int) true := ⟨RX8, TX8, _, mw_Cl8, by decide, by decide +kernel, tw_1031, by decide +kernel, by decide +kernel⟩
theorem fl_RX8_22 : mw_F RX8 22 8 3 2 := ⟨RX8, TX8, _, mw_Cl8, by decide, by decide +kernel, tw_1032⟩
theorem fp_RX8_22 : mw_FP RX8 22 8 3 2 (.array .long) true := ⟨RX8, TX8, _, mw_Cl8, by decide, by decide +kernel, tw_1032, by decide +kernel, by decide +kernel⟩
theorem fl_RX8_26 : mw_F RX8 26 8 7 2 := ⟨RX8, TX8, _, mw_Cl8, by decide, by decide +kernel, tw_1036⟩
theorem fp_RX8_26 : mw_FP RX8 26 8 7 2 (.array .int) true := ⟨RX8, TX8, _, mw_Cl8, by decide, by decide +kernel, tw_1036, by decide +kernel, by decide +kernel⟩
theorem fl_RX8_29 : mw_F RX8 29 8 8 2 := ⟨RX8, TX8, _, mw_Cl8, by decide, by decide +kernel, tw_1037⟩
theorem fp_RX8_29 : mw_FP RX8 29 8 8 2 (.array .int) true := ⟨RX8, TX8, _, mw_Cl8, by decide, by decide +kernel, tw_1037, by decide +kernel, by decide +kernel⟩
theorem fl_RX8_32 : mw_F RX8 32 8 9 2 := ⟨RX8, TX8, _, mw_Cl8, by decide, by decide +kernel, tw_1038⟩
theorem fp_RX8_32 : mw_FP RX8 32 8 9 2 (.array .int) true := ⟨RX8, TX8, _, mw_Cl8, by decide, by decide +kernel, tw_1038, by decide +kernel, by decide +kernel⟩
theorem fl_RX8_39 : mw_F RX8 39 8 5 0 := ⟨RX8, TX8, _, mw_Cl8, by decide, by decide +kernel, tw_1034⟩
theorem na_X8_in : mw_NA yX8_in cX8_in 6 (some .boolean) 3 := ⟨⟨by decide +kernel, by decide +kernel, by decide +kernel⟩, tw_1084, tw_68⟩
theorem nc_RX8_45 : mw_NS RX8 45 yX8_in cX8_in 6 (some .boolean) 3 := ⟨na_X8_in, tw_1082, tw_1083⟩
theorem fp_RX8_39 : mw_FP RX8 39 8 5 0 .int false := ⟨RX8, TX8, _, mw_Cl8, by decide, by decide +kernel, tw_1034, by decide +kernel, by decide +kernel⟩
theorem fl_RX8_55 : mw_F RX8 55 8 4 0 := ⟨RX8, TX8, _, mw_Cl8, by decide, by decide +kernel, tw_1033⟩
theorem fp_RX8_55 : mw_FP RX8 55 8 4 0 .int false := ⟨RX8, TX8, _, mw_Cl8, by decide, by decide +kernel, tw_1033, by decide +kernel, by decide +kernel⟩
theorem na_X8_refuses : mw_NA yX8_refuses cX8_refuses 2 (some .boolean) 1 := ⟨⟨by decide +kernel, by decide +kernel, by decide +kernel⟩, tw_1099, tw_68⟩
theorem nc_RX8_51 : mw_NV RX8 51 8 yX8_refuses cX8_refuses 2 (some .boolean) 1 := ⟨na_X8_refuses, ⟨TX8, _, rfl⟩, tw_1096, tw_1098, tw_19⟩
theorem na_X8_floor : mw_NA yX8_floor cX8_floor 6 (some .long) 2 := ⟨⟨by decide +kernel, by decide +kernel, by decide +kernel⟩, tw_1250, tw_68⟩
theorem nc_RX8_60 : mw_NS RX8 60 yX8_floor cX8_floor 6 (some .long) 2 := ⟨na_X8_floor, tw_1248, tw_1249⟩
theorem na_X8_refusesChange : mw_NA yX8_refusesChange cX8_refusesChange 3 (some .boolean) 1 := ⟨⟨by decide +kernel, by decide +kernel, by decide +kernel⟩, tw_1095, tw_68⟩
theorem nc_RX8_73 : mw_NV RX8 73 8 yX8_refusesChange cX8_refusesChange 3 (some .boolean) 1 := ⟨na_X8_refusesChange, ⟨TX8, _, rfl⟩, tw_1092, tw_1094, tw_18⟩
theorem na_X8_becomes : mw_NA yX8_becomes cX8_becomes 4 (some .int) 2 := ⟨⟨by decide +kernel, by decide +kernel, by decide +kernel⟩, tw_1103, tw_68⟩
theorem nc_RX8_76 : mw_NV RX8 76 8 yX8_becomes cX8_becomes 4 (some .int) 2 := ⟨na_X8_becomes, ⟨TX8, _, rfl⟩, tw_1100, tw_1102, tw_20⟩
theorem na_X8_isSource : mw_NA yX8_isSource cX8_isSource 1 (some .boolean) 1 := ⟨⟨by decide +kernel, by decide +kernel, by decide +kernel⟩, tw_1090, tw_68⟩
theorem nc_RX8_70 : mw_NS RX8 70 yX8_isSource cX8_isSource 1 (some .boolean) 1 := ⟨na_X8_isSource, tw_1088, tw_1089⟩
theorem na_X8_sampleOf : mw_NA yX8_sampleOf cX8_sampleOf 8 (some .int) 2 := ⟨⟨by decide +kernel, by decide +kernel, by decide +kernel⟩, tw_1115, tw_68⟩
theorem nc_RX8_92 : mw_NV RX8 92 8 yX8_sampleOf cX8_sampleOf 8 (some .int) 2 := ⟨na_X8_sampleOf, ⟨TX8, _, rfl⟩, tw_1112, tw_1114, tw_22⟩
theorem na_X8_hasSample : mw_NA yX8_hasSample cX8_hasSample 3 (some .boolean) 2 := ⟨⟨by decide +kernel, by decide +kernel, by decide +kernel⟩, tw_1111, tw_68⟩
theorem nc_RX8_88 : mw_NV RX8 88 8 yX8_hasSample cX8_hasSample 3 (some .boolean) 2 := ⟨na_X8_hasSample, ⟨TX8, _, rfl⟩, tw_1108, tw_1110, tw_21⟩
theorem fl_RX8_95 : mw_F RX8 95 8 6 0 := ⟨RX8, TX8, _, mw_Cl8, by decide, by decide +kernel, tw_1035⟩
theorem fp_RX8_95 : mw_FP RX8 95 8 6 0 .int false := ⟨RX8, TX8, _, mw_Cl8, by decide, by decide +kernel, tw_1035, by decide +kernel, by decide +kernel⟩
theorem na_X8_of : mw_NA yX8_of cX8_of 3 (some .int) 2 := ⟨⟨by decide +kernel, by decide +kernel, by decide +kernel⟩, tw_1147, tw_68⟩
theorem nc_RX8_98 : mw_NV RX8 98 8 yX8_of cX8_of 3 (some .int) 2 := ⟨na_X8_of, ⟨TX8, _, rfl⟩, tw_1144, tw_1146, tw_26⟩
theorem na_X8_shifts : mw_NA yX8_shifts cX8_shifts 4 none 2 := ⟨⟨by decide +kernel, by decide +kernel, by decide +kernel⟩, tw_1155, tw_68⟩
theorem nc_RX8_101 : mw_NV RX8 101 8 yX8_shifts cX8_shifts 4 none 2 := ⟨na_X8_shifts, ⟨TX8, _, rfl⟩, tw_1152, tw_1154, tw_28⟩
theorem na_X8_carries : mw_NA yX8_carries cX8_carries 4 none 2 := ⟨⟨by decide +kernel, by decide +kernel, by decide +kernel⟩, tw_1151, tw_68⟩
theorem nc_RX8_105 : mw_NV RX8 105 8 yX8_carries cX8_carries 4 none 2 := ⟨na_X8_carries, ⟨TX8, _, rfl⟩, tw_1148, tw_1150, tw_27⟩
theorem na_X8_endOf : mw_NA yX8_endOf cX8_endOf 2 (some .int) 1 := ⟨⟨by decide +kernel, by decide +kernel, by decide +kernel⟩, tw_1163, tw_68⟩
theorem nc_RX8_108 : mw_NV RX8 108 8 yX8_endOf cX8_endOf 2 (some .int) 1 := ⟨na_X8_endOf, ⟨TX8, _, rfl⟩, tw_1160, tw_1162, tw_30⟩
theorem na_X8_takesOver : mw_NA yX8_takesOver cX8_takesOver 2 none 0 := ⟨⟨by decide +kernel, by decide +kernel, by decide +kernel⟩, tw_1167, tw_68⟩
theorem nc_RX8_133 : mw_NV RX8 133 8 yX8_takesOver cX8_takesOver 2 none 0 := ⟨na_X8_takesOver, ⟨TX8, _, rfl⟩, tw_1164, tw_1166, tw_31⟩
theorem na_X8_set : mw_NA yX8_set cX8_set 4 none 3 := ⟨⟨by decide +kernel, by decide +kernel, by decide +kernel⟩, tw_1139, tw_68⟩
theorem nc_RX8_122 : mw_NV RX8 122 8 yX8_set cX8_set 4 none 3 := ⟨na_X8_set, ⟨TX8, _, rfl⟩, tw_1136, tw_1138, tw_24⟩
theorem na_X8_settles : mw_NA yX8_settles cX8_settles 5 (some .int) 1 := ⟨⟨by decide +kernel, by decide +kernel, by decide +kernel⟩, tw_1143, tw_68⟩
theorem nc_RX8_126 : mw_NV RX8 126 8 yX8_settles cX8_settles 5 (some .int) 1 := ⟨na_X8_settles, ⟨TX8, _, rfl⟩, tw_1140, tw_1142, tw_25⟩
theorem na_X8_isFine : mw_NA yX8_isFine cX8_isFine 3 (some .boolean) 0 := ⟨⟨by decide +kernel, by decide +kernel, by decide +kernel⟩, tw_1159, tw_68⟩
theorem nc_RX8_129 : mw_NV RX8 129 8 yX8_isFine cX8_isFine 3 (some .boolean) 0 := ⟨na_X8_isFine, ⟨TX8, _, rfl⟩, tw_1156, tw_1158, tw_29⟩
theorem na_X8_tries : mw_NA yX8_tries cX8_tries 2 none 0 := ⟨⟨by decide +kernel, by decide +kernel, by decide +kernel⟩, tw_1135, tw_68⟩
theorem nc_RX8_119 : mw_NV RX8 119 8 yX8_tries cX8_tries 2 none 0 := ⟨na_X8_tries, ⟨TX8, _, rfl⟩, tw_1132, tw_1134, tw_23⟩
theorem na_X8_isTrack : mw_NA yX8_isTrack cX8_isTrack 1 (some .boolean) 1 := ⟨⟨by decide +kernel, by decide +kernel, by decide +kernel⟩, tw_1126, tw_68⟩
theorem nc_RX8_111 : mw_NS RX8 111 yX8_isTrack cX8_isTrack 1 (some .boolean) 1 := ⟨na_X8_isTrack, tw_1124, tw_1125⟩
theorem na_X8_isPlace : mw_NA yX8_isPlace cX8_isPlace 1 (some .boolean) 1 := ⟨⟨by decide +kernel, by decide +kernel, by decide +kernel⟩, tw_1129, tw_68⟩
theorem nc_RX8_114 : mw_NS RX8 114 yX8_isPlace cX8_isPlace 1 (some .boolean) 1 := ⟨na_X8_isPlace, tw_1127, tw_1128⟩
theorem na_X8_isClip : mw_NA yX8_isClip cX8_isClip 2 (some .boolean) 1 := ⟨⟨by decide +kernel, by decide +kernel, by decide +kernel⟩, tw_1175, tw_68⟩
theorem nc_RX8_136 : mw_NV RX8 136 8 yX8_isClip cX8_isClip 2 (some .boolean) 1 := ⟨na_X8_isClip, ⟨TX8, _, rfl⟩, tw_1172, tw_1174, tw_32⟩
theorem na_X8_limitsFades : mw_NA yX8_limitsFades cX8_limitsFades 3 none 1 := ⟨⟨by decide +kernel, by decide +kernel, by decide +kernel⟩, tw_1191, tw_68⟩
theorem nc_RX8_139 : mw_NV RX8 139 8 yX8_limitsFades cX8_limitsFades 3 none 1 := ⟨na_X8_limitsFades, ⟨TX8, _, rfl⟩, tw_1188, tw_1190, tw_34⟩
theorem na_X8_cuts : mw_NA yX8_cuts cX8_cuts 4 none 3 := ⟨⟨by decide +kernel, by decide +kernel, by decide +kernel⟩, tw_1187, tw_68⟩
theorem nc_RX8_143 : mw_NV RX8 143 8 yX8_cuts cX8_cuts 4 none 3 := ⟨na_X8_cuts, ⟨TX8, _, rfl⟩, tw_1184, tw_1186, tw_33⟩
theorem na_X8_leaves : mw_NA yX8_leaves cX8_leaves 3 none 1 := ⟨⟨by decide +kernel, by decide +kernel, by decide +kernel⟩, tw_1203, tw_68⟩
theorem nc_RX8_146 : mw_NV RX8 146 8 yX8_leaves cX8_leaves 3 none 1 := ⟨na_X8_leaves, ⟨TX8, _, rfl⟩, tw_1200, tw_1202, tw_35⟩
theorem na_X8_ordersAll : mw_NA yX8_ordersAll cX8_ordersAll 3 none 0 := ⟨⟨by decide +kernel, by decide +kernel, by decide +kernel⟩, tw_1215, tw_68⟩
theorem nc_RX8_153 : mw_NV RX8 153 8 yX8_ordersAll cX8_ordersAll 3 none 0 := ⟨na_X8_ordersAll, ⟨TX8, _, rfl⟩, tw_1212, tw_1214, tw_37⟩
theorem na_X8_deletes : mw_NA yX8_deletes cX8_deletes 6 (some .boolean) 3 := ⟨⟨by decide +kernel, by decide +kernel, by decide +kernel⟩, tw_1211, tw_68⟩
theorem nc_RX8_149 : mw_NV RX8 149 8 yX8_deletes cX8_deletes 6 (some .boolean) 3 := ⟨na_X8_deletes, ⟨TX8, _, rfl⟩, tw_1208, tw_1210, tw_36⟩
theorem na_X8_clipOf : mw_NA yX8_clipOf cX8_clipOf 3 (some .int) 2 := ⟨⟨by decide +kernel, by decide +kernel, by decide +kernel⟩, tw_1228, tw_68⟩
theorem nc_RX8_158 : mw_NV RX8 158 8 yX8_clipOf cX8_clipOf 3 (some .int) 2 := ⟨na_X8_clipOf, ⟨TX8, _, rfl⟩, tw_1225, tw_1227, tw_38⟩
theorem na_X8_clipEnd : mw_NA yX8_clipEnd cX8_clipEnd 2 (some .int) 1 := ⟨⟨by decide +kernel, by decide +kernel, by decide +kernel⟩, tw_1240, tw_68⟩
theorem nc_RX8_161 : mw_NV RX8 161 8 yX8_clipEnd cX8_clipEnd 2 (some .int) 1 := ⟨na_X8_clipEnd, ⟨TX8, _, rfl⟩, tw_1237, tw_1239, tw_40⟩
theorem na_X8_applied : mw_NA yX8_applied cX8_applied 3 (some .int) 2 := ⟨⟨by decide +kernel, by decide +kernel, by decide +kernel⟩, tw_1247, tw_68⟩
theorem nc_RX8_164 : mw_NS RX8 164 yX8_applied cX8_applied 3 (some .int) 2 := ⟨na_X8_applied, tw_1245, tw_1246⟩
theorem na_X8_faded : mw_NA yX8_faded cX8_faded 5 (some .int) 4 := ⟨⟨by decide +kernel, by decide +kernel, by decide +kernel⟩, tw_1253, tw_68⟩
theorem nc_RX8_168 : mw_NS RX8 168 yX8_faded cX8_faded 5 (some .int) 4 := ⟨na_X8_faded, tw_1251, tw_1252⟩
theorem na_X8_raw : mw_NA yX8_raw cX8_raw 7 (some .int) 2 := ⟨⟨by decide +kernel, by decide +kernel, by decide +kernel⟩, tw_1244, tw_68⟩
theorem nc_RX8_175 : mw_NV RX8 175 8 yX8_raw cX8_raw 7 (some .int) 2 := ⟨na_X8_raw, ⟨TX8, _, rfl⟩, tw_1241, tw_1243, tw_41⟩
theorem na_X8_covers : mw_NA yX8_covers cX8_covers 3 (some .boolean) 2 := ⟨⟨by decide +kernel, by decide +kernel, by decide +kernel⟩, tw_1236, tw_68⟩
theorem nc_RX8_172 : mw_NV RX8 172 8 yX8_covers cX8_covers 3 (some .boolean) 2 := ⟨na_X8_covers, ⟨TX8, _, rfl⟩, tw_1233, tw_1235, tw_39⟩
theorem na_X8_pointsAhead : mw_NA yX8_pointsAhead cX8_pointsAhead 5 (some .int) 2 := ⟨⟨by decide +kernel, by decide +kernel, by decide +kernel⟩, tw_1271, tw_68⟩
theorem nc_RX8_182 : mw_NV RX8 182 8 yX8_pointsAhead cX8_pointsAhead 5 (some .int) 2 := ⟨na_X8_pointsAhead, ⟨TX8, _, rfl⟩, tw_1268, tw_1270, tw_43⟩
theorem na_X8_hasPoint : mw_NA yX8_hasPoint cX8_hasPoint 4 (some .boolean) 2 := ⟨⟨by decide +kernel, by decide +kernel, by decide +kernel⟩, tw_1267, tw_68⟩
theorem nc_RX8_185 : mw_NV RX8 185 8 yX8_hasPoint cX8_hasPoint 4 (some .boolean) 2 := ⟨na_X8_hasPoint, ⟨TX8, _, rfl⟩, tw_1264, tw_1266, tw_42⟩
theorem na_X8_laneAt : mw_NA yX8_laneAt cX8_laneAt 9 (some .int) 2 := ⟨⟨by decide +kernel, by decide +kernel, by decide +kernel⟩, tw_1283, tw_68⟩
theorem nc_RX8_188 : mw_NV RX8 188 8 yX8_laneAt cX8_laneAt 9 (some .int) 2 := ⟨na_X8_laneAt, ⟨TX8, _, rfl⟩, tw_1280, tw_1282, tw_44⟩
theorem na_X8_isKey : mw_NA yX8_isKey cX8_isKey 4 (some .boolean) 1 := ⟨⟨by decide +kernel, by decide +kernel, by decide +kernel⟩, tw_1292, tw_68⟩
theorem nc_RX8_193 : mw_NV RX8 193 8 yX8_isKey cX8_isKey 4 (some .boolean) 1 := ⟨na_X8_isKey, ⟨TX8, _, rfl⟩, tw_1289, tw_1291, tw_45⟩
theorem na_X8_dry : mw_NA yX8_dry cX8_dry 7 (some .int) 2 := ⟨⟨by decide +kernel, by decide +kernel, by decide +kernel⟩, tw_1312, tw_68⟩
theorem nc_RX8_196 : mw_NV RX8 196 8 yX8_dry cX8_dry 7 (some .int) 2 := ⟨na_X8_dry, ⟨TX8, _, rfl⟩, tw_1309, tw_1311, tw_48⟩
theorem na_X8_levelOf : mw_NA yX8_levelOf cX8_levelOf 7 (some .int) 2 := ⟨⟨by decide +kernel, by decide +kernel, by decide +kernel⟩, tw_1308, tw_68⟩
theorem nc_RX8_199 : mw_NV RX8 199 8 yX8_levelOf cX8_levelOf 7 (some .int) 2 := ⟨na_X8_levelOf, ⟨TX8, _, rfl⟩, tw_1305, tw_1307, tw_47⟩
theorem na_X8_laysDuck : mw_NA yX8_laysDuck cX8_laysDuck 10 none 2 := ⟨⟨by decide +kernel, by decide +kernel, by decide +kernel⟩, tw_1304, tw_68⟩
theorem nc_RX8_204 : mw_NV RX8 204 8 yX8_laysDuck cX8_laysDuck 10 none 2 := ⟨na_X8_laysDuck, ⟨TX8, _, rfl⟩, tw_1301, tw_1303, tw_46⟩
theorem na_X8_duckAt : mw_NA yX8_duckAt cX8_duckAt 5 (some .int) 2 := ⟨⟨by decide +kernel, by decide +kernel, by decide +kernel⟩, tw_1316, tw_68⟩
theorem nc_RX8_207 : mw_NV RX8 207 8 yX8_duckAt cX8_duckAt 5 (some .int) 2 := ⟨na_X8_duckAt, ⟨TX8, _, rfl⟩, tw_1313, tw_1315, tw_49⟩
theorem na_X8_valueAt : mw_NA yX8_valueAt cX8_valueAt 4 (some .int) 2 := ⟨⟨by decide +kernel, by decide +kernel, by decide +kernel⟩, tw_1325, tw_68⟩
theorem nc_RX8_210 : mw_NV RX8 210 8 yX8_valueAt cX8_valueAt 4 (some .int) 2 := ⟨na_X8_valueAt, ⟨TX8, _, rfl⟩, tw_1322, tw_1324, tw_50⟩
theorem na_X8_isHeard : mw_NA yX8_isHeard cX8_isHeard 4 (some .boolean) 1 := ⟨⟨by decide +kernel, by decide +kernel, by decide +kernel⟩, tw_1333, tw_68⟩
theorem nc_RX8_213 : mw_NV RX8 213 8 yX8_isHeard cX8_isHeard 4 (some .boolean) 1 := ⟨na_X8_isHeard, ⟨TX8, _, rfl⟩, tw_1330, tw_1332, tw_51⟩
theorem fl_RX8_216 : mw_F RX8 216 8 12 0 := ⟨RX8, TX8, _, mw_Cl8, by decide, by decide +kernel, tw_1041⟩
theorem fp_RX8_216 : mw_FP RX8 216 8 12 0 .int false := ⟨RX8, TX8, _, mw_Cl8, by decide, by decide +kernel, tw_1041, by decide +kernel, by decide +kernel⟩
theorem na_X8_limited : mw_NA yX8_limited cX8_limited 2 (some .int) 1 := ⟨⟨by decide +kernel, by decide +kernel, by decide +kernel⟩, tw_1353, tw_68⟩
theorem nc_RX8_219 : mw_NV RX8 219 8 yX8_limited cX8_limited 2 (some .int) 1 := ⟨na_X8_limited, ⟨TX8, _, rfl⟩, tw_1350, tw_1352, tw_54⟩
theorem fl_RX8_222 : mw_F RX8 222 8 10 0 := ⟨RX8, TX8, _, mw_Cl8, by decide, by decide +kernel, tw_1039⟩
theorem fp_RX8_222 : mw_FP RX8 222 8 10 0 .int false := ⟨RX8, TX8, _, mw_Cl8, by decide, by decide +kernel, tw_1039, by decide +kernel, by decide +kernel⟩
theorem fl_RX8_225 : mw_F RX8 225 8 11 0 := ⟨RX8, TX8, _, mw_Cl8, by decide, by decide +kernel, tw_1040⟩
theorem fp_RX8_225 : mw_FP RX8 225 8 11 0 .int false := ⟨RX8, TX8, _, mw_Cl8, by decide, by decide +kernel, tw_1040, by decide +kernel, by decide +kernel⟩
theorem na_X8_laysDucks : mw_NA yX8_laysDucks cX8_laysDucks 3 none 1 := ⟨⟨by decide +kernel, by decide +kernel, by decide +kernel⟩, tw_1345, tw_68⟩
theorem nc_RX8_228 : mw_NV RX8 228 8 yX8_laysDucks cX8_laysDucks 3 none 1 := ⟨na_X8_laysDucks, ⟨TX8, _, rfl⟩, tw_1342, tw_1344, tw_52⟩
theorem na_X8_mixes : mw_NA yX8_mixes cX8_mixes 10 none 1 := ⟨⟨by decide +kernel, by decide +kernel, by decide +kernel⟩, tw_1349, tw_68⟩
theorem nc_RX8_231 : mw_NV RX8 231 8 yX8_mixes cX8_mixes 10 none 1 := ⟨na_X8_mixes, ⟨TX8, _, rfl⟩, tw_1346, tw_1348, tw_53⟩
theorem na_X8_renders : mw_NA yX8_renders cX8_renders 3 none 0 := ⟨⟨by decide +kernel, by decide +kernel, by decide +kernel⟩, tw_1369, tw_68⟩
theorem nc_RX8_236 : mw_NV RX8 236 8 yX8_renders cX8_renders 3 none 0 := ⟨na_X8_renders, ⟨TX8, _, rfl⟩, tw_1366, tw_1368, tw_55⟩
theorem na_X8_meterOf : mw_NA yX8_meterOf cX8_meterOf 2 (some .long) 1 := ⟨⟨by decide +kernel, by decide +kernel, by decide +kernel⟩, tw_1379, tw_68⟩
theorem nc_RX8_241 : mw_NV RX8 241 8 yX8_meterOf cX8_meterOf 2 (some .long) 1 := ⟨na_X8_meterOf, ⟨TX8, _, rfl⟩, tw_1376, tw_1378, tw_56⟩
theorem fl_RX8_245 : mw_F RX8 245 8 13 1 := ⟨RX8, TX8, _, mw_Cl8, by decide, by decide +kernel, tw_1042⟩
theorem fp_RX8_245 : mw_FP RX8 245 8 13 1 .long false := ⟨RX8, TX8, _, mw_Cl8, by decide, by decide +kernel, tw_1042, by decide +kernel, by decide +kernel⟩
theorem na_X8_hashes : mw_NA yX8_hashes cX8_hashes 3 none 1 := ⟨⟨by decide +kernel, by decide +kernel, by decide +kernel⟩, tw_1400, tw_68⟩
theorem nc_RX8_248 : mw_NV RX8 248 8 yX8_hashes cX8_hashes 3 none 1 := ⟨na_X8_hashes, ⟨TX8, _, rfl⟩, tw_1397, tw_1399, tw_57⟩
theorem na_X8_hashesRow : mw_NA yX8_hashesRow cX8_hashesRow 4 none 2 := ⟨⟨by decide +kernel, by decide +kernel, by decide +kernel⟩, tw_1404, tw_68⟩
theorem nc_RX8_254 : mw_NV RX8 254 8 yX8_hashesRow cX8_hashesRow 4 none 2 := ⟨na_X8_hashesRow, ⟨TX8, _, rfl⟩, tw_1401, tw_1403, tw_58⟩
