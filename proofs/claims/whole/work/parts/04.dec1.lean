set_option maxRecDepth 100000 in
theorem DX0_init_0 : decode cX0_init 0 = .ok (.aload_n 0, 1) ∧ decode cX0_init 1 = .ok (.invokespecial 3, 3) ∧ decode cX0_init 4 = .ok (.return_, 1) := by decide +kernel
theorem dX0_init_0 : decode cX0_init 0 = .ok (.aload_n 0, 1) := DX0_init_0.1
theorem dX0_init_1 : decode cX0_init 1 = .ok (.invokespecial 3, 3) := DX0_init_0.2.1
theorem dX0_init_4 : decode cX0_init 4 = .ok (.return_, 1) := DX0_init_0.2.2
set_option maxRecDepth 100000 in
theorem DX0_fade_0 : decode cX0_fade 0 = .ok (.aload_n 0, 1) ∧ decode cX0_fade 1 = .ok (.iload_n 1, 1) ∧ decode cX0_fade 2 = .ok (.putfield 9, 3) ∧ decode cX0_fade 5 = .ok (.aload_n 0, 1) ∧ decode cX0_fade 6 = .ok (.iload_n 2, 1) ∧ decode cX0_fade 7 = .ok (.putfield 15, 3) ∧ decode cX0_fade 10 = .ok (.aload_n 0, 1) ∧ decode cX0_fade 11 = .ok (.iload_n 3, 1) ∧ decode cX0_fade 12 = .ok (.putfield 18, 3) ∧ decode cX0_fade 15 = .ok (.return_, 1) := by decide +kernel
theorem dX0_fade_0 : decode cX0_fade 0 = .ok (.aload_n 0, 1) := DX0_fade_0.1
theorem dX0_fade_1 : decode cX0_fade 1 = .ok (.iload_n 1, 1) := DX0_fade_0.2.1
theorem dX0_fade_2 : decode cX0_fade 2 = .ok (.putfield 9, 3) := DX0_fade_0.2.2.1
theorem dX0_fade_5 : decode cX0_fade 5 = .ok (.aload_n 0, 1) := DX0_fade_0.2.2.2.1
theorem dX0_fade_6 : decode cX0_fade 6 = .ok (.iload_n 2, 1) := DX0_fade_0.2.2.2.2.1
theorem dX0_fade_7 : decode cX0_fade 7 = .ok (.putfield 15, 3) := DX0_fade_0.2.2.2.2.2.1
theorem dX0_fade_10 : decode cX0_fade 10 = .ok (.aload_n 0, 1) := DX0_fade_0.2.2.2.2.2.2.1
theorem dX0_fade_11 : decode cX0_fade 11 = .ok (.iload_n 3, 1) := DX0_fade_0.2.2.2.2.2.2.2.1
theorem dX0_fade_12 : decode cX0_fade 12 = .ok (.putfield 18, 3) := DX0_fade_0.2.2.2.2.2.2.2.2.1
theorem dX0_fade_15 : decode cX0_fade 15 = .ok (.return_, 1) := DX0_fade_0.2.2.2.2.2.2.2.2.2
set_option maxRecDepth 100000 in
theorem DX0_place_0 : decode cX0_place 0 = .ok (.aload_n 0, 1) ∧ decode cX0_place 1 = .ok (.iload_n 1, 1) ∧ decode cX0_place 2 = .ok (.putfield 21, 3) ∧ decode cX0_place 5 = .ok (.aload_n 0, 1) ∧ decode cX0_place 6 = .ok (.iload_n 2, 1) ∧ decode cX0_place 7 = .ok (.putfield 24, 3) ∧ decode cX0_place 10 = .ok (.aload_n 0, 1) ∧ decode cX0_place 11 = .ok (.iload_n 3, 1) ∧ decode cX0_place 12 = .ok (.putfield 27, 3) ∧ decode cX0_place 15 = .ok (.return_, 1) := by decide +kernel
theorem dX0_place_0 : decode cX0_place 0 = .ok (.aload_n 0, 1) := DX0_place_0.1
theorem dX0_place_1 : decode cX0_place 1 = .ok (.iload_n 1, 1) := DX0_place_0.2.1
theorem dX0_place_2 : decode cX0_place 2 = .ok (.putfield 21, 3) := DX0_place_0.2.2.1
theorem dX0_place_5 : decode cX0_place 5 = .ok (.aload_n 0, 1) := DX0_place_0.2.2.2.1
theorem dX0_place_6 : decode cX0_place 6 = .ok (.iload_n 2, 1) := DX0_place_0.2.2.2.2.1
theorem dX0_place_7 : decode cX0_place 7 = .ok (.putfield 24, 3) := DX0_place_0.2.2.2.2.2.1
theorem dX0_place_10 : decode cX0_place 10 = .ok (.aload_n 0, 1) := DX0_place_0.2.2.2.2.2.2.1
theorem dX0_place_11 : decode cX0_place 11 = .ok (.iload_n 3, 1) := DX0_place_0.2.2.2.2.2.2.2.1
theorem dX0_place_12 : decode cX0_place 12 = .ok (.putfield 27, 3) := DX0_place_0.2.2.2.2.2.2.2.2.1
theorem dX0_place_15 : decode cX0_place 15 = .ok (.return_, 1) := DX0_place_0.2.2.2.2.2.2.2.2.2
set_option maxRecDepth 100000 in
theorem DX0_play_0 : decode cX0_play 0 = .ok (.aload_n 0, 1) ∧ decode cX0_play 1 = .ok (.iload_n 1, 1) ∧ decode cX0_play 2 = .ok (.putfield 30, 3) ∧ decode cX0_play 5 = .ok (.aload_n 0, 1) ∧ decode cX0_play 6 = .ok (.iload_n 2, 1) ∧ decode cX0_play 7 = .ok (.putfield 33, 3) ∧ decode cX0_play 10 = .ok (.aload_n 0, 1) ∧ decode cX0_play 11 = .ok (.iload_n 3, 1) ∧ decode cX0_play 12 = .ok (.putfield 36, 3) ∧ decode cX0_play 15 = .ok (.return_, 1) := by decide +kernel
theorem dX0_play_0 : decode cX0_play 0 = .ok (.aload_n 0, 1) := DX0_play_0.1
theorem dX0_play_1 : decode cX0_play 1 = .ok (.iload_n 1, 1) := DX0_play_0.2.1
theorem dX0_play_2 : decode cX0_play 2 = .ok (.putfield 30, 3) := DX0_play_0.2.2.1
theorem dX0_play_5 : decode cX0_play 5 = .ok (.aload_n 0, 1) := DX0_play_0.2.2.2.1
theorem dX0_play_6 : decode cX0_play 6 = .ok (.iload_n 2, 1) := DX0_play_0.2.2.2.2.1
theorem dX0_play_7 : decode cX0_play 7 = .ok (.putfield 33, 3) := DX0_play_0.2.2.2.2.2.1
theorem dX0_play_10 : decode cX0_play 10 = .ok (.aload_n 0, 1) := DX0_play_0.2.2.2.2.2.2.1
theorem dX0_play_11 : decode cX0_play 11 = .ok (.iload_n 3, 1) := DX0_play_0.2.2.2.2.2.2.2.1
theorem dX0_play_12 : decode cX0_play 12 = .ok (.putfield 36, 3) := DX0_play_0.2.2.2.2.2.2.2.2.1
theorem dX0_play_15 : decode cX0_play 15 = .ok (.return_, 1) := DX0_play_0.2.2.2.2.2.2.2.2.2
set_option maxRecDepth 100000 in
theorem DX0_takeFrom_0 : decode cX0_takeFrom 0 = .ok (.aload_n 0, 1) ∧ decode cX0_takeFrom 1 = .ok (.aload_n 1, 1) ∧ decode cX0_takeFrom 2 = .ok (.getfield 21, 3) ∧ decode cX0_takeFrom 5 = .ok (.aload_n 1, 1) ∧ decode cX0_takeFrom 6 = .ok (.getfield 24, 3) ∧ decode cX0_takeFrom 9 = .ok (.aload_n 1, 1) ∧ decode cX0_takeFrom 10 = .ok (.getfield 27, 3) ∧ decode cX0_takeFrom 13 = .ok (.invokevirtual 39, 3) ∧ decode cX0_takeFrom 16 = .ok (.aload_n 0, 1) ∧ decode cX0_takeFrom 17 = .ok (.aload_n 1, 1) := by decide +kernel
theorem dX0_takeFrom_0 : decode cX0_takeFrom 0 = .ok (.aload_n 0, 1) := DX0_takeFrom_0.1
theorem dX0_takeFrom_1 : decode cX0_takeFrom 1 = .ok (.aload_n 1, 1) := DX0_takeFrom_0.2.1
theorem dX0_takeFrom_2 : decode cX0_takeFrom 2 = .ok (.getfield 21, 3) := DX0_takeFrom_0.2.2.1
theorem dX0_takeFrom_5 : decode cX0_takeFrom 5 = .ok (.aload_n 1, 1) := DX0_takeFrom_0.2.2.2.1
theorem dX0_takeFrom_6 : decode cX0_takeFrom 6 = .ok (.getfield 24, 3) := DX0_takeFrom_0.2.2.2.2.1
theorem dX0_takeFrom_9 : decode cX0_takeFrom 9 = .ok (.aload_n 1, 1) := DX0_takeFrom_0.2.2.2.2.2.1
theorem dX0_takeFrom_10 : decode cX0_takeFrom 10 = .ok (.getfield 27, 3) := DX0_takeFrom_0.2.2.2.2.2.2.1
theorem dX0_takeFrom_13 : decode cX0_takeFrom 13 = .ok (.invokevirtual 39, 3) := DX0_takeFrom_0.2.2.2.2.2.2.2.1
theorem dX0_takeFrom_16 : decode cX0_takeFrom 16 = .ok (.aload_n 0, 1) := DX0_takeFrom_0.2.2.2.2.2.2.2.2.1
theorem dX0_takeFrom_17 : decode cX0_takeFrom 17 = .ok (.aload_n 1, 1) := DX0_takeFrom_0.2.2.2.2.2.2.2.2.2
set_option maxRecDepth 100000 in
theorem DX0_takeFrom_1 : decode cX0_takeFrom 18 = .ok (.getfield 30, 3) ∧ decode cX0_takeFrom 21 = .ok (.aload_n 1, 1) ∧ decode cX0_takeFrom 22 = .ok (.getfield 33, 3) ∧ decode cX0_takeFrom 25 = .ok (.aload_n 1, 1) ∧ decode cX0_takeFrom 26 = .ok (.getfield 36, 3) ∧ decode cX0_takeFrom 29 = .ok (.invokevirtual 43, 3) ∧ decode cX0_takeFrom 32 = .ok (.aload_n 0, 1) ∧ decode cX0_takeFrom 33 = .ok (.aload_n 1, 1) ∧ decode cX0_takeFrom 34 = .ok (.getfield 9, 3) ∧ decode cX0_takeFrom 37 = .ok (.aload_n 1, 1) := by decide +kernel
theorem dX0_takeFrom_18 : decode cX0_takeFrom 18 = .ok (.getfield 30, 3) := DX0_takeFrom_1.1
theorem dX0_takeFrom_21 : decode cX0_takeFrom 21 = .ok (.aload_n 1, 1) := DX0_takeFrom_1.2.1
theorem dX0_takeFrom_22 : decode cX0_takeFrom 22 = .ok (.getfield 33, 3) := DX0_takeFrom_1.2.2.1
theorem dX0_takeFrom_25 : decode cX0_takeFrom 25 = .ok (.aload_n 1, 1) := DX0_takeFrom_1.2.2.2.1
theorem dX0_takeFrom_26 : decode cX0_takeFrom 26 = .ok (.getfield 36, 3) := DX0_takeFrom_1.2.2.2.2.1
theorem dX0_takeFrom_29 : decode cX0_takeFrom 29 = .ok (.invokevirtual 43, 3) := DX0_takeFrom_1.2.2.2.2.2.1
theorem dX0_takeFrom_32 : decode cX0_takeFrom 32 = .ok (.aload_n 0, 1) := DX0_takeFrom_1.2.2.2.2.2.2.1
theorem dX0_takeFrom_33 : decode cX0_takeFrom 33 = .ok (.aload_n 1, 1) := DX0_takeFrom_1.2.2.2.2.2.2.2.1
theorem dX0_takeFrom_34 : decode cX0_takeFrom 34 = .ok (.getfield 9, 3) := DX0_takeFrom_1.2.2.2.2.2.2.2.2.1
theorem dX0_takeFrom_37 : decode cX0_takeFrom 37 = .ok (.aload_n 1, 1) := DX0_takeFrom_1.2.2.2.2.2.2.2.2.2
set_option maxRecDepth 100000 in
theorem DX0_takeFrom_2 : decode cX0_takeFrom 38 = .ok (.getfield 15, 3) ∧ decode cX0_takeFrom 41 = .ok (.aload_n 1, 1) ∧ decode cX0_takeFrom 42 = .ok (.getfield 18, 3) ∧ decode cX0_takeFrom 45 = .ok (.invokevirtual 46, 3) ∧ decode cX0_takeFrom 48 = .ok (.return_, 1) := by decide +kernel
theorem dX0_takeFrom_38 : decode cX0_takeFrom 38 = .ok (.getfield 15, 3) := DX0_takeFrom_2.1
theorem dX0_takeFrom_41 : decode cX0_takeFrom 41 = .ok (.aload_n 1, 1) := DX0_takeFrom_2.2.1
theorem dX0_takeFrom_42 : decode cX0_takeFrom 42 = .ok (.getfield 18, 3) := DX0_takeFrom_2.2.2.1
theorem dX0_takeFrom_45 : decode cX0_takeFrom 45 = .ok (.invokevirtual 46, 3) := DX0_takeFrom_2.2.2.2.1
theorem dX0_takeFrom_48 : decode cX0_takeFrom 48 = .ok (.return_, 1) := DX0_takeFrom_2.2.2.2.2
set_option maxRecDepth 100000 in
theorem DX0_end_0 : decode cX0_end 0 = .ok (.aload_n 0, 1) ∧ decode cX0_end 1 = .ok (.getfield 24, 3) ∧ decode cX0_end 4 = .ok (.aload_n 0, 1) ∧ decode cX0_end 5 = .ok (.getfield 27, 3) ∧ decode cX0_end 8 = .ok (.iadd, 1) ∧ decode cX0_end 9 = .ok (.ireturn, 1) := by decide +kernel
theorem dX0_end_0 : decode cX0_end 0 = .ok (.aload_n 0, 1) := DX0_end_0.1
theorem dX0_end_1 : decode cX0_end 1 = .ok (.getfield 24, 3) := DX0_end_0.2.1
theorem dX0_end_4 : decode cX0_end 4 = .ok (.aload_n 0, 1) := DX0_end_0.2.2.1
theorem dX0_end_5 : decode cX0_end 5 = .ok (.getfield 27, 3) := DX0_end_0.2.2.2.1
theorem dX0_end_8 : decode cX0_end 8 = .ok (.iadd, 1) := DX0_end_0.2.2.2.2.1
theorem dX0_end_9 : decode cX0_end 9 = .ok (.ireturn, 1) := DX0_end_0.2.2.2.2.2
set_option maxRecDepth 100000 in
theorem DX0_covers_0 : decode cX0_covers 0 = .ok (.iload_n 1, 1) ∧ decode cX0_covers 1 = .ok (.aload_n 0, 1) ∧ decode cX0_covers 2 = .ok (.getfield 24, 3) ∧ decode cX0_covers 5 = .ok (.if_icmp .lt 20, 3) ∧ decode cX0_covers 8 = .ok (.iload_n 1, 1) ∧ decode cX0_covers 9 = .ok (.aload_n 0, 1) ∧ decode cX0_covers 10 = .ok (.getfield 24, 3) ∧ decode cX0_covers 13 = .ok (.aload_n 0, 1) ∧ decode cX0_covers 14 = .ok (.getfield 27, 3) ∧ decode cX0_covers 17 = .ok (.iadd, 1) := by decide +kernel
theorem dX0_covers_0 : decode cX0_covers 0 = .ok (.iload_n 1, 1) := DX0_covers_0.1
theorem dX0_covers_1 : decode cX0_covers 1 = .ok (.aload_n 0, 1) := DX0_covers_0.2.1
theorem dX0_covers_2 : decode cX0_covers 2 = .ok (.getfield 24, 3) := DX0_covers_0.2.2.1
theorem dX0_covers_5 : decode cX0_covers 5 = .ok (.if_icmp .lt 20, 3) := DX0_covers_0.2.2.2.1
theorem dX0_covers_8 : decode cX0_covers 8 = .ok (.iload_n 1, 1) := DX0_covers_0.2.2.2.2.1
theorem dX0_covers_9 : decode cX0_covers 9 = .ok (.aload_n 0, 1) := DX0_covers_0.2.2.2.2.2.1
theorem dX0_covers_10 : decode cX0_covers 10 = .ok (.getfield 24, 3) := DX0_covers_0.2.2.2.2.2.2.1
theorem dX0_covers_13 : decode cX0_covers 13 = .ok (.aload_n 0, 1) := DX0_covers_0.2.2.2.2.2.2.2.1
theorem dX0_covers_14 : decode cX0_covers 14 = .ok (.getfield 27, 3) := DX0_covers_0.2.2.2.2.2.2.2.2.1
theorem dX0_covers_17 : decode cX0_covers 17 = .ok (.iadd, 1) := DX0_covers_0.2.2.2.2.2.2.2.2.2
set_option maxRecDepth 100000 in
theorem DX0_covers_1 : decode cX0_covers 18 = .ok (.if_icmp .ge 7, 3) ∧ decode cX0_covers 21 = .ok (.iconst 1, 1) ∧ decode cX0_covers 22 = .ok (.goto 4, 3) ∧ decode cX0_covers 25 = .ok (.iconst 0, 1) ∧ decode cX0_covers 26 = .ok (.ireturn, 1) := by decide +kernel
theorem dX0_covers_18 : decode cX0_covers 18 = .ok (.if_icmp .ge 7, 3) := DX0_covers_1.1
theorem dX0_covers_21 : decode cX0_covers 21 = .ok (.iconst 1, 1) := DX0_covers_1.2.1
theorem dX0_covers_22 : decode cX0_covers 22 = .ok (.goto 4, 3) := DX0_covers_1.2.2.1
theorem dX0_covers_25 : decode cX0_covers 25 = .ok (.iconst 0, 1) := DX0_covers_1.2.2.2.1
theorem dX0_covers_26 : decode cX0_covers 26 = .ok (.ireturn, 1) := DX0_covers_1.2.2.2.2
set_option maxRecDepth 100000 in
theorem DX0_isBefore_0 : decode cX0_isBefore 0 = .ok (.aload_n 0, 1) ∧ decode cX0_isBefore 1 = .ok (.getfield 21, 3) ∧ decode cX0_isBefore 4 = .ok (.aload_n 1, 1) ∧ decode cX0_isBefore 5 = .ok (.getfield 21, 3) ∧ decode cX0_isBefore 8 = .ok (.if_icmp .eq 22, 3) ∧ decode cX0_isBefore 11 = .ok (.aload_n 0, 1) ∧ decode cX0_isBefore 12 = .ok (.getfield 21, 3) ∧ decode cX0_isBefore 15 = .ok (.aload_n 1, 1) ∧ decode cX0_isBefore 16 = .ok (.getfield 21, 3) ∧ decode cX0_isBefore 19 = .ok (.if_icmp .ge 7, 3) := by decide +kernel
theorem dX0_isBefore_0 : decode cX0_isBefore 0 = .ok (.aload_n 0, 1) := DX0_isBefore_0.1
theorem dX0_isBefore_1 : decode cX0_isBefore 1 = .ok (.getfield 21, 3) := DX0_isBefore_0.2.1
theorem dX0_isBefore_4 : decode cX0_isBefore 4 = .ok (.aload_n 1, 1) := DX0_isBefore_0.2.2.1
theorem dX0_isBefore_5 : decode cX0_isBefore 5 = .ok (.getfield 21, 3) := DX0_isBefore_0.2.2.2.1
theorem dX0_isBefore_8 : decode cX0_isBefore 8 = .ok (.if_icmp .eq 22, 3) := DX0_isBefore_0.2.2.2.2.1
theorem dX0_isBefore_11 : decode cX0_isBefore 11 = .ok (.aload_n 0, 1) := DX0_isBefore_0.2.2.2.2.2.1
theorem dX0_isBefore_12 : decode cX0_isBefore 12 = .ok (.getfield 21, 3) := DX0_isBefore_0.2.2.2.2.2.2.1
theorem dX0_isBefore_15 : decode cX0_isBefore 15 = .ok (.aload_n 1, 1) := DX0_isBefore_0.2.2.2.2.2.2.2.1
theorem dX0_isBefore_16 : decode cX0_isBefore 16 = .ok (.getfield 21, 3) := DX0_isBefore_0.2.2.2.2.2.2.2.2.1
theorem dX0_isBefore_19 : decode cX0_isBefore 19 = .ok (.if_icmp .ge 7, 3) := DX0_isBefore_0.2.2.2.2.2.2.2.2.2
set_option maxRecDepth 100000 in
theorem DX0_isBefore_1 : decode cX0_isBefore 22 = .ok (.iconst 1, 1) ∧ decode cX0_isBefore 23 = .ok (.goto 23, 3) ∧ decode cX0_isBefore 26 = .ok (.iconst 0, 1) ∧ decode cX0_isBefore 27 = .ok (.goto 19, 3) ∧ decode cX0_isBefore 30 = .ok (.aload_n 0, 1) ∧ decode cX0_isBefore 31 = .ok (.getfield 24, 3) ∧ decode cX0_isBefore 34 = .ok (.aload_n 1, 1) ∧ decode cX0_isBefore 35 = .ok (.getfield 24, 3) ∧ decode cX0_isBefore 38 = .ok (.if_icmp .ge 7, 3) ∧ decode cX0_isBefore 41 = .ok (.iconst 1, 1) := by decide +kernel
theorem dX0_isBefore_22 : decode cX0_isBefore 22 = .ok (.iconst 1, 1) := DX0_isBefore_1.1
theorem dX0_isBefore_23 : decode cX0_isBefore 23 = .ok (.goto 23, 3) := DX0_isBefore_1.2.1
theorem dX0_isBefore_26 : decode cX0_isBefore 26 = .ok (.iconst 0, 1) := DX0_isBefore_1.2.2.1
theorem dX0_isBefore_27 : decode cX0_isBefore 27 = .ok (.goto 19, 3) := DX0_isBefore_1.2.2.2.1
theorem dX0_isBefore_30 : decode cX0_isBefore 30 = .ok (.aload_n 0, 1) := DX0_isBefore_1.2.2.2.2.1
theorem dX0_isBefore_31 : decode cX0_isBefore 31 = .ok (.getfield 24, 3) := DX0_isBefore_1.2.2.2.2.2.1
theorem dX0_isBefore_34 : decode cX0_isBefore 34 = .ok (.aload_n 1, 1) := DX0_isBefore_1.2.2.2.2.2.2.1
theorem dX0_isBefore_35 : decode cX0_isBefore 35 = .ok (.getfield 24, 3) := DX0_isBefore_1.2.2.2.2.2.2.2.1
theorem dX0_isBefore_38 : decode cX0_isBefore 38 = .ok (.if_icmp .ge 7, 3) := DX0_isBefore_1.2.2.2.2.2.2.2.2.1
theorem dX0_isBefore_41 : decode cX0_isBefore 41 = .ok (.iconst 1, 1) := DX0_isBefore_1.2.2.2.2.2.2.2.2.2
set_option maxRecDepth 100000 in
theorem DX0_isBefore_2 : decode cX0_isBefore 42 = .ok (.goto 4, 3) ∧ decode cX0_isBefore 45 = .ok (.iconst 0, 1) ∧ decode cX0_isBefore 46 = .ok (.ireturn, 1) := by decide +kernel
theorem dX0_isBefore_42 : decode cX0_isBefore 42 = .ok (.goto 4, 3) := DX0_isBefore_2.1
theorem dX0_isBefore_45 : decode cX0_isBefore 45 = .ok (.iconst 0, 1) := DX0_isBefore_2.2.1
theorem dX0_isBefore_46 : decode cX0_isBefore 46 = .ok (.ireturn, 1) := DX0_isBefore_2.2.2
set_option maxRecDepth 100000 in
theorem DX0_trim_0 : decode cX0_trim 0 = .ok (.aload_n 0, 1) ∧ decode cX0_trim 1 = .ok (.dup, 1) ∧ decode cX0_trim 2 = .ok (.getfield 24, 3) ∧ decode cX0_trim 5 = .ok (.iload_n 1, 1) ∧ decode cX0_trim 6 = .ok (.iadd, 1) ∧ decode cX0_trim 7 = .ok (.putfield 24, 3) ∧ decode cX0_trim 10 = .ok (.aload_n 0, 1) ∧ decode cX0_trim 11 = .ok (.dup, 1) ∧ decode cX0_trim 12 = .ok (.getfield 33, 3) ∧ decode cX0_trim 15 = .ok (.iload_n 1, 1) := by decide +kernel
theorem dX0_trim_0 : decode cX0_trim 0 = .ok (.aload_n 0, 1) := DX0_trim_0.1
theorem dX0_trim_1 : decode cX0_trim 1 = .ok (.dup, 1) := DX0_trim_0.2.1
theorem dX0_trim_2 : decode cX0_trim 2 = .ok (.getfield 24, 3) := DX0_trim_0.2.2.1
theorem dX0_trim_5 : decode cX0_trim 5 = .ok (.iload_n 1, 1) := DX0_trim_0.2.2.2.1
theorem dX0_trim_6 : decode cX0_trim 6 = .ok (.iadd, 1) := DX0_trim_0.2.2.2.2.1
theorem dX0_trim_7 : decode cX0_trim 7 = .ok (.putfield 24, 3) := DX0_trim_0.2.2.2.2.2.1
theorem dX0_trim_10 : decode cX0_trim 10 = .ok (.aload_n 0, 1) := DX0_trim_0.2.2.2.2.2.2.1
theorem dX0_trim_11 : decode cX0_trim 11 = .ok (.dup, 1) := DX0_trim_0.2.2.2.2.2.2.2.1
theorem dX0_trim_12 : decode cX0_trim 12 = .ok (.getfield 33, 3) := DX0_trim_0.2.2.2.2.2.2.2.2.1
theorem dX0_trim_15 : decode cX0_trim 15 = .ok (.iload_n 1, 1) := DX0_trim_0.2.2.2.2.2.2.2.2.2
set_option maxRecDepth 100000 in
theorem DX0_trim_1 : decode cX0_trim 16 = .ok (.iadd, 1) ∧ decode cX0_trim 17 = .ok (.putfield 33, 3) ∧ decode cX0_trim 20 = .ok (.aload_n 0, 1) ∧ decode cX0_trim 21 = .ok (.dup, 1) ∧ decode cX0_trim 22 = .ok (.getfield 27, 3) ∧ decode cX0_trim 25 = .ok (.iload_n 1, 1) ∧ decode cX0_trim 26 = .ok (.iload_n 2, 1) ∧ decode cX0_trim 27 = .ok (.iadd, 1) ∧ decode cX0_trim 28 = .ok (.isub, 1) ∧ decode cX0_trim 29 = .ok (.putfield 27, 3) := by decide +kernel
theorem dX0_trim_16 : decode cX0_trim 16 = .ok (.iadd, 1) := DX0_trim_1.1
theorem dX0_trim_17 : decode cX0_trim 17 = .ok (.putfield 33, 3) := DX0_trim_1.2.1
theorem dX0_trim_20 : decode cX0_trim 20 = .ok (.aload_n 0, 1) := DX0_trim_1.2.2.1
theorem dX0_trim_21 : decode cX0_trim 21 = .ok (.dup, 1) := DX0_trim_1.2.2.2.1
theorem dX0_trim_22 : decode cX0_trim 22 = .ok (.getfield 27, 3) := DX0_trim_1.2.2.2.2.1
theorem dX0_trim_25 : decode cX0_trim 25 = .ok (.iload_n 1, 1) := DX0_trim_1.2.2.2.2.2.1
theorem dX0_trim_26 : decode cX0_trim 26 = .ok (.iload_n 2, 1) := DX0_trim_1.2.2.2.2.2.2.1
theorem dX0_trim_27 : decode cX0_trim 27 = .ok (.iadd, 1) := DX0_trim_1.2.2.2.2.2.2.2.1
theorem dX0_trim_28 : decode cX0_trim 28 = .ok (.isub, 1) := DX0_trim_1.2.2.2.2.2.2.2.2.1
theorem dX0_trim_29 : decode cX0_trim 29 = .ok (.putfield 27, 3) := DX0_trim_1.2.2.2.2.2.2.2.2.2
set_option maxRecDepth 100000 in
theorem DX0_trim_2 : decode cX0_trim 32 = .ok (.aload_n 0, 1) ∧ decode cX0_trim 33 = .ok (.aload_n 0, 1) ∧ decode cX0_trim 34 = .ok (.getfield 9, 3) ∧ decode cX0_trim 37 = .ok (.aload_n 0, 1) ∧ decode cX0_trim 38 = .ok (.getfield 27, 3) ∧ decode cX0_trim 41 = .ok (.invokestatic 49, 3) ∧ decode cX0_trim 44 = .ok (.putfield 9, 3) ∧ decode cX0_trim 47 = .ok (.aload_n 0, 1) ∧ decode cX0_trim 48 = .ok (.aload_n 0, 1) ∧ decode cX0_trim 49 = .ok (.getfield 15, 3) := by decide +kernel
theorem dX0_trim_32 : decode cX0_trim 32 = .ok (.aload_n 0, 1) := DX0_trim_2.1
theorem dX0_trim_33 : decode cX0_trim 33 = .ok (.aload_n 0, 1) := DX0_trim_2.2.1
theorem dX0_trim_34 : decode cX0_trim 34 = .ok (.getfield 9, 3) := DX0_trim_2.2.2.1
theorem dX0_trim_37 : decode cX0_trim 37 = .ok (.aload_n 0, 1) := DX0_trim_2.2.2.2.1
theorem dX0_trim_38 : decode cX0_trim 38 = .ok (.getfield 27, 3) := DX0_trim_2.2.2.2.2.1
theorem dX0_trim_41 : decode cX0_trim 41 = .ok (.invokestatic 49, 3) := DX0_trim_2.2.2.2.2.2.1
theorem dX0_trim_44 : decode cX0_trim 44 = .ok (.putfield 9, 3) := DX0_trim_2.2.2.2.2.2.2.1
theorem dX0_trim_47 : decode cX0_trim 47 = .ok (.aload_n 0, 1) := DX0_trim_2.2.2.2.2.2.2.2.1
theorem dX0_trim_48 : decode cX0_trim 48 = .ok (.aload_n 0, 1) := DX0_trim_2.2.2.2.2.2.2.2.2.1
theorem dX0_trim_49 : decode cX0_trim 49 = .ok (.getfield 15, 3) := DX0_trim_2.2.2.2.2.2.2.2.2.2
set_option maxRecDepth 100000 in
theorem DX0_trim_3 : decode cX0_trim 52 = .ok (.aload_n 0, 1) ∧ decode cX0_trim 53 = .ok (.getfield 27, 3) ∧ decode cX0_trim 56 = .ok (.invokestatic 49, 3) ∧ decode cX0_trim 59 = .ok (.putfield 15, 3) ∧ decode cX0_trim 62 = .ok (.return_, 1) := by decide +kernel
theorem dX0_trim_52 : decode cX0_trim 52 = .ok (.aload_n 0, 1) := DX0_trim_3.1
theorem dX0_trim_53 : decode cX0_trim 53 = .ok (.getfield 27, 3) := DX0_trim_3.2.1
theorem dX0_trim_56 : decode cX0_trim 56 = .ok (.invokestatic 49, 3) := DX0_trim_3.2.2.1
theorem dX0_trim_59 : decode cX0_trim 59 = .ok (.putfield 15, 3) := DX0_trim_3.2.2.2.1
theorem dX0_trim_62 : decode cX0_trim 62 = .ok (.return_, 1) := DX0_trim_3.2.2.2.2
set_option maxRecDepth 100000 in
theorem DX0_loseStretch_0 : decode cX0_loseStretch 0 = .ok (.aload_n 0, 1) ∧ decode cX0_loseStretch 1 = .ok (.getfield 24, 3) ∧ decode cX0_loseStretch 4 = .ok (.iload_n 1, 1) ∧ decode cX0_loseStretch 5 = .ok (.if_icmp .ge 23, 3) ∧ decode cX0_loseStretch 8 = .ok (.aload_n 0, 1) ∧ decode cX0_loseStretch 9 = .ok (.invokevirtual 55, 3) ∧ decode cX0_loseStretch 12 = .ok (.iload_n 1, 1) ∧ decode cX0_loseStretch 13 = .ok (.if_icmp .le 14, 3) ∧ decode cX0_loseStretch 16 = .ok (.aload_n 0, 1) ∧ decode cX0_loseStretch 17 = .ok (.iconst 0, 1) := by decide +kernel
theorem dX0_loseStretch_0 : decode cX0_loseStretch 0 = .ok (.aload_n 0, 1) := DX0_loseStretch_0.1
theorem dX0_loseStretch_1 : decode cX0_loseStretch 1 = .ok (.getfield 24, 3) := DX0_loseStretch_0.2.1
theorem dX0_loseStretch_4 : decode cX0_loseStretch 4 = .ok (.iload_n 1, 1) := DX0_loseStretch_0.2.2.1
theorem dX0_loseStretch_5 : decode cX0_loseStretch 5 = .ok (.if_icmp .ge 23, 3) := DX0_loseStretch_0.2.2.2.1
theorem dX0_loseStretch_8 : decode cX0_loseStretch 8 = .ok (.aload_n 0, 1) := DX0_loseStretch_0.2.2.2.2.1
theorem dX0_loseStretch_9 : decode cX0_loseStretch 9 = .ok (.invokevirtual 55, 3) := DX0_loseStretch_0.2.2.2.2.2.1
theorem dX0_loseStretch_12 : decode cX0_loseStretch 12 = .ok (.iload_n 1, 1) := DX0_loseStretch_0.2.2.2.2.2.2.1
theorem dX0_loseStretch_13 : decode cX0_loseStretch 13 = .ok (.if_icmp .le 14, 3) := DX0_loseStretch_0.2.2.2.2.2.2.2.1
theorem dX0_loseStretch_16 : decode cX0_loseStretch 16 = .ok (.aload_n 0, 1) := DX0_loseStretch_0.2.2.2.2.2.2.2.2.1
theorem dX0_loseStretch_17 : decode cX0_loseStretch 17 = .ok (.iconst 0, 1) := DX0_loseStretch_0.2.2.2.2.2.2.2.2.2
set_option maxRecDepth 100000 in
theorem DX0_loseStretch_1 : decode cX0_loseStretch 18 = .ok (.aload_n 0, 1) ∧ decode cX0_loseStretch 19 = .ok (.invokevirtual 55, 3) ∧ decode cX0_loseStretch 22 = .ok (.iload_n 1, 1) ∧ decode cX0_loseStretch 23 = .ok (.isub, 1) ∧ decode cX0_loseStretch 24 = .ok (.invokevirtual 59, 3) ∧ decode cX0_loseStretch 27 = .ok (.return_, 1) ∧ decode cX0_loseStretch 28 = .ok (.aload_n 0, 1) ∧ decode cX0_loseStretch 29 = .ok (.getfield 24, 3) ∧ decode cX0_loseStretch 32 = .ok (.iload_n 2, 1) ∧ decode cX0_loseStretch 33 = .ok (.if_icmp .ge 14, 3) := by decide +kernel
theorem dX0_loseStretch_18 : decode cX0_loseStretch 18 = .ok (.aload_n 0, 1) := DX0_loseStretch_1.1
theorem dX0_loseStretch_19 : decode cX0_loseStretch 19 = .ok (.invokevirtual 55, 3) := DX0_loseStretch_1.2.1
theorem dX0_loseStretch_22 : decode cX0_loseStretch 22 = .ok (.iload_n 1, 1) := DX0_loseStretch_1.2.2.1
theorem dX0_loseStretch_23 : decode cX0_loseStretch 23 = .ok (.isub, 1) := DX0_loseStretch_1.2.2.2.1
theorem dX0_loseStretch_24 : decode cX0_loseStretch 24 = .ok (.invokevirtual 59, 3) := DX0_loseStretch_1.2.2.2.2.1
theorem dX0_loseStretch_27 : decode cX0_loseStretch 27 = .ok (.return_, 1) := DX0_loseStretch_1.2.2.2.2.2.1
theorem dX0_loseStretch_28 : decode cX0_loseStretch 28 = .ok (.aload_n 0, 1) := DX0_loseStretch_1.2.2.2.2.2.2.1
theorem dX0_loseStretch_29 : decode cX0_loseStretch 29 = .ok (.getfield 24, 3) := DX0_loseStretch_1.2.2.2.2.2.2.2.1
theorem dX0_loseStretch_32 : decode cX0_loseStretch 32 = .ok (.iload_n 2, 1) := DX0_loseStretch_1.2.2.2.2.2.2.2.2.1
theorem dX0_loseStretch_33 : decode cX0_loseStretch 33 = .ok (.if_icmp .ge 14, 3) := DX0_loseStretch_1.2.2.2.2.2.2.2.2.2
set_option maxRecDepth 100000 in
theorem DX0_loseStretch_2 : decode cX0_loseStretch 36 = .ok (.aload_n 0, 1) ∧ decode cX0_loseStretch 37 = .ok (.iload_n 2, 1) ∧ decode cX0_loseStretch 38 = .ok (.aload_n 0, 1) ∧ decode cX0_loseStretch 39 = .ok (.getfield 24, 3) ∧ decode cX0_loseStretch 42 = .ok (.isub, 1) ∧ decode cX0_loseStretch 43 = .ok (.iconst 0, 1) ∧ decode cX0_loseStretch 44 = .ok (.invokevirtual 59, 3) ∧ decode cX0_loseStretch 47 = .ok (.aload_n 0, 1) ∧ decode cX0_loseStretch 48 = .ok (.dup, 1) ∧ decode cX0_loseStretch 49 = .ok (.getfield 24, 3) := by decide +kernel
theorem dX0_loseStretch_36 : decode cX0_loseStretch 36 = .ok (.aload_n 0, 1) := DX0_loseStretch_2.1
theorem dX0_loseStretch_37 : decode cX0_loseStretch 37 = .ok (.iload_n 2, 1) := DX0_loseStretch_2.2.1
theorem dX0_loseStretch_38 : decode cX0_loseStretch 38 = .ok (.aload_n 0, 1) := DX0_loseStretch_2.2.2.1
theorem dX0_loseStretch_39 : decode cX0_loseStretch 39 = .ok (.getfield 24, 3) := DX0_loseStretch_2.2.2.2.1
theorem dX0_loseStretch_42 : decode cX0_loseStretch 42 = .ok (.isub, 1) := DX0_loseStretch_2.2.2.2.2.1
theorem dX0_loseStretch_43 : decode cX0_loseStretch 43 = .ok (.iconst 0, 1) := DX0_loseStretch_2.2.2.2.2.2.1
theorem dX0_loseStretch_44 : decode cX0_loseStretch 44 = .ok (.invokevirtual 59, 3) := DX0_loseStretch_2.2.2.2.2.2.2.1
theorem dX0_loseStretch_47 : decode cX0_loseStretch 47 = .ok (.aload_n 0, 1) := DX0_loseStretch_2.2.2.2.2.2.2.2.1
theorem dX0_loseStretch_48 : decode cX0_loseStretch 48 = .ok (.dup, 1) := DX0_loseStretch_2.2.2.2.2.2.2.2.2.1
theorem dX0_loseStretch_49 : decode cX0_loseStretch 49 = .ok (.getfield 24, 3) := DX0_loseStretch_2.2.2.2.2.2.2.2.2.2
set_option maxRecDepth 100000 in
theorem DX0_loseStretch_3 : decode cX0_loseStretch 52 = .ok (.iload_n 2, 1) ∧ decode cX0_loseStretch 53 = .ok (.iload_n 1, 1) ∧ decode cX0_loseStretch 54 = .ok (.isub, 1) ∧ decode cX0_loseStretch 55 = .ok (.isub, 1) ∧ decode cX0_loseStretch 56 = .ok (.putfield 24, 3) ∧ decode cX0_loseStretch 59 = .ok (.return_, 1) := by decide +kernel
theorem dX0_loseStretch_52 : decode cX0_loseStretch 52 = .ok (.iload_n 2, 1) := DX0_loseStretch_3.1
theorem dX0_loseStretch_53 : decode cX0_loseStretch 53 = .ok (.iload_n 1, 1) := DX0_loseStretch_3.2.1
theorem dX0_loseStretch_54 : decode cX0_loseStretch 54 = .ok (.isub, 1) := DX0_loseStretch_3.2.2.1
theorem dX0_loseStretch_55 : decode cX0_loseStretch 55 = .ok (.isub, 1) := DX0_loseStretch_3.2.2.2.1
theorem dX0_loseStretch_56 : decode cX0_loseStretch 56 = .ok (.putfield 24, 3) := DX0_loseStretch_3.2.2.2.2.1
theorem dX0_loseStretch_59 : decode cX0_loseStretch 59 = .ok (.return_, 1) := DX0_loseStretch_3.2.2.2.2.2
set_option maxRecDepth 100000 in
theorem DX0_fadeGain_0 : decode cX0_fadeGain 0 = .ok (.iload_n 2, 1) ∧ decode cX0_fadeGain 1 = .ok (.iconst 1, 1) ∧ decode cX0_fadeGain 2 = .ok (.if_icmp .lt 8, 3) ∧ decode cX0_fadeGain 5 = .ok (.iload_n 1, 1) ∧ decode cX0_fadeGain 6 = .ok (.iload_n 2, 1) ∧ decode cX0_fadeGain 7 = .ok (.if_icmp .lt 7, 3) ∧ decode cX0_fadeGain 10 = .ok (.sipush 1000, 3) ∧ decode cX0_fadeGain 13 = .ok (.ireturn, 1) ∧ decode cX0_fadeGain 14 = .ok (.sipush 1000, 3) ∧ decode cX0_fadeGain 17 = .ok (.iload_n 1, 1) := by decide +kernel
theorem dX0_fadeGain_0 : decode cX0_fadeGain 0 = .ok (.iload_n 2, 1) := DX0_fadeGain_0.1
theorem dX0_fadeGain_1 : decode cX0_fadeGain 1 = .ok (.iconst 1, 1) := DX0_fadeGain_0.2.1
theorem dX0_fadeGain_2 : decode cX0_fadeGain 2 = .ok (.if_icmp .lt 8, 3) := DX0_fadeGain_0.2.2.1
theorem dX0_fadeGain_5 : decode cX0_fadeGain 5 = .ok (.iload_n 1, 1) := DX0_fadeGain_0.2.2.2.1
theorem dX0_fadeGain_6 : decode cX0_fadeGain 6 = .ok (.iload_n 2, 1) := DX0_fadeGain_0.2.2.2.2.1
theorem dX0_fadeGain_7 : decode cX0_fadeGain 7 = .ok (.if_icmp .lt 7, 3) := DX0_fadeGain_0.2.2.2.2.2.1
theorem dX0_fadeGain_10 : decode cX0_fadeGain 10 = .ok (.sipush 1000, 3) := DX0_fadeGain_0.2.2.2.2.2.2.1
theorem dX0_fadeGain_13 : decode cX0_fadeGain 13 = .ok (.ireturn, 1) := DX0_fadeGain_0.2.2.2.2.2.2.2.1
theorem dX0_fadeGain_14 : decode cX0_fadeGain 14 = .ok (.sipush 1000, 3) := DX0_fadeGain_0.2.2.2.2.2.2.2.2.1
theorem dX0_fadeGain_17 : decode cX0_fadeGain 17 = .ok (.iload_n 1, 1) := DX0_fadeGain_0.2.2.2.2.2.2.2.2.2
set_option maxRecDepth 100000 in
theorem DX0_fadeGain_1 : decode cX0_fadeGain 18 = .ok (.imul, 1) ∧ decode cX0_fadeGain 19 = .ok (.iload_n 2, 1) ∧ decode cX0_fadeGain 20 = .ok (.idiv, 1) ∧ decode cX0_fadeGain 21 = .ok (.istore_n 3, 1) ∧ decode cX0_fadeGain 22 = .ok (.aload_n 0, 1) ∧ decode cX0_fadeGain 23 = .ok (.getfield 18, 3) ∧ decode cX0_fadeGain 26 = .ok (.iconst 1, 1) ∧ decode cX0_fadeGain 27 = .ok (.if_icmp .ne 13, 3) ∧ decode cX0_fadeGain 30 = .ok (.iload_n 3, 1) ∧ decode cX0_fadeGain 31 = .ok (.iload_n 3, 1) := by decide +kernel
theorem dX0_fadeGain_18 : decode cX0_fadeGain 18 = .ok (.imul, 1) := DX0_fadeGain_1.1
theorem dX0_fadeGain_19 : decode cX0_fadeGain 19 = .ok (.iload_n 2, 1) := DX0_fadeGain_1.2.1
theorem dX0_fadeGain_20 : decode cX0_fadeGain 20 = .ok (.idiv, 1) := DX0_fadeGain_1.2.2.1
theorem dX0_fadeGain_21 : decode cX0_fadeGain 21 = .ok (.istore_n 3, 1) := DX0_fadeGain_1.2.2.2.1
theorem dX0_fadeGain_22 : decode cX0_fadeGain 22 = .ok (.aload_n 0, 1) := DX0_fadeGain_1.2.2.2.2.1
theorem dX0_fadeGain_23 : decode cX0_fadeGain 23 = .ok (.getfield 18, 3) := DX0_fadeGain_1.2.2.2.2.2.1
theorem dX0_fadeGain_26 : decode cX0_fadeGain 26 = .ok (.iconst 1, 1) := DX0_fadeGain_1.2.2.2.2.2.2.1
theorem dX0_fadeGain_27 : decode cX0_fadeGain 27 = .ok (.if_icmp .ne 13, 3) := DX0_fadeGain_1.2.2.2.2.2.2.2.1
theorem dX0_fadeGain_30 : decode cX0_fadeGain 30 = .ok (.iload_n 3, 1) := DX0_fadeGain_1.2.2.2.2.2.2.2.2.1
theorem dX0_fadeGain_31 : decode cX0_fadeGain 31 = .ok (.iload_n 3, 1) := DX0_fadeGain_1.2.2.2.2.2.2.2.2.2
set_option maxRecDepth 100000 in
theorem DX0_fadeGain_2 : decode cX0_fadeGain 32 = .ok (.imul, 1) ∧ decode cX0_fadeGain 33 = .ok (.sipush 1000, 3) ∧ decode cX0_fadeGain 36 = .ok (.idiv, 1) ∧ decode cX0_fadeGain 37 = .ok (.goto 4, 3) ∧ decode cX0_fadeGain 40 = .ok (.iload_n 3, 1) ∧ decode cX0_fadeGain 41 = .ok (.ireturn, 1) := by decide +kernel
theorem dX0_fadeGain_32 : decode cX0_fadeGain 32 = .ok (.imul, 1) := DX0_fadeGain_2.1
theorem dX0_fadeGain_33 : decode cX0_fadeGain 33 = .ok (.sipush 1000, 3) := DX0_fadeGain_2.2.1
theorem dX0_fadeGain_36 : decode cX0_fadeGain 36 = .ok (.idiv, 1) := DX0_fadeGain_2.2.2.1
theorem dX0_fadeGain_37 : decode cX0_fadeGain 37 = .ok (.goto 4, 3) := DX0_fadeGain_2.2.2.2.1
theorem dX0_fadeGain_40 : decode cX0_fadeGain 40 = .ok (.iload_n 3, 1) := DX0_fadeGain_2.2.2.2.2.1
theorem dX0_fadeGain_41 : decode cX0_fadeGain 41 = .ok (.ireturn, 1) := DX0_fadeGain_2.2.2.2.2.2
set_option maxRecDepth 100000 in
theorem DX0_property_0 : decode cX0_property 0 = .ok (.iload_n 1, 1) ∧ decode cX0_property 1 = .ok (.tableswitch 87 0 7 #[47, 52, 57, 62, 67, 72, 77, 82], 47) ∧ decode cX0_property 48 = .ok (.aload_n 0, 1) ∧ decode cX0_property 49 = .ok (.getfield 21, 3) ∧ decode cX0_property 52 = .ok (.ireturn, 1) ∧ decode cX0_property 53 = .ok (.aload_n 0, 1) ∧ decode cX0_property 54 = .ok (.getfield 30, 3) ∧ decode cX0_property 57 = .ok (.ireturn, 1) ∧ decode cX0_property 58 = .ok (.aload_n 0, 1) ∧ decode cX0_property 59 = .ok (.getfield 24, 3) := by decide +kernel
theorem dX0_property_0 : decode cX0_property 0 = .ok (.iload_n 1, 1) := DX0_property_0.1
theorem dX0_property_1 : decode cX0_property 1 = .ok (.tableswitch 87 0 7 #[47, 52, 57, 62, 67, 72, 77, 82], 47) := DX0_property_0.2.1
theorem dX0_property_48 : decode cX0_property 48 = .ok (.aload_n 0, 1) := DX0_property_0.2.2.1
theorem dX0_property_49 : decode cX0_property 49 = .ok (.getfield 21, 3) := DX0_property_0.2.2.2.1
theorem dX0_property_52 : decode cX0_property 52 = .ok (.ireturn, 1) := DX0_property_0.2.2.2.2.1
theorem dX0_property_53 : decode cX0_property 53 = .ok (.aload_n 0, 1) := DX0_property_0.2.2.2.2.2.1
theorem dX0_property_54 : decode cX0_property 54 = .ok (.getfield 30, 3) := DX0_property_0.2.2.2.2.2.2.1
theorem dX0_property_57 : decode cX0_property 57 = .ok (.ireturn, 1) := DX0_property_0.2.2.2.2.2.2.2.1
theorem dX0_property_58 : decode cX0_property 58 = .ok (.aload_n 0, 1) := DX0_property_0.2.2.2.2.2.2.2.2.1
theorem dX0_property_59 : decode cX0_property 59 = .ok (.getfield 24, 3) := DX0_property_0.2.2.2.2.2.2.2.2.2
set_option maxRecDepth 100000 in
theorem DX0_property_1 : decode cX0_property 62 = .ok (.ireturn, 1) ∧ decode cX0_property 63 = .ok (.aload_n 0, 1) ∧ decode cX0_property 64 = .ok (.getfield 33, 3) ∧ decode cX0_property 67 = .ok (.ireturn, 1) ∧ decode cX0_property 68 = .ok (.aload_n 0, 1) ∧ decode cX0_property 69 = .ok (.getfield 27, 3) ∧ decode cX0_property 72 = .ok (.ireturn, 1) ∧ decode cX0_property 73 = .ok (.aload_n 0, 1) ∧ decode cX0_property 74 = .ok (.getfield 36, 3) ∧ decode cX0_property 77 = .ok (.ireturn, 1) := by decide +kernel
theorem dX0_property_62 : decode cX0_property 62 = .ok (.ireturn, 1) := DX0_property_1.1
theorem dX0_property_63 : decode cX0_property 63 = .ok (.aload_n 0, 1) := DX0_property_1.2.1
theorem dX0_property_64 : decode cX0_property 64 = .ok (.getfield 33, 3) := DX0_property_1.2.2.1
theorem dX0_property_67 : decode cX0_property 67 = .ok (.ireturn, 1) := DX0_property_1.2.2.2.1
theorem dX0_property_68 : decode cX0_property 68 = .ok (.aload_n 0, 1) := DX0_property_1.2.2.2.2.1
theorem dX0_property_69 : decode cX0_property 69 = .ok (.getfield 27, 3) := DX0_property_1.2.2.2.2.2.1
theorem dX0_property_72 : decode cX0_property 72 = .ok (.ireturn, 1) := DX0_property_1.2.2.2.2.2.2.1
theorem dX0_property_73 : decode cX0_property 73 = .ok (.aload_n 0, 1) := DX0_property_1.2.2.2.2.2.2.2.1
theorem dX0_property_74 : decode cX0_property 74 = .ok (.getfield 36, 3) := DX0_property_1.2.2.2.2.2.2.2.2.1
theorem dX0_property_77 : decode cX0_property 77 = .ok (.ireturn, 1) := DX0_property_1.2.2.2.2.2.2.2.2.2
set_option maxRecDepth 100000 in
theorem DX0_property_2 : decode cX0_property 78 = .ok (.aload_n 0, 1) ∧ decode cX0_property 79 = .ok (.getfield 9, 3) ∧ decode cX0_property 82 = .ok (.ireturn, 1) ∧ decode cX0_property 83 = .ok (.aload_n 0, 1) ∧ decode cX0_property 84 = .ok (.getfield 15, 3) ∧ decode cX0_property 87 = .ok (.ireturn, 1) ∧ decode cX0_property 88 = .ok (.aload_n 0, 1) ∧ decode cX0_property 89 = .ok (.getfield 18, 3) ∧ decode cX0_property 92 = .ok (.ireturn, 1) := by decide +kernel
theorem dX0_property_78 : decode cX0_property 78 = .ok (.aload_n 0, 1) := DX0_property_2.1
theorem dX0_property_79 : decode cX0_property 79 = .ok (.getfield 9, 3) := DX0_property_2.2.1
theorem dX0_property_82 : decode cX0_property 82 = .ok (.ireturn, 1) := DX0_property_2.2.2.1
theorem dX0_property_83 : decode cX0_property 83 = .ok (.aload_n 0, 1) := DX0_property_2.2.2.2.1
theorem dX0_property_84 : decode cX0_property 84 = .ok (.getfield 15, 3) := DX0_property_2.2.2.2.2.1
theorem dX0_property_87 : decode cX0_property 87 = .ok (.ireturn, 1) := DX0_property_2.2.2.2.2.2.1
theorem dX0_property_88 : decode cX0_property 88 = .ok (.aload_n 0, 1) := DX0_property_2.2.2.2.2.2.2.1
theorem dX0_property_89 : decode cX0_property 89 = .ok (.getfield 18, 3) := DX0_property_2.2.2.2.2.2.2.2.1
theorem dX0_property_92 : decode cX0_property 92 = .ok (.ireturn, 1) := DX0_property_2.2.2.2.2.2.2.2.2
set_option maxRecDepth 100000 in
theorem DX1_init_0 : decode cX1_init 0 = .ok (.aload_n 0, 1) ∧ decode cX1_init 1 = .ok (.invokespecial 3, 3) ∧ decode cX1_init 4 = .ok (.aload_n 0, 1) ∧ decode cX1_init 5 = .ok (.bipush 101, 2) ∧ decode cX1_init 7 = .ok (.newarray .int, 2) ∧ decode cX1_init 9 = .ok (.putfield 9, 3) ∧ decode cX1_init 12 = .ok (.aload_n 0, 1) ∧ decode cX1_init 13 = .ok (.iconst 1, 1) ∧ decode cX1_init 14 = .ok (.putfield 15, 3) ∧ decode cX1_init 17 = .ok (.aload_n 0, 1) := by decide +kernel
theorem dX1_init_0 : decode cX1_init 0 = .ok (.aload_n 0, 1) := DX1_init_0.1
theorem dX1_init_1 : decode cX1_init 1 = .ok (.invokespecial 3, 3) := DX1_init_0.2.1
theorem dX1_init_4 : decode cX1_init 4 = .ok (.aload_n 0, 1) := DX1_init_0.2.2.1
theorem dX1_init_5 : decode cX1_init 5 = .ok (.bipush 101, 2) := DX1_init_0.2.2.2.1
theorem dX1_init_7 : decode cX1_init 7 = .ok (.newarray .int, 2) := DX1_init_0.2.2.2.2.1
theorem dX1_init_9 : decode cX1_init 9 = .ok (.putfield 9, 3) := DX1_init_0.2.2.2.2.2.1
theorem dX1_init_12 : decode cX1_init 12 = .ok (.aload_n 0, 1) := DX1_init_0.2.2.2.2.2.2.1
theorem dX1_init_13 : decode cX1_init 13 = .ok (.iconst 1, 1) := DX1_init_0.2.2.2.2.2.2.2.1
theorem dX1_init_14 : decode cX1_init 14 = .ok (.putfield 15, 3) := DX1_init_0.2.2.2.2.2.2.2.2.1
theorem dX1_init_17 : decode cX1_init 17 = .ok (.aload_n 0, 1) := DX1_init_0.2.2.2.2.2.2.2.2.2
set_option maxRecDepth 100000 in
theorem DX1_init_1 : decode cX1_init 18 = .ok (.getfield 9, 3) ∧ decode cX1_init 21 = .ok (.iconst 0, 1) ∧ decode cX1_init 22 = .ok (.sipush 1000, 3) ∧ decode cX1_init 25 = .ok (.iastore, 1) ∧ decode cX1_init 26 = .ok (.aload_n 0, 1) ∧ decode cX1_init 27 = .ok (.getfield 9, 3) ∧ decode cX1_init 30 = .ok (.iconst 1, 1) ∧ decode cX1_init 31 = .ok (.sipush 1000, 3) ∧ decode cX1_init 34 = .ok (.iastore, 1) ∧ decode cX1_init 35 = .ok (.return_, 1) := by decide +kernel
theorem dX1_init_18 : decode cX1_init 18 = .ok (.getfield 9, 3) := DX1_init_1.1
theorem dX1_init_21 : decode cX1_init 21 = .ok (.iconst 0, 1) := DX1_init_1.2.1
theorem dX1_init_22 : decode cX1_init 22 = .ok (.sipush 1000, 3) := DX1_init_1.2.2.1
theorem dX1_init_25 : decode cX1_init 25 = .ok (.iastore, 1) := DX1_init_1.2.2.2.1
theorem dX1_init_26 : decode cX1_init 26 = .ok (.aload_n 0, 1) := DX1_init_1.2.2.2.2.1
theorem dX1_init_27 : decode cX1_init 27 = .ok (.getfield 9, 3) := DX1_init_1.2.2.2.2.2.1
theorem dX1_init_30 : decode cX1_init 30 = .ok (.iconst 1, 1) := DX1_init_1.2.2.2.2.2.2.1
theorem dX1_init_31 : decode cX1_init 31 = .ok (.sipush 1000, 3) := DX1_init_1.2.2.2.2.2.2.2.1
theorem dX1_init_34 : decode cX1_init 34 = .ok (.iastore, 1) := DX1_init_1.2.2.2.2.2.2.2.2.1
theorem dX1_init_35 : decode cX1_init 35 = .ok (.return_, 1) := DX1_init_1.2.2.2.2.2.2.2.2.2
set_option maxRecDepth 100000 in
theorem DX1_forget_0 : decode cX1_forget 0 = .ok (.aload_n 0, 1) ∧ decode cX1_forget 1 = .ok (.iconst 1, 1) ∧ decode cX1_forget 2 = .ok (.putfield 15, 3) ∧ decode cX1_forget 5 = .ok (.return_, 1) := by decide +kernel
theorem dX1_forget_0 : decode cX1_forget 0 = .ok (.aload_n 0, 1) := DX1_forget_0.1
theorem dX1_forget_1 : decode cX1_forget 1 = .ok (.iconst 1, 1) := DX1_forget_0.2.1
theorem dX1_forget_2 : decode cX1_forget 2 = .ok (.putfield 15, 3) := DX1_forget_0.2.2.1
theorem dX1_forget_5 : decode cX1_forget 5 = .ok (.return_, 1) := DX1_forget_0.2.2.2
set_option maxRecDepth 100000 in
theorem DX1_follow_0 : decode cX1_follow 0 = .ok (.aload_n 0, 1) ∧ decode cX1_follow 1 = .ok (.getfield 15, 3) ∧ decode cX1_follow 4 = .ok (.iconst 1, 1) ∧ decode cX1_follow 5 = .ok (.iadd, 1) ∧ decode cX1_follow 6 = .ok (.aload_n 0, 1) ∧ decode cX1_follow 7 = .ok (.getfield 9, 3) ∧ decode cX1_follow 10 = .ok (.arraylength, 1) ∧ decode cX1_follow 11 = .ok (.if_icmp .lt 4, 3) ∧ decode cX1_follow 14 = .ok (.return_, 1) ∧ decode cX1_follow 15 = .ok (.aload_n 0, 1) := by decide +kernel
theorem dX1_follow_0 : decode cX1_follow 0 = .ok (.aload_n 0, 1) := DX1_follow_0.1
theorem dX1_follow_1 : decode cX1_follow 1 = .ok (.getfield 15, 3) := DX1_follow_0.2.1
theorem dX1_follow_4 : decode cX1_follow 4 = .ok (.iconst 1, 1) := DX1_follow_0.2.2.1
theorem dX1_follow_5 : decode cX1_follow 5 = .ok (.iadd, 1) := DX1_follow_0.2.2.2.1
theorem dX1_follow_6 : decode cX1_follow 6 = .ok (.aload_n 0, 1) := DX1_follow_0.2.2.2.2.1
theorem dX1_follow_7 : decode cX1_follow 7 = .ok (.getfield 9, 3) := DX1_follow_0.2.2.2.2.2.1
theorem dX1_follow_10 : decode cX1_follow 10 = .ok (.arraylength, 1) := DX1_follow_0.2.2.2.2.2.2.1
theorem dX1_follow_11 : decode cX1_follow 11 = .ok (.if_icmp .lt 4, 3) := DX1_follow_0.2.2.2.2.2.2.2.1
theorem dX1_follow_14 : decode cX1_follow 14 = .ok (.return_, 1) := DX1_follow_0.2.2.2.2.2.2.2.2.1
theorem dX1_follow_15 : decode cX1_follow 15 = .ok (.aload_n 0, 1) := DX1_follow_0.2.2.2.2.2.2.2.2.2
set_option maxRecDepth 100000 in
theorem DX1_follow_1 : decode cX1_follow 16 = .ok (.getfield 9, 3) ∧ decode cX1_follow 19 = .ok (.aload_n 0, 1) ∧ decode cX1_follow 20 = .ok (.getfield 15, 3) ∧ decode cX1_follow 23 = .ok (.iaload, 1) ∧ decode cX1_follow 24 = .ok (.istore_n 3, 1) ∧ decode cX1_follow 25 = .ok (.aload_n 0, 1) ∧ decode cX1_follow 26 = .ok (.dup, 1) ∧ decode cX1_follow 27 = .ok (.getfield 15, 3) ∧ decode cX1_follow 30 = .ok (.iconst 1, 1) ∧ decode cX1_follow 31 = .ok (.iadd, 1) := by decide +kernel
theorem dX1_follow_16 : decode cX1_follow 16 = .ok (.getfield 9, 3) := DX1_follow_1.1
theorem dX1_follow_19 : decode cX1_follow 19 = .ok (.aload_n 0, 1) := DX1_follow_1.2.1
theorem dX1_follow_20 : decode cX1_follow 20 = .ok (.getfield 15, 3) := DX1_follow_1.2.2.1
theorem dX1_follow_23 : decode cX1_follow 23 = .ok (.iaload, 1) := DX1_follow_1.2.2.2.1
theorem dX1_follow_24 : decode cX1_follow 24 = .ok (.istore_n 3, 1) := DX1_follow_1.2.2.2.2.1
theorem dX1_follow_25 : decode cX1_follow 25 = .ok (.aload_n 0, 1) := DX1_follow_1.2.2.2.2.2.1
theorem dX1_follow_26 : decode cX1_follow 26 = .ok (.dup, 1) := DX1_follow_1.2.2.2.2.2.2.1
theorem dX1_follow_27 : decode cX1_follow 27 = .ok (.getfield 15, 3) := DX1_follow_1.2.2.2.2.2.2.2.1
theorem dX1_follow_30 : decode cX1_follow 30 = .ok (.iconst 1, 1) := DX1_follow_1.2.2.2.2.2.2.2.2.1
theorem dX1_follow_31 : decode cX1_follow 31 = .ok (.iadd, 1) := DX1_follow_1.2.2.2.2.2.2.2.2.2
set_option maxRecDepth 100000 in
theorem DX1_follow_2 : decode cX1_follow 32 = .ok (.putfield 15, 3) ∧ decode cX1_follow 35 = .ok (.aload_n 0, 1) ∧ decode cX1_follow 36 = .ok (.getfield 9, 3) ∧ decode cX1_follow 39 = .ok (.aload_n 0, 1) ∧ decode cX1_follow 40 = .ok (.getfield 15, 3) ∧ decode cX1_follow 43 = .ok (.iload_n 2, 1) ∧ decode cX1_follow 44 = .ok (.ifCond .eq 19, 3) ∧ decode cX1_follow 47 = .ok (.aload_n 1, 1) ∧ decode cX1_follow 48 = .ok (.getfield 19, 3) ∧ decode cX1_follow 51 = .ok (.iload_n 3, 1) := by decide +kernel
theorem dX1_follow_32 : decode cX1_follow 32 = .ok (.putfield 15, 3) := DX1_follow_2.1
theorem dX1_follow_35 : decode cX1_follow 35 = .ok (.aload_n 0, 1) := DX1_follow_2.2.1
theorem dX1_follow_36 : decode cX1_follow 36 = .ok (.getfield 9, 3) := DX1_follow_2.2.2.1
theorem dX1_follow_39 : decode cX1_follow 39 = .ok (.aload_n 0, 1) := DX1_follow_2.2.2.2.1
theorem dX1_follow_40 : decode cX1_follow 40 = .ok (.getfield 15, 3) := DX1_follow_2.2.2.2.2.1
theorem dX1_follow_43 : decode cX1_follow 43 = .ok (.iload_n 2, 1) := DX1_follow_2.2.2.2.2.2.1
theorem dX1_follow_44 : decode cX1_follow 44 = .ok (.ifCond .eq 19, 3) := DX1_follow_2.2.2.2.2.2.2.1
theorem dX1_follow_47 : decode cX1_follow 47 = .ok (.aload_n 1, 1) := DX1_follow_2.2.2.2.2.2.2.2.1
theorem dX1_follow_48 : decode cX1_follow 48 = .ok (.getfield 19, 3) := DX1_follow_2.2.2.2.2.2.2.2.2.1
theorem dX1_follow_51 : decode cX1_follow 51 = .ok (.iload_n 3, 1) := DX1_follow_2.2.2.2.2.2.2.2.2.2
set_option maxRecDepth 100000 in
theorem DX1_follow_3 : decode cX1_follow 52 = .ok (.aload_n 1, 1) ∧ decode cX1_follow 53 = .ok (.getfield 24, 3) ∧ decode cX1_follow 56 = .ok (.isub, 1) ∧ decode cX1_follow 57 = .ok (.invokestatic 27, 3) ∧ decode cX1_follow 60 = .ok (.goto 15, 3) ∧ decode cX1_follow 63 = .ok (.sipush 1000, 3) ∧ decode cX1_follow 66 = .ok (.iload_n 3, 1) ∧ decode cX1_follow 67 = .ok (.aload_n 1, 1) ∧ decode cX1_follow 68 = .ok (.getfield 33, 3) ∧ decode cX1_follow 71 = .ok (.iadd, 1) := by decide +kernel
theorem dX1_follow_52 : decode cX1_follow 52 = .ok (.aload_n 1, 1) := DX1_follow_3.1
theorem dX1_follow_53 : decode cX1_follow 53 = .ok (.getfield 24, 3) := DX1_follow_3.2.1
theorem dX1_follow_56 : decode cX1_follow 56 = .ok (.isub, 1) := DX1_follow_3.2.2.1
theorem dX1_follow_57 : decode cX1_follow 57 = .ok (.invokestatic 27, 3) := DX1_follow_3.2.2.2.1
theorem dX1_follow_60 : decode cX1_follow 60 = .ok (.goto 15, 3) := DX1_follow_3.2.2.2.2.1
theorem dX1_follow_63 : decode cX1_follow 63 = .ok (.sipush 1000, 3) := DX1_follow_3.2.2.2.2.2.1
theorem dX1_follow_66 : decode cX1_follow 66 = .ok (.iload_n 3, 1) := DX1_follow_3.2.2.2.2.2.2.1
theorem dX1_follow_67 : decode cX1_follow 67 = .ok (.aload_n 1, 1) := DX1_follow_3.2.2.2.2.2.2.2.1
theorem dX1_follow_68 : decode cX1_follow 68 = .ok (.getfield 33, 3) := DX1_follow_3.2.2.2.2.2.2.2.2.1
theorem dX1_follow_71 : decode cX1_follow 71 = .ok (.iadd, 1) := DX1_follow_3.2.2.2.2.2.2.2.2.2
set_option maxRecDepth 100000 in
theorem DX1_follow_4 : decode cX1_follow 72 = .ok (.invokestatic 36, 3) ∧ decode cX1_follow 75 = .ok (.iastore, 1) ∧ decode cX1_follow 76 = .ok (.return_, 1) := by decide +kernel
theorem dX1_follow_72 : decode cX1_follow 72 = .ok (.invokestatic 36, 3) := DX1_follow_4.1
theorem dX1_follow_75 : decode cX1_follow 75 = .ok (.iastore, 1) := DX1_follow_4.2.1
theorem dX1_follow_76 : decode cX1_follow 76 = .ok (.return_, 1) := DX1_follow_4.2.2
set_option maxRecDepth 100000 in
theorem DX1_gainAt_0 : decode cX1_gainAt 0 = .ok (.iload_n 1, 1) ∧ decode cX1_gainAt 1 = .ok (.bipush 40, 2) ∧ decode cX1_gainAt 3 = .ok (.idiv, 1) ∧ decode cX1_gainAt 4 = .ok (.istore_n 2, 1) ∧ decode cX1_gainAt 5 = .ok (.iload_n 2, 1) ∧ decode cX1_gainAt 6 = .ok (.ifCond .lt 11, 3) ∧ decode cX1_gainAt 9 = .ok (.iload_n 2, 1) ∧ decode cX1_gainAt 10 = .ok (.aload_n 0, 1) ∧ decode cX1_gainAt 11 = .ok (.getfield 15, 3) ∧ decode cX1_gainAt 14 = .ok (.if_icmp .lt 7, 3) := by decide +kernel
theorem dX1_gainAt_0 : decode cX1_gainAt 0 = .ok (.iload_n 1, 1) := DX1_gainAt_0.1
theorem dX1_gainAt_1 : decode cX1_gainAt 1 = .ok (.bipush 40, 2) := DX1_gainAt_0.2.1
theorem dX1_gainAt_3 : decode cX1_gainAt 3 = .ok (.idiv, 1) := DX1_gainAt_0.2.2.1
theorem dX1_gainAt_4 : decode cX1_gainAt 4 = .ok (.istore_n 2, 1) := DX1_gainAt_0.2.2.2.1
theorem dX1_gainAt_5 : decode cX1_gainAt 5 = .ok (.iload_n 2, 1) := DX1_gainAt_0.2.2.2.2.1
theorem dX1_gainAt_6 : decode cX1_gainAt 6 = .ok (.ifCond .lt 11, 3) := DX1_gainAt_0.2.2.2.2.2.1
theorem dX1_gainAt_9 : decode cX1_gainAt 9 = .ok (.iload_n 2, 1) := DX1_gainAt_0.2.2.2.2.2.2.1
theorem dX1_gainAt_10 : decode cX1_gainAt 10 = .ok (.aload_n 0, 1) := DX1_gainAt_0.2.2.2.2.2.2.2.1
theorem dX1_gainAt_11 : decode cX1_gainAt 11 = .ok (.getfield 15, 3) := DX1_gainAt_0.2.2.2.2.2.2.2.2.1
theorem dX1_gainAt_14 : decode cX1_gainAt 14 = .ok (.if_icmp .lt 7, 3) := DX1_gainAt_0.2.2.2.2.2.2.2.2.2
set_option maxRecDepth 100000 in
theorem DX1_gainAt_1 : decode cX1_gainAt 17 = .ok (.sipush 1000, 3) ∧ decode cX1_gainAt 20 = .ok (.ireturn, 1) ∧ decode cX1_gainAt 21 = .ok (.aload_n 0, 1) ∧ decode cX1_gainAt 22 = .ok (.getfield 9, 3) ∧ decode cX1_gainAt 25 = .ok (.iload_n 2, 1) ∧ decode cX1_gainAt 26 = .ok (.iconst 1, 1) ∧ decode cX1_gainAt 27 = .ok (.iadd, 1) ∧ decode cX1_gainAt 28 = .ok (.iaload, 1) ∧ decode cX1_gainAt 29 = .ok (.aload_n 0, 1) ∧ decode cX1_gainAt 30 = .ok (.getfield 9, 3) := by decide +kernel
theorem dX1_gainAt_17 : decode cX1_gainAt 17 = .ok (.sipush 1000, 3) := DX1_gainAt_1.1
theorem dX1_gainAt_20 : decode cX1_gainAt 20 = .ok (.ireturn, 1) := DX1_gainAt_1.2.1
theorem dX1_gainAt_21 : decode cX1_gainAt 21 = .ok (.aload_n 0, 1) := DX1_gainAt_1.2.2.1
theorem dX1_gainAt_22 : decode cX1_gainAt 22 = .ok (.getfield 9, 3) := DX1_gainAt_1.2.2.2.1
theorem dX1_gainAt_25 : decode cX1_gainAt 25 = .ok (.iload_n 2, 1) := DX1_gainAt_1.2.2.2.2.1
theorem dX1_gainAt_26 : decode cX1_gainAt 26 = .ok (.iconst 1, 1) := DX1_gainAt_1.2.2.2.2.2.1
theorem dX1_gainAt_27 : decode cX1_gainAt 27 = .ok (.iadd, 1) := DX1_gainAt_1.2.2.2.2.2.2.1
theorem dX1_gainAt_28 : decode cX1_gainAt 28 = .ok (.iaload, 1) := DX1_gainAt_1.2.2.2.2.2.2.2.1
theorem dX1_gainAt_29 : decode cX1_gainAt 29 = .ok (.aload_n 0, 1) := DX1_gainAt_1.2.2.2.2.2.2.2.2.1
theorem dX1_gainAt_30 : decode cX1_gainAt 30 = .ok (.getfield 9, 3) := DX1_gainAt_1.2.2.2.2.2.2.2.2.2
set_option maxRecDepth 100000 in
theorem DX1_gainAt_2 : decode cX1_gainAt 33 = .ok (.iload_n 2, 1) ∧ decode cX1_gainAt 34 = .ok (.iaload, 1) ∧ decode cX1_gainAt 35 = .ok (.isub, 1) ∧ decode cX1_gainAt 36 = .ok (.istore_n 3, 1) ∧ decode cX1_gainAt 37 = .ok (.aload_n 0, 1) ∧ decode cX1_gainAt 38 = .ok (.getfield 9, 3) ∧ decode cX1_gainAt 41 = .ok (.iload_n 2, 1) ∧ decode cX1_gainAt 42 = .ok (.iaload, 1) ∧ decode cX1_gainAt 43 = .ok (.iload_n 3, 1) ∧ decode cX1_gainAt 44 = .ok (.iload_n 1, 1) := by decide +kernel
theorem dX1_gainAt_33 : decode cX1_gainAt 33 = .ok (.iload_n 2, 1) := DX1_gainAt_2.1
theorem dX1_gainAt_34 : decode cX1_gainAt 34 = .ok (.iaload, 1) := DX1_gainAt_2.2.1
theorem dX1_gainAt_35 : decode cX1_gainAt 35 = .ok (.isub, 1) := DX1_gainAt_2.2.2.1
theorem dX1_gainAt_36 : decode cX1_gainAt 36 = .ok (.istore_n 3, 1) := DX1_gainAt_2.2.2.2.1
theorem dX1_gainAt_37 : decode cX1_gainAt 37 = .ok (.aload_n 0, 1) := DX1_gainAt_2.2.2.2.2.1
theorem dX1_gainAt_38 : decode cX1_gainAt 38 = .ok (.getfield 9, 3) := DX1_gainAt_2.2.2.2.2.2.1
theorem dX1_gainAt_41 : decode cX1_gainAt 41 = .ok (.iload_n 2, 1) := DX1_gainAt_2.2.2.2.2.2.2.1
theorem dX1_gainAt_42 : decode cX1_gainAt 42 = .ok (.iaload, 1) := DX1_gainAt_2.2.2.2.2.2.2.2.1
theorem dX1_gainAt_43 : decode cX1_gainAt 43 = .ok (.iload_n 3, 1) := DX1_gainAt_2.2.2.2.2.2.2.2.2.1
theorem dX1_gainAt_44 : decode cX1_gainAt 44 = .ok (.iload_n 1, 1) := DX1_gainAt_2.2.2.2.2.2.2.2.2.2
set_option maxRecDepth 100000 in
theorem DX1_gainAt_3 : decode cX1_gainAt 45 = .ok (.bipush 40, 2) ∧ decode cX1_gainAt 47 = .ok (.iload_n 2, 1) ∧ decode cX1_gainAt 48 = .ok (.imul, 1) ∧ decode cX1_gainAt 49 = .ok (.isub, 1) ∧ decode cX1_gainAt 50 = .ok (.imul, 1) ∧ decode cX1_gainAt 51 = .ok (.bipush 40, 2) ∧ decode cX1_gainAt 53 = .ok (.invokestatic 39, 3) ∧ decode cX1_gainAt 56 = .ok (.iadd, 1) ∧ decode cX1_gainAt 57 = .ok (.ireturn, 1) := by decide +kernel
theorem dX1_gainAt_45 : decode cX1_gainAt 45 = .ok (.bipush 40, 2) := DX1_gainAt_3.1
theorem dX1_gainAt_47 : decode cX1_gainAt 47 = .ok (.iload_n 2, 1) := DX1_gainAt_3.2.1
theorem dX1_gainAt_48 : decode cX1_gainAt 48 = .ok (.imul, 1) := DX1_gainAt_3.2.2.1
theorem dX1_gainAt_49 : decode cX1_gainAt 49 = .ok (.isub, 1) := DX1_gainAt_3.2.2.2.1
theorem dX1_gainAt_50 : decode cX1_gainAt 50 = .ok (.imul, 1) := DX1_gainAt_3.2.2.2.2.1
theorem dX1_gainAt_51 : decode cX1_gainAt 51 = .ok (.bipush 40, 2) := DX1_gainAt_3.2.2.2.2.2.1
theorem dX1_gainAt_53 : decode cX1_gainAt 53 = .ok (.invokestatic 39, 3) := DX1_gainAt_3.2.2.2.2.2.2.1
theorem dX1_gainAt_56 : decode cX1_gainAt 56 = .ok (.iadd, 1) := DX1_gainAt_3.2.2.2.2.2.2.2.1
theorem dX1_gainAt_57 : decode cX1_gainAt 57 = .ok (.ireturn, 1) := DX1_gainAt_3.2.2.2.2.2.2.2.2
set_option maxRecDepth 100000 in
theorem DX2_init_0 : decode cX2_init 0 = .ok (.aload_n 0, 1) ∧ decode cX2_init 1 = .ok (.invokespecial 3, 3) ∧ decode cX2_init 4 = .ok (.return_, 1) := by decide +kernel
theorem dX2_init_0 : decode cX2_init 0 = .ok (.aload_n 0, 1) := DX2_init_0.1
theorem dX2_init_1 : decode cX2_init 1 = .ok (.invokespecial 3, 3) := DX2_init_0.2.1
theorem dX2_init_4 : decode cX2_init 4 = .ok (.return_, 1) := DX2_init_0.2.2
set_option maxRecDepth 100000 in
theorem DX2_limit_0 : decode cX2_limit 0 = .ok (.aload_n 0, 1) ∧ decode cX2_limit 1 = .ok (.sipush (-32767), 3) ∧ decode cX2_limit 4 = .ok (.sipush 32767, 3) ∧ decode cX2_limit 7 = .ok (.iload_n 1, 1) ∧ decode cX2_limit 8 = .ok (.invokestatic 9, 3) ∧ decode cX2_limit 11 = .ok (.invokestatic 15, 3) ∧ decode cX2_limit 14 = .ok (.putfield 18, 3) ∧ decode cX2_limit 17 = .ok (.aload_n 0, 1) ∧ decode cX2_limit 18 = .ok (.sipush (-32767), 3) ∧ decode cX2_limit 21 = .ok (.sipush 32767, 3) := by decide +kernel
theorem dX2_limit_0 : decode cX2_limit 0 = .ok (.aload_n 0, 1) := DX2_limit_0.1
theorem dX2_limit_1 : decode cX2_limit 1 = .ok (.sipush (-32767), 3) := DX2_limit_0.2.1
theorem dX2_limit_4 : decode cX2_limit 4 = .ok (.sipush 32767, 3) := DX2_limit_0.2.2.1
theorem dX2_limit_7 : decode cX2_limit 7 = .ok (.iload_n 1, 1) := DX2_limit_0.2.2.2.1
theorem dX2_limit_8 : decode cX2_limit 8 = .ok (.invokestatic 9, 3) := DX2_limit_0.2.2.2.2.1
theorem dX2_limit_11 : decode cX2_limit 11 = .ok (.invokestatic 15, 3) := DX2_limit_0.2.2.2.2.2.1
theorem dX2_limit_14 : decode cX2_limit 14 = .ok (.putfield 18, 3) := DX2_limit_0.2.2.2.2.2.2.1
theorem dX2_limit_17 : decode cX2_limit 17 = .ok (.aload_n 0, 1) := DX2_limit_0.2.2.2.2.2.2.2.1
theorem dX2_limit_18 : decode cX2_limit 18 = .ok (.sipush (-32767), 3) := DX2_limit_0.2.2.2.2.2.2.2.2.1
theorem dX2_limit_21 : decode cX2_limit 21 = .ok (.sipush 32767, 3) := DX2_limit_0.2.2.2.2.2.2.2.2.2
set_option maxRecDepth 100000 in
theorem DX2_limit_1 : decode cX2_limit 24 = .ok (.iload_n 2, 1) ∧ decode cX2_limit 25 = .ok (.invokestatic 9, 3) ∧ decode cX2_limit 28 = .ok (.invokestatic 15, 3) ∧ decode cX2_limit 31 = .ok (.putfield 24, 3) ∧ decode cX2_limit 34 = .ok (.aload_n 0, 1) ∧ decode cX2_limit 35 = .ok (.aload_n 0, 1) ∧ decode cX2_limit 36 = .ok (.getfield 18, 3) ∧ decode cX2_limit 39 = .ok (.iload_n 1, 1) ∧ decode cX2_limit 40 = .ok (.if_icmp .ne 7, 3) ∧ decode cX2_limit 43 = .ok (.iconst 0, 1) := by decide +kernel
theorem dX2_limit_24 : decode cX2_limit 24 = .ok (.iload_n 2, 1) := DX2_limit_1.1
theorem dX2_limit_25 : decode cX2_limit 25 = .ok (.invokestatic 9, 3) := DX2_limit_1.2.1
theorem dX2_limit_28 : decode cX2_limit 28 = .ok (.invokestatic 15, 3) := DX2_limit_1.2.2.1
theorem dX2_limit_31 : decode cX2_limit 31 = .ok (.putfield 24, 3) := DX2_limit_1.2.2.2.1
theorem dX2_limit_34 : decode cX2_limit 34 = .ok (.aload_n 0, 1) := DX2_limit_1.2.2.2.2.1
theorem dX2_limit_35 : decode cX2_limit 35 = .ok (.aload_n 0, 1) := DX2_limit_1.2.2.2.2.2.1
theorem dX2_limit_36 : decode cX2_limit 36 = .ok (.getfield 18, 3) := DX2_limit_1.2.2.2.2.2.2.1
theorem dX2_limit_39 : decode cX2_limit 39 = .ok (.iload_n 1, 1) := DX2_limit_1.2.2.2.2.2.2.2.1
theorem dX2_limit_40 : decode cX2_limit 40 = .ok (.if_icmp .ne 7, 3) := DX2_limit_1.2.2.2.2.2.2.2.2.1
theorem dX2_limit_43 : decode cX2_limit 43 = .ok (.iconst 0, 1) := DX2_limit_1.2.2.2.2.2.2.2.2.2
set_option maxRecDepth 100000 in
theorem DX2_limit_2 : decode cX2_limit 44 = .ok (.goto 4, 3) ∧ decode cX2_limit 47 = .ok (.iconst 1, 1) ∧ decode cX2_limit 48 = .ok (.aload_n 0, 1) ∧ decode cX2_limit 49 = .ok (.getfield 24, 3) ∧ decode cX2_limit 52 = .ok (.iload_n 2, 1) ∧ decode cX2_limit 53 = .ok (.if_icmp .ne 7, 3) ∧ decode cX2_limit 56 = .ok (.iconst 0, 1) ∧ decode cX2_limit 57 = .ok (.goto 4, 3) ∧ decode cX2_limit 60 = .ok (.iconst 1, 1) ∧ decode cX2_limit 61 = .ok (.iadd, 1) := by decide +kernel
theorem dX2_limit_44 : decode cX2_limit 44 = .ok (.goto 4, 3) := DX2_limit_2.1
theorem dX2_limit_47 : decode cX2_limit 47 = .ok (.iconst 1, 1) := DX2_limit_2.2.1
theorem dX2_limit_48 : decode cX2_limit 48 = .ok (.aload_n 0, 1) := DX2_limit_2.2.2.1
theorem dX2_limit_49 : decode cX2_limit 49 = .ok (.getfield 24, 3) := DX2_limit_2.2.2.2.1
theorem dX2_limit_52 : decode cX2_limit 52 = .ok (.iload_n 2, 1) := DX2_limit_2.2.2.2.2.1
theorem dX2_limit_53 : decode cX2_limit 53 = .ok (.if_icmp .ne 7, 3) := DX2_limit_2.2.2.2.2.2.1
theorem dX2_limit_56 : decode cX2_limit 56 = .ok (.iconst 0, 1) := DX2_limit_2.2.2.2.2.2.2.1
theorem dX2_limit_57 : decode cX2_limit 57 = .ok (.goto 4, 3) := DX2_limit_2.2.2.2.2.2.2.2.1
theorem dX2_limit_60 : decode cX2_limit 60 = .ok (.iconst 1, 1) := DX2_limit_2.2.2.2.2.2.2.2.2.1
theorem dX2_limit_61 : decode cX2_limit 61 = .ok (.iadd, 1) := DX2_limit_2.2.2.2.2.2.2.2.2.2
set_option maxRecDepth 100000 in
theorem DX2_limit_3 : decode cX2_limit 62 = .ok (.putfield 27, 3) ∧ decode cX2_limit 65 = .ok (.return_, 1) := by decide +kernel
theorem dX2_limit_62 : decode cX2_limit 62 = .ok (.putfield 27, 3) := DX2_limit_3.1
theorem dX2_limit_65 : decode cX2_limit 65 = .ok (.return_, 1) := DX2_limit_3.2
set_option maxRecDepth 100000 in
theorem DX3_init_0 : decode cX3_init 0 = .ok (.aload_n 0, 1) ∧ decode cX3_init 1 = .ok (.invokespecial 3, 3) ∧ decode cX3_init 4 = .ok (.aload_n 0, 1) ∧ decode cX3_init 5 = .ok (.ldc2_w 9, 3) ∧ decode cX3_init 8 = .ok (.putfield 11, 3) ∧ decode cX3_init 11 = .ok (.return_, 1) := by decide +kernel
theorem dX3_init_0 : decode cX3_init 0 = .ok (.aload_n 0, 1) := DX3_init_0.1
theorem dX3_init_1 : decode cX3_init 1 = .ok (.invokespecial 3, 3) := DX3_init_0.2.1
theorem dX3_init_4 : decode cX3_init 4 = .ok (.aload_n 0, 1) := DX3_init_0.2.2.1
theorem dX3_init_5 : decode cX3_init 5 = .ok (.ldc2_w 9, 3) := DX3_init_0.2.2.2.1
theorem dX3_init_8 : decode cX3_init 8 = .ok (.putfield 11, 3) := DX3_init_0.2.2.2.2.1
theorem dX3_init_11 : decode cX3_init 11 = .ok (.return_, 1) := DX3_init_0.2.2.2.2.2
set_option maxRecDepth 100000 in
theorem DX3_takeFrom_0 : decode cX3_takeFrom 0 = .ok (.aload_n 0, 1) ∧ decode cX3_takeFrom 1 = .ok (.aload_n 1, 1) ∧ decode cX3_takeFrom 2 = .ok (.getfield 17, 3) ∧ decode cX3_takeFrom 5 = .ok (.putfield 17, 3) ∧ decode cX3_takeFrom 8 = .ok (.aload_n 0, 1) ∧ decode cX3_takeFrom 9 = .ok (.aload_n 1, 1) ∧ decode cX3_takeFrom 10 = .ok (.getfield 20, 3) ∧ decode cX3_takeFrom 13 = .ok (.putfield 20, 3) ∧ decode cX3_takeFrom 16 = .ok (.aload_n 0, 1) ∧ decode cX3_takeFrom 17 = .ok (.aload_n 1, 1) := by decide +kernel
theorem dX3_takeFrom_0 : decode cX3_takeFrom 0 = .ok (.aload_n 0, 1) := DX3_takeFrom_0.1
theorem dX3_takeFrom_1 : decode cX3_takeFrom 1 = .ok (.aload_n 1, 1) := DX3_takeFrom_0.2.1
theorem dX3_takeFrom_2 : decode cX3_takeFrom 2 = .ok (.getfield 17, 3) := DX3_takeFrom_0.2.2.1
theorem dX3_takeFrom_5 : decode cX3_takeFrom 5 = .ok (.putfield 17, 3) := DX3_takeFrom_0.2.2.2.1
theorem dX3_takeFrom_8 : decode cX3_takeFrom 8 = .ok (.aload_n 0, 1) := DX3_takeFrom_0.2.2.2.2.1
theorem dX3_takeFrom_9 : decode cX3_takeFrom 9 = .ok (.aload_n 1, 1) := DX3_takeFrom_0.2.2.2.2.2.1
theorem dX3_takeFrom_10 : decode cX3_takeFrom 10 = .ok (.getfield 20, 3) := DX3_takeFrom_0.2.2.2.2.2.2.1
theorem dX3_takeFrom_13 : decode cX3_takeFrom 13 = .ok (.putfield 20, 3) := DX3_takeFrom_0.2.2.2.2.2.2.2.1
theorem dX3_takeFrom_16 : decode cX3_takeFrom 16 = .ok (.aload_n 0, 1) := DX3_takeFrom_0.2.2.2.2.2.2.2.2.1
theorem dX3_takeFrom_17 : decode cX3_takeFrom 17 = .ok (.aload_n 1, 1) := DX3_takeFrom_0.2.2.2.2.2.2.2.2.2
set_option maxRecDepth 100000 in
theorem DX3_takeFrom_1 : decode cX3_takeFrom 18 = .ok (.getfield 23, 3) ∧ decode cX3_takeFrom 21 = .ok (.putfield 23, 3) ∧ decode cX3_takeFrom 24 = .ok (.aload_n 0, 1) ∧ decode cX3_takeFrom 25 = .ok (.aload_n 1, 1) ∧ decode cX3_takeFrom 26 = .ok (.getfield 26, 3) ∧ decode cX3_takeFrom 29 = .ok (.putfield 26, 3) ∧ decode cX3_takeFrom 32 = .ok (.aload_n 0, 1) ∧ decode cX3_takeFrom 33 = .ok (.aload_n 1, 1) ∧ decode cX3_takeFrom 34 = .ok (.getfield 11, 3) ∧ decode cX3_takeFrom 37 = .ok (.putfield 11, 3) := by decide +kernel
theorem dX3_takeFrom_18 : decode cX3_takeFrom 18 = .ok (.getfield 23, 3) := DX3_takeFrom_1.1
theorem dX3_takeFrom_21 : decode cX3_takeFrom 21 = .ok (.putfield 23, 3) := DX3_takeFrom_1.2.1
theorem dX3_takeFrom_24 : decode cX3_takeFrom 24 = .ok (.aload_n 0, 1) := DX3_takeFrom_1.2.2.1
theorem dX3_takeFrom_25 : decode cX3_takeFrom 25 = .ok (.aload_n 1, 1) := DX3_takeFrom_1.2.2.2.1
theorem dX3_takeFrom_26 : decode cX3_takeFrom 26 = .ok (.getfield 26, 3) := DX3_takeFrom_1.2.2.2.2.1
theorem dX3_takeFrom_29 : decode cX3_takeFrom 29 = .ok (.putfield 26, 3) := DX3_takeFrom_1.2.2.2.2.2.1
theorem dX3_takeFrom_32 : decode cX3_takeFrom 32 = .ok (.aload_n 0, 1) := DX3_takeFrom_1.2.2.2.2.2.2.1
theorem dX3_takeFrom_33 : decode cX3_takeFrom 33 = .ok (.aload_n 1, 1) := DX3_takeFrom_1.2.2.2.2.2.2.2.1
theorem dX3_takeFrom_34 : decode cX3_takeFrom 34 = .ok (.getfield 11, 3) := DX3_takeFrom_1.2.2.2.2.2.2.2.2.1
theorem dX3_takeFrom_37 : decode cX3_takeFrom 37 = .ok (.putfield 11, 3) := DX3_takeFrom_1.2.2.2.2.2.2.2.2.2
set_option maxRecDepth 100000 in
theorem DX3_takeFrom_2 : decode cX3_takeFrom 40 = .ok (.return_, 1) := by decide +kernel
theorem dX3_takeFrom_40 : decode cX3_takeFrom 40 = .ok (.return_, 1) := DX3_takeFrom_2
set_option maxRecDepth 100000 in
theorem DX3_clear_0 : decode cX3_clear 0 = .ok (.aload_n 0, 1) ∧ decode cX3_clear 1 = .ok (.lconst 0, 1) ∧ decode cX3_clear 2 = .ok (.putfield 17, 3) ∧ decode cX3_clear 5 = .ok (.aload_n 0, 1) ∧ decode cX3_clear 6 = .ok (.lconst 0, 1) ∧ decode cX3_clear 7 = .ok (.putfield 20, 3) ∧ decode cX3_clear 10 = .ok (.aload_n 0, 1) ∧ decode cX3_clear 11 = .ok (.lconst 0, 1) ∧ decode cX3_clear 12 = .ok (.putfield 23, 3) ∧ decode cX3_clear 15 = .ok (.aload_n 0, 1) := by decide +kernel
theorem dX3_clear_0 : decode cX3_clear 0 = .ok (.aload_n 0, 1) := DX3_clear_0.1
theorem dX3_clear_1 : decode cX3_clear 1 = .ok (.lconst 0, 1) := DX3_clear_0.2.1
theorem dX3_clear_2 : decode cX3_clear 2 = .ok (.putfield 17, 3) := DX3_clear_0.2.2.1
theorem dX3_clear_5 : decode cX3_clear 5 = .ok (.aload_n 0, 1) := DX3_clear_0.2.2.2.1
theorem dX3_clear_6 : decode cX3_clear 6 = .ok (.lconst 0, 1) := DX3_clear_0.2.2.2.2.1
theorem dX3_clear_7 : decode cX3_clear 7 = .ok (.putfield 20, 3) := DX3_clear_0.2.2.2.2.2.1
theorem dX3_clear_10 : decode cX3_clear 10 = .ok (.aload_n 0, 1) := DX3_clear_0.2.2.2.2.2.2.1
theorem dX3_clear_11 : decode cX3_clear 11 = .ok (.lconst 0, 1) := DX3_clear_0.2.2.2.2.2.2.2.1
theorem dX3_clear_12 : decode cX3_clear 12 = .ok (.putfield 23, 3) := DX3_clear_0.2.2.2.2.2.2.2.2.1
theorem dX3_clear_15 : decode cX3_clear 15 = .ok (.aload_n 0, 1) := DX3_clear_0.2.2.2.2.2.2.2.2.2
set_option maxRecDepth 100000 in
theorem DX3_clear_1 : decode cX3_clear 16 = .ok (.lconst 0, 1) ∧ decode cX3_clear 17 = .ok (.putfield 26, 3) ∧ decode cX3_clear 20 = .ok (.aload_n 0, 1) ∧ decode cX3_clear 21 = .ok (.ldc2_w 9, 3) ∧ decode cX3_clear 24 = .ok (.putfield 11, 3) ∧ decode cX3_clear 27 = .ok (.return_, 1) := by decide +kernel
theorem dX3_clear_16 : decode cX3_clear 16 = .ok (.lconst 0, 1) := DX3_clear_1.1
theorem dX3_clear_17 : decode cX3_clear 17 = .ok (.putfield 26, 3) := DX3_clear_1.2.1
theorem dX3_clear_20 : decode cX3_clear 20 = .ok (.aload_n 0, 1) := DX3_clear_1.2.2.1
theorem dX3_clear_21 : decode cX3_clear 21 = .ok (.ldc2_w 9, 3) := DX3_clear_1.2.2.2.1
theorem dX3_clear_24 : decode cX3_clear 24 = .ok (.putfield 11, 3) := DX3_clear_1.2.2.2.2.1
theorem dX3_clear_27 : decode cX3_clear 27 = .ok (.return_, 1) := DX3_clear_1.2.2.2.2.2
set_option maxRecDepth 100000 in
theorem DX3_take_0 : decode cX3_take 0 = .ok (.aload_n 0, 1) ∧ decode cX3_take 1 = .ok (.dup, 1) ∧ decode cX3_take 2 = .ok (.getfield 17, 3) ∧ decode cX3_take 5 = .ok (.lconst 1, 1) ∧ decode cX3_take 6 = .ok (.ladd, 1) ∧ decode cX3_take 7 = .ok (.putfield 17, 3) ∧ decode cX3_take 10 = .ok (.aload_n 0, 1) ∧ decode cX3_take 11 = .ok (.aload_n 0, 1) ∧ decode cX3_take 12 = .ok (.getfield 20, 3) ∧ decode cX3_take 15 = .ok (.aload_n 1, 1) := by decide +kernel
theorem dX3_take_0 : decode cX3_take 0 = .ok (.aload_n 0, 1) := DX3_take_0.1
theorem dX3_take_1 : decode cX3_take 1 = .ok (.dup, 1) := DX3_take_0.2.1
theorem dX3_take_2 : decode cX3_take 2 = .ok (.getfield 17, 3) := DX3_take_0.2.2.1
theorem dX3_take_5 : decode cX3_take 5 = .ok (.lconst 1, 1) := DX3_take_0.2.2.2.1
theorem dX3_take_6 : decode cX3_take 6 = .ok (.ladd, 1) := DX3_take_0.2.2.2.2.1
theorem dX3_take_7 : decode cX3_take 7 = .ok (.putfield 17, 3) := DX3_take_0.2.2.2.2.2.1
theorem dX3_take_10 : decode cX3_take 10 = .ok (.aload_n 0, 1) := DX3_take_0.2.2.2.2.2.2.1
theorem dX3_take_11 : decode cX3_take 11 = .ok (.aload_n 0, 1) := DX3_take_0.2.2.2.2.2.2.2.1
theorem dX3_take_12 : decode cX3_take 12 = .ok (.getfield 20, 3) := DX3_take_0.2.2.2.2.2.2.2.2.1
theorem dX3_take_15 : decode cX3_take 15 = .ok (.aload_n 1, 1) := DX3_take_0.2.2.2.2.2.2.2.2.2
set_option maxRecDepth 100000 in
theorem DX3_take_1 : decode cX3_take 16 = .ok (.getfield 29, 3) ∧ decode cX3_take 19 = .ok (.invokestatic 35, 3) ∧ decode cX3_take 22 = .ok (.i2l, 1) ∧ decode cX3_take 23 = .ok (.invokestatic 41, 3) ∧ decode cX3_take 26 = .ok (.putfield 20, 3) ∧ decode cX3_take 29 = .ok (.aload_n 0, 1) ∧ decode cX3_take 30 = .ok (.aload_n 0, 1) ∧ decode cX3_take 31 = .ok (.getfield 23, 3) ∧ decode cX3_take 34 = .ok (.aload_n 1, 1) ∧ decode cX3_take 35 = .ok (.getfield 45, 3) := by decide +kernel
theorem dX3_take_16 : decode cX3_take 16 = .ok (.getfield 29, 3) := DX3_take_1.1
theorem dX3_take_19 : decode cX3_take 19 = .ok (.invokestatic 35, 3) := DX3_take_1.2.1
theorem dX3_take_22 : decode cX3_take 22 = .ok (.i2l, 1) := DX3_take_1.2.2.1
theorem dX3_take_23 : decode cX3_take 23 = .ok (.invokestatic 41, 3) := DX3_take_1.2.2.2.1
theorem dX3_take_26 : decode cX3_take 26 = .ok (.putfield 20, 3) := DX3_take_1.2.2.2.2.1
theorem dX3_take_29 : decode cX3_take 29 = .ok (.aload_n 0, 1) := DX3_take_1.2.2.2.2.2.1
theorem dX3_take_30 : decode cX3_take 30 = .ok (.aload_n 0, 1) := DX3_take_1.2.2.2.2.2.2.1
theorem dX3_take_31 : decode cX3_take 31 = .ok (.getfield 23, 3) := DX3_take_1.2.2.2.2.2.2.2.1
theorem dX3_take_34 : decode cX3_take 34 = .ok (.aload_n 1, 1) := DX3_take_1.2.2.2.2.2.2.2.2.1
theorem dX3_take_35 : decode cX3_take 35 = .ok (.getfield 45, 3) := DX3_take_1.2.2.2.2.2.2.2.2.2
set_option maxRecDepth 100000 in
theorem DX3_take_2 : decode cX3_take 38 = .ok (.invokestatic 35, 3) ∧ decode cX3_take 41 = .ok (.i2l, 1) ∧ decode cX3_take 42 = .ok (.invokestatic 41, 3) ∧ decode cX3_take 45 = .ok (.putfield 23, 3) ∧ decode cX3_take 48 = .ok (.aload_n 0, 1) ∧ decode cX3_take 49 = .ok (.dup, 1) ∧ decode cX3_take 50 = .ok (.getfield 26, 3) ∧ decode cX3_take 53 = .ok (.aload_n 1, 1) ∧ decode cX3_take 54 = .ok (.getfield 48, 3) ∧ decode cX3_take 57 = .ok (.i2l, 1) := by decide +kernel
theorem dX3_take_38 : decode cX3_take 38 = .ok (.invokestatic 35, 3) := DX3_take_2.1
theorem dX3_take_41 : decode cX3_take 41 = .ok (.i2l, 1) := DX3_take_2.2.1
theorem dX3_take_42 : decode cX3_take 42 = .ok (.invokestatic 41, 3) := DX3_take_2.2.2.1
theorem dX3_take_45 : decode cX3_take 45 = .ok (.putfield 23, 3) := DX3_take_2.2.2.2.1
theorem dX3_take_48 : decode cX3_take 48 = .ok (.aload_n 0, 1) := DX3_take_2.2.2.2.2.1
theorem dX3_take_49 : decode cX3_take 49 = .ok (.dup, 1) := DX3_take_2.2.2.2.2.2.1
theorem dX3_take_50 : decode cX3_take 50 = .ok (.getfield 26, 3) := DX3_take_2.2.2.2.2.2.2.1
theorem dX3_take_53 : decode cX3_take 53 = .ok (.aload_n 1, 1) := DX3_take_2.2.2.2.2.2.2.2.1
theorem dX3_take_54 : decode cX3_take 54 = .ok (.getfield 48, 3) := DX3_take_2.2.2.2.2.2.2.2.2.1
theorem dX3_take_57 : decode cX3_take 57 = .ok (.i2l, 1) := DX3_take_2.2.2.2.2.2.2.2.2.2
set_option maxRecDepth 100000 in
theorem DX3_take_3 : decode cX3_take 58 = .ok (.ladd, 1) ∧ decode cX3_take 59 = .ok (.putfield 26, 3) ∧ decode cX3_take 62 = .ok (.aload_n 0, 1) ∧ decode cX3_take 63 = .ok (.aload_n 0, 1) ∧ decode cX3_take 64 = .ok (.getfield 11, 3) ∧ decode cX3_take 67 = .ok (.aload_n 1, 1) ∧ decode cX3_take 68 = .ok (.getfield 29, 3) ∧ decode cX3_take 71 = .ok (.i2l, 1) ∧ decode cX3_take 72 = .ok (.invokestatic 50, 3) ∧ decode cX3_take 75 = .ok (.aload_n 1, 1) := by decide +kernel
theorem dX3_take_58 : decode cX3_take 58 = .ok (.ladd, 1) := DX3_take_3.1
theorem dX3_take_59 : decode cX3_take 59 = .ok (.putfield 26, 3) := DX3_take_3.2.1
theorem dX3_take_62 : decode cX3_take 62 = .ok (.aload_n 0, 1) := DX3_take_3.2.2.1
theorem dX3_take_63 : decode cX3_take 63 = .ok (.aload_n 0, 1) := DX3_take_3.2.2.2.1
theorem dX3_take_64 : decode cX3_take 64 = .ok (.getfield 11, 3) := DX3_take_3.2.2.2.2.1
theorem dX3_take_67 : decode cX3_take 67 = .ok (.aload_n 1, 1) := DX3_take_3.2.2.2.2.2.1
theorem dX3_take_68 : decode cX3_take 68 = .ok (.getfield 29, 3) := DX3_take_3.2.2.2.2.2.2.1
theorem dX3_take_71 : decode cX3_take 71 = .ok (.i2l, 1) := DX3_take_3.2.2.2.2.2.2.2.1
theorem dX3_take_72 : decode cX3_take 72 = .ok (.invokestatic 50, 3) := DX3_take_3.2.2.2.2.2.2.2.2.1
theorem dX3_take_75 : decode cX3_take 75 = .ok (.aload_n 1, 1) := DX3_take_3.2.2.2.2.2.2.2.2.2
set_option maxRecDepth 100000 in
theorem DX3_take_4 : decode cX3_take 76 = .ok (.getfield 45, 3) ∧ decode cX3_take 79 = .ok (.i2l, 1) ∧ decode cX3_take 80 = .ok (.invokestatic 50, 3) ∧ decode cX3_take 83 = .ok (.putfield 11, 3) ∧ decode cX3_take 86 = .ok (.return_, 1) := by decide +kernel
theorem dX3_take_76 : decode cX3_take 76 = .ok (.getfield 45, 3) := DX3_take_4.1
theorem dX3_take_79 : decode cX3_take 79 = .ok (.i2l, 1) := DX3_take_4.2.1
theorem dX3_take_80 : decode cX3_take 80 = .ok (.invokestatic 50, 3) := DX3_take_4.2.2.1
theorem dX3_take_83 : decode cX3_take 83 = .ok (.putfield 11, 3) := DX3_take_4.2.2.2.1
theorem dX3_take_86 : decode cX3_take 86 = .ok (.return_, 1) := DX3_take_4.2.2.2.2
set_option maxRecDepth 100000 in
theorem DX3_reading_0 : decode cX3_reading 0 = .ok (.iload_n 1, 1) ∧ decode cX3_reading 1 = .ok (.tableswitch 51 0 3 #[31, 36, 41, 46], 31) ∧ decode cX3_reading 32 = .ok (.aload_n 0, 1) ∧ decode cX3_reading 33 = .ok (.getfield 17, 3) ∧ decode cX3_reading 36 = .ok (.lreturn, 1) ∧ decode cX3_reading 37 = .ok (.aload_n 0, 1) ∧ decode cX3_reading 38 = .ok (.getfield 20, 3) ∧ decode cX3_reading 41 = .ok (.lreturn, 1) ∧ decode cX3_reading 42 = .ok (.aload_n 0, 1) ∧ decode cX3_reading 43 = .ok (.getfield 23, 3) := by decide +kernel
theorem dX3_reading_0 : decode cX3_reading 0 = .ok (.iload_n 1, 1) := DX3_reading_0.1
theorem dX3_reading_1 : decode cX3_reading 1 = .ok (.tableswitch 51 0 3 #[31, 36, 41, 46], 31) := DX3_reading_0.2.1
theorem dX3_reading_32 : decode cX3_reading 32 = .ok (.aload_n 0, 1) := DX3_reading_0.2.2.1
theorem dX3_reading_33 : decode cX3_reading 33 = .ok (.getfield 17, 3) := DX3_reading_0.2.2.2.1
theorem dX3_reading_36 : decode cX3_reading 36 = .ok (.lreturn, 1) := DX3_reading_0.2.2.2.2.1
theorem dX3_reading_37 : decode cX3_reading 37 = .ok (.aload_n 0, 1) := DX3_reading_0.2.2.2.2.2.1
theorem dX3_reading_38 : decode cX3_reading 38 = .ok (.getfield 20, 3) := DX3_reading_0.2.2.2.2.2.2.1
theorem dX3_reading_41 : decode cX3_reading 41 = .ok (.lreturn, 1) := DX3_reading_0.2.2.2.2.2.2.2.1
theorem dX3_reading_42 : decode cX3_reading 42 = .ok (.aload_n 0, 1) := DX3_reading_0.2.2.2.2.2.2.2.2.1
theorem dX3_reading_43 : decode cX3_reading 43 = .ok (.getfield 23, 3) := DX3_reading_0.2.2.2.2.2.2.2.2.2
set_option maxRecDepth 100000 in
theorem DX3_reading_1 : decode cX3_reading 46 = .ok (.lreturn, 1) ∧ decode cX3_reading 47 = .ok (.aload_n 0, 1) ∧ decode cX3_reading 48 = .ok (.getfield 26, 3) ∧ decode cX3_reading 51 = .ok (.lreturn, 1) ∧ decode cX3_reading 52 = .ok (.aload_n 0, 1) ∧ decode cX3_reading 53 = .ok (.getfield 11, 3) ∧ decode cX3_reading 56 = .ok (.lreturn, 1) := by decide +kernel
theorem dX3_reading_46 : decode cX3_reading 46 = .ok (.lreturn, 1) := DX3_reading_1.1
theorem dX3_reading_47 : decode cX3_reading 47 = .ok (.aload_n 0, 1) := DX3_reading_1.2.1
theorem dX3_reading_48 : decode cX3_reading 48 = .ok (.getfield 26, 3) := DX3_reading_1.2.2.1
theorem dX3_reading_51 : decode cX3_reading 51 = .ok (.lreturn, 1) := DX3_reading_1.2.2.2.1
theorem dX3_reading_52 : decode cX3_reading 52 = .ok (.aload_n 0, 1) := DX3_reading_1.2.2.2.2.1
theorem dX3_reading_53 : decode cX3_reading 53 = .ok (.getfield 11, 3) := DX3_reading_1.2.2.2.2.2.1
theorem dX3_reading_56 : decode cX3_reading 56 = .ok (.lreturn, 1) := DX3_reading_1.2.2.2.2.2.2
set_option maxRecDepth 100000 in
theorem DX4_init_0 : decode cX4_init 0 = .ok (.aload_n 0, 1) ∧ decode cX4_init 1 = .ok (.invokespecial 3, 3) ∧ decode cX4_init 4 = .ok (.aload_n 0, 1) ∧ decode cX4_init 5 = .ok (.iconst 0, 1) ∧ decode cX4_init 6 = .ok (.putfield 9, 3) ∧ decode cX4_init 9 = .ok (.aload_n 0, 1) ∧ decode cX4_init 10 = .ok (.iconst 1, 1) ∧ decode cX4_init 11 = .ok (.putfield 15, 3) ∧ decode cX4_init 14 = .ok (.aload_n 0, 1) ∧ decode cX4_init 15 = .ok (.sipush 4000, 3) := by decide +kernel
theorem dX4_init_0 : decode cX4_init 0 = .ok (.aload_n 0, 1) := DX4_init_0.1
theorem dX4_init_1 : decode cX4_init 1 = .ok (.invokespecial 3, 3) := DX4_init_0.2.1
theorem dX4_init_4 : decode cX4_init 4 = .ok (.aload_n 0, 1) := DX4_init_0.2.2.1
theorem dX4_init_5 : decode cX4_init 5 = .ok (.iconst 0, 1) := DX4_init_0.2.2.2.1
theorem dX4_init_6 : decode cX4_init 6 = .ok (.putfield 9, 3) := DX4_init_0.2.2.2.2.1
theorem dX4_init_9 : decode cX4_init 9 = .ok (.aload_n 0, 1) := DX4_init_0.2.2.2.2.2.1
theorem dX4_init_10 : decode cX4_init 10 = .ok (.iconst 1, 1) := DX4_init_0.2.2.2.2.2.2.1
theorem dX4_init_11 : decode cX4_init 11 = .ok (.putfield 15, 3) := DX4_init_0.2.2.2.2.2.2.2.1
theorem dX4_init_14 : decode cX4_init 14 = .ok (.aload_n 0, 1) := DX4_init_0.2.2.2.2.2.2.2.2.1
theorem dX4_init_15 : decode cX4_init 15 = .ok (.sipush 4000, 3) := DX4_init_0.2.2.2.2.2.2.2.2.2
set_option maxRecDepth 100000 in
theorem DX4_init_1 : decode cX4_init 18 = .ok (.putfield 18, 3) ∧ decode cX4_init 21 = .ok (.return_, 1) := by decide +kernel
theorem dX4_init_18 : decode cX4_init 18 = .ok (.putfield 18, 3) := DX4_init_1.1
theorem dX4_init_21 : decode cX4_init 21 = .ok (.return_, 1) := DX4_init_1.2
set_option maxRecDepth 100000 in
theorem DX4_define_0 : decode cX4_define 0 = .ok (.aload_n 0, 1) ∧ decode cX4_define 1 = .ok (.iload_n 1, 1) ∧ decode cX4_define 2 = .ok (.putfield 9, 3) ∧ decode cX4_define 5 = .ok (.aload_n 0, 1) ∧ decode cX4_define 6 = .ok (.iload_n 2, 1) ∧ decode cX4_define 7 = .ok (.putfield 21, 3) ∧ decode cX4_define 10 = .ok (.aload_n 0, 1) ∧ decode cX4_define 11 = .ok (.iload_n 3, 1) ∧ decode cX4_define 12 = .ok (.putfield 15, 3) ∧ decode cX4_define 15 = .ok (.aload_n 0, 1) := by decide +kernel
theorem dX4_define_0 : decode cX4_define 0 = .ok (.aload_n 0, 1) := DX4_define_0.1
theorem dX4_define_1 : decode cX4_define 1 = .ok (.iload_n 1, 1) := DX4_define_0.2.1
theorem dX4_define_2 : decode cX4_define 2 = .ok (.putfield 9, 3) := DX4_define_0.2.2.1
theorem dX4_define_5 : decode cX4_define 5 = .ok (.aload_n 0, 1) := DX4_define_0.2.2.2.1
theorem dX4_define_6 : decode cX4_define 6 = .ok (.iload_n 2, 1) := DX4_define_0.2.2.2.2.1
theorem dX4_define_7 : decode cX4_define 7 = .ok (.putfield 21, 3) := DX4_define_0.2.2.2.2.2.1
theorem dX4_define_10 : decode cX4_define 10 = .ok (.aload_n 0, 1) := DX4_define_0.2.2.2.2.2.2.1
theorem dX4_define_11 : decode cX4_define 11 = .ok (.iload_n 3, 1) := DX4_define_0.2.2.2.2.2.2.2.1
theorem dX4_define_12 : decode cX4_define 12 = .ok (.putfield 15, 3) := DX4_define_0.2.2.2.2.2.2.2.2.1
theorem dX4_define_15 : decode cX4_define 15 = .ok (.aload_n 0, 1) := DX4_define_0.2.2.2.2.2.2.2.2.2
set_option maxRecDepth 100000 in
theorem DX4_define_1 : decode cX4_define 16 = .ok (.iload 4, 2) ∧ decode cX4_define 18 = .ok (.putfield 18, 3) ∧ decode cX4_define 21 = .ok (.return_, 1) := by decide +kernel
theorem dX4_define_16 : decode cX4_define 16 = .ok (.iload 4, 2) := DX4_define_1.1
theorem dX4_define_18 : decode cX4_define 18 = .ok (.putfield 18, 3) := DX4_define_1.2.1
theorem dX4_define_21 : decode cX4_define 21 = .ok (.return_, 1) := DX4_define_1.2.2
set_option maxRecDepth 100000 in
theorem DX4_takeFrom_0 : decode cX4_takeFrom 0 = .ok (.aload_n 0, 1) ∧ decode cX4_takeFrom 1 = .ok (.aload_n 1, 1) ∧ decode cX4_takeFrom 2 = .ok (.getfield 9, 3) ∧ decode cX4_takeFrom 5 = .ok (.aload_n 1, 1) ∧ decode cX4_takeFrom 6 = .ok (.getfield 21, 3) ∧ decode cX4_takeFrom 9 = .ok (.aload_n 1, 1) ∧ decode cX4_takeFrom 10 = .ok (.getfield 15, 3) ∧ decode cX4_takeFrom 13 = .ok (.aload_n 1, 1) ∧ decode cX4_takeFrom 14 = .ok (.getfield 18, 3) ∧ decode cX4_takeFrom 17 = .ok (.invokevirtual 24, 3) := by decide +kernel
theorem dX4_takeFrom_0 : decode cX4_takeFrom 0 = .ok (.aload_n 0, 1) := DX4_takeFrom_0.1
theorem dX4_takeFrom_1 : decode cX4_takeFrom 1 = .ok (.aload_n 1, 1) := DX4_takeFrom_0.2.1
theorem dX4_takeFrom_2 : decode cX4_takeFrom 2 = .ok (.getfield 9, 3) := DX4_takeFrom_0.2.2.1
theorem dX4_takeFrom_5 : decode cX4_takeFrom 5 = .ok (.aload_n 1, 1) := DX4_takeFrom_0.2.2.2.1
theorem dX4_takeFrom_6 : decode cX4_takeFrom 6 = .ok (.getfield 21, 3) := DX4_takeFrom_0.2.2.2.2.1
theorem dX4_takeFrom_9 : decode cX4_takeFrom 9 = .ok (.aload_n 1, 1) := DX4_takeFrom_0.2.2.2.2.2.1
theorem dX4_takeFrom_10 : decode cX4_takeFrom 10 = .ok (.getfield 15, 3) := DX4_takeFrom_0.2.2.2.2.2.2.1
theorem dX4_takeFrom_13 : decode cX4_takeFrom 13 = .ok (.aload_n 1, 1) := DX4_takeFrom_0.2.2.2.2.2.2.2.1
theorem dX4_takeFrom_14 : decode cX4_takeFrom 14 = .ok (.getfield 18, 3) := DX4_takeFrom_0.2.2.2.2.2.2.2.2.1
theorem dX4_takeFrom_17 : decode cX4_takeFrom 17 = .ok (.invokevirtual 24, 3) := DX4_takeFrom_0.2.2.2.2.2.2.2.2.2
set_option maxRecDepth 100000 in
theorem DX4_takeFrom_1 : decode cX4_takeFrom 20 = .ok (.return_, 1) := by decide +kernel
theorem dX4_takeFrom_20 : decode cX4_takeFrom 20 = .ok (.return_, 1) := DX4_takeFrom_1
set_option maxRecDepth 100000 in
theorem DX4_valueAt_0 : decode cX4_valueAt 0 = .ok (.iload_n 1, 1) ∧ decode cX4_valueAt 1 = .ok (.ifCond .lt 19, 3) ∧ decode cX4_valueAt 4 = .ok (.iload_n 1, 1) ∧ decode cX4_valueAt 5 = .ok (.aload_n 0, 1) ∧ decode cX4_valueAt 6 = .ok (.getfield 18, 3) ∧ decode cX4_valueAt 9 = .ok (.if_icmp .ge 11, 3) ∧ decode cX4_valueAt 12 = .ok (.aload_n 0, 1) ∧ decode cX4_valueAt 13 = .ok (.getfield 15, 3) ∧ decode cX4_valueAt 16 = .ok (.iconst 1, 1) ∧ decode cX4_valueAt 17 = .ok (.if_icmp .ge 5, 3) := by decide +kernel
theorem dX4_valueAt_0 : decode cX4_valueAt 0 = .ok (.iload_n 1, 1) := DX4_valueAt_0.1
theorem dX4_valueAt_1 : decode cX4_valueAt 1 = .ok (.ifCond .lt 19, 3) := DX4_valueAt_0.2.1
theorem dX4_valueAt_4 : decode cX4_valueAt 4 = .ok (.iload_n 1, 1) := DX4_valueAt_0.2.2.1
theorem dX4_valueAt_5 : decode cX4_valueAt 5 = .ok (.aload_n 0, 1) := DX4_valueAt_0.2.2.2.1
theorem dX4_valueAt_6 : decode cX4_valueAt 6 = .ok (.getfield 18, 3) := DX4_valueAt_0.2.2.2.2.1
theorem dX4_valueAt_9 : decode cX4_valueAt 9 = .ok (.if_icmp .ge 11, 3) := DX4_valueAt_0.2.2.2.2.2.1
theorem dX4_valueAt_12 : decode cX4_valueAt 12 = .ok (.aload_n 0, 1) := DX4_valueAt_0.2.2.2.2.2.2.1
theorem dX4_valueAt_13 : decode cX4_valueAt 13 = .ok (.getfield 15, 3) := DX4_valueAt_0.2.2.2.2.2.2.2.1
theorem dX4_valueAt_16 : decode cX4_valueAt 16 = .ok (.iconst 1, 1) := DX4_valueAt_0.2.2.2.2.2.2.2.2.1
theorem dX4_valueAt_17 : decode cX4_valueAt 17 = .ok (.if_icmp .ge 5, 3) := DX4_valueAt_0.2.2.2.2.2.2.2.2.2
set_option maxRecDepth 100000 in
theorem DX4_valueAt_1 : decode cX4_valueAt 20 = .ok (.iconst 0, 1) ∧ decode cX4_valueAt 21 = .ok (.ireturn, 1) ∧ decode cX4_valueAt 22 = .ok (.iload_n 1, 1) ∧ decode cX4_valueAt 23 = .ok (.aload_n 0, 1) ∧ decode cX4_valueAt 24 = .ok (.getfield 15, 3) ∧ decode cX4_valueAt 27 = .ok (.irem, 1) ∧ decode cX4_valueAt 28 = .ok (.istore_n 2, 1) ∧ decode cX4_valueAt 29 = .ok (.aload_n 0, 1) ∧ decode cX4_valueAt 30 = .ok (.getfield 9, 3) ∧ decode cX4_valueAt 33 = .ok (.tableswitch 122 1 3 #[27, 50, 69], 27) := by decide +kernel
theorem dX4_valueAt_20 : decode cX4_valueAt 20 = .ok (.iconst 0, 1) := DX4_valueAt_1.1
theorem dX4_valueAt_21 : decode cX4_valueAt 21 = .ok (.ireturn, 1) := DX4_valueAt_1.2.1
theorem dX4_valueAt_22 : decode cX4_valueAt 22 = .ok (.iload_n 1, 1) := DX4_valueAt_1.2.2.1
theorem dX4_valueAt_23 : decode cX4_valueAt 23 = .ok (.aload_n 0, 1) := DX4_valueAt_1.2.2.2.1
theorem dX4_valueAt_24 : decode cX4_valueAt 24 = .ok (.getfield 15, 3) := DX4_valueAt_1.2.2.2.2.1
theorem dX4_valueAt_27 : decode cX4_valueAt 27 = .ok (.irem, 1) := DX4_valueAt_1.2.2.2.2.2.1
theorem dX4_valueAt_28 : decode cX4_valueAt 28 = .ok (.istore_n 2, 1) := DX4_valueAt_1.2.2.2.2.2.2.1
theorem dX4_valueAt_29 : decode cX4_valueAt 29 = .ok (.aload_n 0, 1) := DX4_valueAt_1.2.2.2.2.2.2.2.1
theorem dX4_valueAt_30 : decode cX4_valueAt 30 = .ok (.getfield 9, 3) := DX4_valueAt_1.2.2.2.2.2.2.2.2.1
theorem dX4_valueAt_33 : decode cX4_valueAt 33 = .ok (.tableswitch 122 1 3 #[27, 50, 69], 27) := DX4_valueAt_1.2.2.2.2.2.2.2.2.2
set_option maxRecDepth 100000 in
theorem DX4_valueAt_2 : decode cX4_valueAt 60 = .ok (.iconst 2, 1) ∧ decode cX4_valueAt 61 = .ok (.iload_n 2, 1) ∧ decode cX4_valueAt 62 = .ok (.imul, 1) ∧ decode cX4_valueAt 63 = .ok (.aload_n 0, 1) ∧ decode cX4_valueAt 64 = .ok (.getfield 15, 3) ∧ decode cX4_valueAt 67 = .ok (.if_icmp .ge 10, 3) ∧ decode cX4_valueAt 70 = .ok (.aload_n 0, 1) ∧ decode cX4_valueAt 71 = .ok (.getfield 21, 3) ∧ decode cX4_valueAt 74 = .ok (.goto 8, 3) ∧ decode cX4_valueAt 77 = .ok (.aload_n 0, 1) := by decide +kernel
theorem dX4_valueAt_60 : decode cX4_valueAt 60 = .ok (.iconst 2, 1) := DX4_valueAt_2.1
theorem dX4_valueAt_61 : decode cX4_valueAt 61 = .ok (.iload_n 2, 1) := DX4_valueAt_2.2.1
theorem dX4_valueAt_62 : decode cX4_valueAt 62 = .ok (.imul, 1) := DX4_valueAt_2.2.2.1
theorem dX4_valueAt_63 : decode cX4_valueAt 63 = .ok (.aload_n 0, 1) := DX4_valueAt_2.2.2.2.1
theorem dX4_valueAt_64 : decode cX4_valueAt 64 = .ok (.getfield 15, 3) := DX4_valueAt_2.2.2.2.2.1
theorem dX4_valueAt_67 : decode cX4_valueAt 67 = .ok (.if_icmp .ge 10, 3) := DX4_valueAt_2.2.2.2.2.2.1
theorem dX4_valueAt_70 : decode cX4_valueAt 70 = .ok (.aload_n 0, 1) := DX4_valueAt_2.2.2.2.2.2.2.1
theorem dX4_valueAt_71 : decode cX4_valueAt 71 = .ok (.getfield 21, 3) := DX4_valueAt_2.2.2.2.2.2.2.2.1
theorem dX4_valueAt_74 : decode cX4_valueAt 74 = .ok (.goto 8, 3) := DX4_valueAt_2.2.2.2.2.2.2.2.2.1
theorem dX4_valueAt_77 : decode cX4_valueAt 77 = .ok (.aload_n 0, 1) := DX4_valueAt_2.2.2.2.2.2.2.2.2.2
set_option maxRecDepth 100000 in
theorem DX4_valueAt_3 : decode cX4_valueAt 78 = .ok (.getfield 21, 3) ∧ decode cX4_valueAt 81 = .ok (.ineg, 1) ∧ decode cX4_valueAt 82 = .ok (.ireturn, 1) ∧ decode cX4_valueAt 83 = .ok (.iconst 2, 1) ∧ decode cX4_valueAt 84 = .ok (.aload_n 0, 1) ∧ decode cX4_valueAt 85 = .ok (.getfield 21, 3) ∧ decode cX4_valueAt 88 = .ok (.imul, 1) ∧ decode cX4_valueAt 89 = .ok (.iload_n 2, 1) ∧ decode cX4_valueAt 90 = .ok (.imul, 1) ∧ decode cX4_valueAt 91 = .ok (.aload_n 0, 1) := by decide +kernel
theorem dX4_valueAt_78 : decode cX4_valueAt 78 = .ok (.getfield 21, 3) := DX4_valueAt_3.1
theorem dX4_valueAt_81 : decode cX4_valueAt 81 = .ok (.ineg, 1) := DX4_valueAt_3.2.1
theorem dX4_valueAt_82 : decode cX4_valueAt 82 = .ok (.ireturn, 1) := DX4_valueAt_3.2.2.1
theorem dX4_valueAt_83 : decode cX4_valueAt 83 = .ok (.iconst 2, 1) := DX4_valueAt_3.2.2.2.1
theorem dX4_valueAt_84 : decode cX4_valueAt 84 = .ok (.aload_n 0, 1) := DX4_valueAt_3.2.2.2.2.1
theorem dX4_valueAt_85 : decode cX4_valueAt 85 = .ok (.getfield 21, 3) := DX4_valueAt_3.2.2.2.2.2.1
theorem dX4_valueAt_88 : decode cX4_valueAt 88 = .ok (.imul, 1) := DX4_valueAt_3.2.2.2.2.2.2.1
theorem dX4_valueAt_89 : decode cX4_valueAt 89 = .ok (.iload_n 2, 1) := DX4_valueAt_3.2.2.2.2.2.2.2.1
theorem dX4_valueAt_90 : decode cX4_valueAt 90 = .ok (.imul, 1) := DX4_valueAt_3.2.2.2.2.2.2.2.2.1
theorem dX4_valueAt_91 : decode cX4_valueAt 91 = .ok (.aload_n 0, 1) := DX4_valueAt_3.2.2.2.2.2.2.2.2.2
set_option maxRecDepth 100000 in
theorem DX4_valueAt_4 : decode cX4_valueAt 92 = .ok (.getfield 15, 3) ∧ decode cX4_valueAt 95 = .ok (.idiv, 1) ∧ decode cX4_valueAt 96 = .ok (.aload_n 0, 1) ∧ decode cX4_valueAt 97 = .ok (.getfield 21, 3) ∧ decode cX4_valueAt 100 = .ok (.isub, 1) ∧ decode cX4_valueAt 101 = .ok (.ireturn, 1) ∧ decode cX4_valueAt 102 = .ok (.iconst 2, 1) ∧ decode cX4_valueAt 103 = .ok (.iconst 0, 1) ∧ decode cX4_valueAt 104 = .ok (.aload_n 0, 1) ∧ decode cX4_valueAt 105 = .ok (.getfield 21, 3) := by decide +kernel
theorem dX4_valueAt_92 : decode cX4_valueAt 92 = .ok (.getfield 15, 3) := DX4_valueAt_4.1
theorem dX4_valueAt_95 : decode cX4_valueAt 95 = .ok (.idiv, 1) := DX4_valueAt_4.2.1
theorem dX4_valueAt_96 : decode cX4_valueAt 96 = .ok (.aload_n 0, 1) := DX4_valueAt_4.2.2.1
theorem dX4_valueAt_97 : decode cX4_valueAt 97 = .ok (.getfield 21, 3) := DX4_valueAt_4.2.2.2.1
theorem dX4_valueAt_100 : decode cX4_valueAt 100 = .ok (.isub, 1) := DX4_valueAt_4.2.2.2.2.1
theorem dX4_valueAt_101 : decode cX4_valueAt 101 = .ok (.ireturn, 1) := DX4_valueAt_4.2.2.2.2.2.1
theorem dX4_valueAt_102 : decode cX4_valueAt 102 = .ok (.iconst 2, 1) := DX4_valueAt_4.2.2.2.2.2.2.1
theorem dX4_valueAt_103 : decode cX4_valueAt 103 = .ok (.iconst 0, 1) := DX4_valueAt_4.2.2.2.2.2.2.2.1
theorem dX4_valueAt_104 : decode cX4_valueAt 104 = .ok (.aload_n 0, 1) := DX4_valueAt_4.2.2.2.2.2.2.2.2.1
theorem dX4_valueAt_105 : decode cX4_valueAt 105 = .ok (.getfield 21, 3) := DX4_valueAt_4.2.2.2.2.2.2.2.2.2
set_option maxRecDepth 100000 in
theorem DX4_valueAt_5 : decode cX4_valueAt 108 = .ok (.invokestatic 28, 3) ∧ decode cX4_valueAt 111 = .ok (.imul, 1) ∧ decode cX4_valueAt 112 = .ok (.iconst 1, 1) ∧ decode cX4_valueAt 113 = .ok (.iadd, 1) ∧ decode cX4_valueAt 114 = .ok (.istore_n 3, 1) ∧ decode cX4_valueAt 115 = .ok (.ldc2_w 34, 3) ∧ decode cX4_valueAt 118 = .ok (.iload_n 1, 1) ∧ decode cX4_valueAt 119 = .ok (.iconst 1, 1) ∧ decode cX4_valueAt 120 = .ok (.iadd, 1) ∧ decode cX4_valueAt 121 = .ok (.i2l, 1) := by decide +kernel
theorem dX4_valueAt_108 : decode cX4_valueAt 108 = .ok (.invokestatic 28, 3) := DX4_valueAt_5.1
theorem dX4_valueAt_111 : decode cX4_valueAt 111 = .ok (.imul, 1) := DX4_valueAt_5.2.1
theorem dX4_valueAt_112 : decode cX4_valueAt 112 = .ok (.iconst 1, 1) := DX4_valueAt_5.2.2.1
theorem dX4_valueAt_113 : decode cX4_valueAt 113 = .ok (.iadd, 1) := DX4_valueAt_5.2.2.2.1
theorem dX4_valueAt_114 : decode cX4_valueAt 114 = .ok (.istore_n 3, 1) := DX4_valueAt_5.2.2.2.2.1
theorem dX4_valueAt_115 : decode cX4_valueAt 115 = .ok (.ldc2_w 34, 3) := DX4_valueAt_5.2.2.2.2.2.1
theorem dX4_valueAt_118 : decode cX4_valueAt 118 = .ok (.iload_n 1, 1) := DX4_valueAt_5.2.2.2.2.2.2.1
theorem dX4_valueAt_119 : decode cX4_valueAt 119 = .ok (.iconst 1, 1) := DX4_valueAt_5.2.2.2.2.2.2.2.1
theorem dX4_valueAt_120 : decode cX4_valueAt 120 = .ok (.iadd, 1) := DX4_valueAt_5.2.2.2.2.2.2.2.2.1
theorem dX4_valueAt_121 : decode cX4_valueAt 121 = .ok (.i2l, 1) := DX4_valueAt_5.2.2.2.2.2.2.2.2.2
set_option maxRecDepth 100000 in
theorem DX4_valueAt_6 : decode cX4_valueAt 122 = .ok (.lmul, 1) ∧ decode cX4_valueAt 123 = .ok (.ldc2_w 36, 3) ∧ decode cX4_valueAt 126 = .ok (.aload_n 0, 1) ∧ decode cX4_valueAt 127 = .ok (.getfield 15, 3) ∧ decode cX4_valueAt 130 = .ok (.i2l, 1) ∧ decode cX4_valueAt 131 = .ok (.lmul, 1) ∧ decode cX4_valueAt 132 = .ok (.ladd, 1) ∧ decode cX4_valueAt 133 = .ok (.ldc2_w 38, 3) ∧ decode cX4_valueAt 136 = .ok (.lrem, 1) ∧ decode cX4_valueAt 137 = .ok (.lstore 4, 2) := by decide +kernel
theorem dX4_valueAt_122 : decode cX4_valueAt 122 = .ok (.lmul, 1) := DX4_valueAt_6.1
theorem dX4_valueAt_123 : decode cX4_valueAt 123 = .ok (.ldc2_w 36, 3) := DX4_valueAt_6.2.1
theorem dX4_valueAt_126 : decode cX4_valueAt 126 = .ok (.aload_n 0, 1) := DX4_valueAt_6.2.2.1
theorem dX4_valueAt_127 : decode cX4_valueAt 127 = .ok (.getfield 15, 3) := DX4_valueAt_6.2.2.2.1
theorem dX4_valueAt_130 : decode cX4_valueAt 130 = .ok (.i2l, 1) := DX4_valueAt_6.2.2.2.2.1
theorem dX4_valueAt_131 : decode cX4_valueAt 131 = .ok (.lmul, 1) := DX4_valueAt_6.2.2.2.2.2.1
theorem dX4_valueAt_132 : decode cX4_valueAt 132 = .ok (.ladd, 1) := DX4_valueAt_6.2.2.2.2.2.2.1
theorem dX4_valueAt_133 : decode cX4_valueAt 133 = .ok (.ldc2_w 38, 3) := DX4_valueAt_6.2.2.2.2.2.2.2.1
theorem dX4_valueAt_136 : decode cX4_valueAt 136 = .ok (.lrem, 1) := DX4_valueAt_6.2.2.2.2.2.2.2.2.1
theorem dX4_valueAt_137 : decode cX4_valueAt 137 = .ok (.lstore 4, 2) := DX4_valueAt_6.2.2.2.2.2.2.2.2.2
set_option maxRecDepth 100000 in
theorem DX4_valueAt_7 : decode cX4_valueAt 139 = .ok (.lload 4, 2) ∧ decode cX4_valueAt 141 = .ok (.ldc2_w 40, 3) ∧ decode cX4_valueAt 144 = .ok (.ldiv, 1) ∧ decode cX4_valueAt 145 = .ok (.iload_n 3, 1) ∧ decode cX4_valueAt 146 = .ok (.i2l, 1) ∧ decode cX4_valueAt 147 = .ok (.lrem, 1) ∧ decode cX4_valueAt 148 = .ok (.l2i, 1) ∧ decode cX4_valueAt 149 = .ok (.aload_n 0, 1) ∧ decode cX4_valueAt 150 = .ok (.getfield 21, 3) ∧ decode cX4_valueAt 153 = .ok (.isub, 1) := by decide +kernel
theorem dX4_valueAt_139 : decode cX4_valueAt 139 = .ok (.lload 4, 2) := DX4_valueAt_7.1
theorem dX4_valueAt_141 : decode cX4_valueAt 141 = .ok (.ldc2_w 40, 3) := DX4_valueAt_7.2.1
theorem dX4_valueAt_144 : decode cX4_valueAt 144 = .ok (.ldiv, 1) := DX4_valueAt_7.2.2.1
theorem dX4_valueAt_145 : decode cX4_valueAt 145 = .ok (.iload_n 3, 1) := DX4_valueAt_7.2.2.2.1
theorem dX4_valueAt_146 : decode cX4_valueAt 146 = .ok (.i2l, 1) := DX4_valueAt_7.2.2.2.2.1
theorem dX4_valueAt_147 : decode cX4_valueAt 147 = .ok (.lrem, 1) := DX4_valueAt_7.2.2.2.2.2.1
theorem dX4_valueAt_148 : decode cX4_valueAt 148 = .ok (.l2i, 1) := DX4_valueAt_7.2.2.2.2.2.2.1
theorem dX4_valueAt_149 : decode cX4_valueAt 149 = .ok (.aload_n 0, 1) := DX4_valueAt_7.2.2.2.2.2.2.2.1
theorem dX4_valueAt_150 : decode cX4_valueAt 150 = .ok (.getfield 21, 3) := DX4_valueAt_7.2.2.2.2.2.2.2.2.1
theorem dX4_valueAt_153 : decode cX4_valueAt 153 = .ok (.isub, 1) := DX4_valueAt_7.2.2.2.2.2.2.2.2.2
set_option maxRecDepth 100000 in
theorem DX4_valueAt_8 : decode cX4_valueAt 154 = .ok (.ireturn, 1) ∧ decode cX4_valueAt 155 = .ok (.aload_n 0, 1) ∧ decode cX4_valueAt 156 = .ok (.getfield 21, 3) ∧ decode cX4_valueAt 159 = .ok (.ireturn, 1) := by decide +kernel
theorem dX4_valueAt_154 : decode cX4_valueAt 154 = .ok (.ireturn, 1) := DX4_valueAt_8.1
theorem dX4_valueAt_155 : decode cX4_valueAt 155 = .ok (.aload_n 0, 1) := DX4_valueAt_8.2.1
theorem dX4_valueAt_156 : decode cX4_valueAt 156 = .ok (.getfield 21, 3) := DX4_valueAt_8.2.2.1
theorem dX4_valueAt_159 : decode cX4_valueAt 159 = .ok (.ireturn, 1) := DX4_valueAt_8.2.2.2
set_option maxRecDepth 100000 in
theorem DX5_init_0 : decode cX5_init 0 = .ok (.aload_n 0, 1) ∧ decode cX5_init 1 = .ok (.invokespecial 3, 3) ∧ decode cX5_init 4 = .ok (.aload_n 0, 1) ∧ decode cX5_init 5 = .ok (.bipush 6, 2) ∧ decode cX5_init 7 = .ok (.anewarray 9, 3) ∧ decode cX5_init 10 = .ok (.putfield 11, 3) ∧ decode cX5_init 13 = .ok (.aload_n 0, 1) ∧ decode cX5_init 14 = .ok (.bipush 12, 2) ∧ decode cX5_init 16 = .ok (.anewarray 17, 3) ∧ decode cX5_init 19 = .ok (.putfield 19, 3) := by decide +kernel
theorem dX5_init_0 : decode cX5_init 0 = .ok (.aload_n 0, 1) := DX5_init_0.1
theorem dX5_init_1 : decode cX5_init 1 = .ok (.invokespecial 3, 3) := DX5_init_0.2.1
theorem dX5_init_4 : decode cX5_init 4 = .ok (.aload_n 0, 1) := DX5_init_0.2.2.1
theorem dX5_init_5 : decode cX5_init 5 = .ok (.bipush 6, 2) := DX5_init_0.2.2.2.1
theorem dX5_init_7 : decode cX5_init 7 = .ok (.anewarray 9, 3) := DX5_init_0.2.2.2.2.1
theorem dX5_init_10 : decode cX5_init 10 = .ok (.putfield 11, 3) := DX5_init_0.2.2.2.2.2.1
theorem dX5_init_13 : decode cX5_init 13 = .ok (.aload_n 0, 1) := DX5_init_0.2.2.2.2.2.2.1
theorem dX5_init_14 : decode cX5_init 14 = .ok (.bipush 12, 2) := DX5_init_0.2.2.2.2.2.2.2.1
theorem dX5_init_16 : decode cX5_init 16 = .ok (.anewarray 17, 3) := DX5_init_0.2.2.2.2.2.2.2.2.1
theorem dX5_init_19 : decode cX5_init 19 = .ok (.putfield 19, 3) := DX5_init_0.2.2.2.2.2.2.2.2.2
set_option maxRecDepth 100000 in
theorem DX5_init_1 : decode cX5_init 22 = .ok (.aload_n 0, 1) ∧ decode cX5_init 23 = .ok (.iconst 4, 1) ∧ decode cX5_init 24 = .ok (.anewarray 23, 3) ∧ decode cX5_init 27 = .ok (.putfield 25, 3) ∧ decode cX5_init 30 = .ok (.aload_n 0, 1) ∧ decode cX5_init 31 = .ok (.sipush 1000, 3) ∧ decode cX5_init 34 = .ok (.putfield 29, 3) ∧ decode cX5_init 37 = .ok (.aload_n 0, 1) ∧ decode cX5_init 38 = .ok (.sipush 4000, 3) ∧ decode cX5_init 41 = .ok (.putfield 33, 3) := by decide +kernel
theorem dX5_init_22 : decode cX5_init 22 = .ok (.aload_n 0, 1) := DX5_init_1.1
theorem dX5_init_23 : decode cX5_init 23 = .ok (.iconst 4, 1) := DX5_init_1.2.1
theorem dX5_init_24 : decode cX5_init 24 = .ok (.anewarray 23, 3) := DX5_init_1.2.2.1
theorem dX5_init_27 : decode cX5_init 27 = .ok (.putfield 25, 3) := DX5_init_1.2.2.2.1
theorem dX5_init_30 : decode cX5_init 30 = .ok (.aload_n 0, 1) := DX5_init_1.2.2.2.2.1
theorem dX5_init_31 : decode cX5_init 31 = .ok (.sipush 1000, 3) := DX5_init_1.2.2.2.2.2.1
theorem dX5_init_34 : decode cX5_init 34 = .ok (.putfield 29, 3) := DX5_init_1.2.2.2.2.2.2.1
theorem dX5_init_37 : decode cX5_init 37 = .ok (.aload_n 0, 1) := DX5_init_1.2.2.2.2.2.2.2.1
theorem dX5_init_38 : decode cX5_init 38 = .ok (.sipush 4000, 3) := DX5_init_1.2.2.2.2.2.2.2.2.1
theorem dX5_init_41 : decode cX5_init 41 = .ok (.putfield 33, 3) := DX5_init_1.2.2.2.2.2.2.2.2.2
set_option maxRecDepth 100000 in
theorem DX5_init_2 : decode cX5_init 44 = .ok (.aload_n 0, 1) ∧ decode cX5_init 45 = .ok (.new 36, 3) ∧ decode cX5_init 48 = .ok (.dup, 1) ∧ decode cX5_init 49 = .ok (.invokespecial 38, 3) ∧ decode cX5_init 52 = .ok (.putfield 39, 3) ∧ decode cX5_init 55 = .ok (.iconst 0, 1) ∧ decode cX5_init 56 = .ok (.istore_n 1, 1) ∧ decode cX5_init 57 = .ok (.iload_n 1, 1) ∧ decode cX5_init 58 = .ok (.aload_n 0, 1) ∧ decode cX5_init 59 = .ok (.getfield 11, 3) := by decide +kernel
theorem dX5_init_44 : decode cX5_init 44 = .ok (.aload_n 0, 1) := DX5_init_2.1
theorem dX5_init_45 : decode cX5_init 45 = .ok (.new 36, 3) := DX5_init_2.2.1
theorem dX5_init_48 : decode cX5_init 48 = .ok (.dup, 1) := DX5_init_2.2.2.1
theorem dX5_init_49 : decode cX5_init 49 = .ok (.invokespecial 38, 3) := DX5_init_2.2.2.2.1
theorem dX5_init_52 : decode cX5_init 52 = .ok (.putfield 39, 3) := DX5_init_2.2.2.2.2.1
theorem dX5_init_55 : decode cX5_init 55 = .ok (.iconst 0, 1) := DX5_init_2.2.2.2.2.2.1
theorem dX5_init_56 : decode cX5_init 56 = .ok (.istore_n 1, 1) := DX5_init_2.2.2.2.2.2.2.1
theorem dX5_init_57 : decode cX5_init 57 = .ok (.iload_n 1, 1) := DX5_init_2.2.2.2.2.2.2.2.1
theorem dX5_init_58 : decode cX5_init 58 = .ok (.aload_n 0, 1) := DX5_init_2.2.2.2.2.2.2.2.2.1
theorem dX5_init_59 : decode cX5_init 59 = .ok (.getfield 11, 3) := DX5_init_2.2.2.2.2.2.2.2.2.2
set_option maxRecDepth 100000 in
theorem DX5_init_3 : decode cX5_init 62 = .ok (.arraylength, 1) ∧ decode cX5_init 63 = .ok (.if_icmp .ge 22, 3) ∧ decode cX5_init 66 = .ok (.aload_n 0, 1) ∧ decode cX5_init 67 = .ok (.getfield 11, 3) ∧ decode cX5_init 70 = .ok (.iload_n 1, 1) ∧ decode cX5_init 71 = .ok (.new 9, 3) ∧ decode cX5_init 74 = .ok (.dup, 1) ∧ decode cX5_init 75 = .ok (.invokespecial 43, 3) ∧ decode cX5_init 78 = .ok (.aastore, 1) ∧ decode cX5_init 79 = .ok (.iinc 1 1, 3) := by decide +kernel
theorem dX5_init_62 : decode cX5_init 62 = .ok (.arraylength, 1) := DX5_init_3.1
theorem dX5_init_63 : decode cX5_init 63 = .ok (.if_icmp .ge 22, 3) := DX5_init_3.2.1
theorem dX5_init_66 : decode cX5_init 66 = .ok (.aload_n 0, 1) := DX5_init_3.2.2.1
theorem dX5_init_67 : decode cX5_init 67 = .ok (.getfield 11, 3) := DX5_init_3.2.2.2.1
theorem dX5_init_70 : decode cX5_init 70 = .ok (.iload_n 1, 1) := DX5_init_3.2.2.2.2.1
theorem dX5_init_71 : decode cX5_init 71 = .ok (.new 9, 3) := DX5_init_3.2.2.2.2.2.1
theorem dX5_init_74 : decode cX5_init 74 = .ok (.dup, 1) := DX5_init_3.2.2.2.2.2.2.1
theorem dX5_init_75 : decode cX5_init 75 = .ok (.invokespecial 43, 3) := DX5_init_3.2.2.2.2.2.2.2.1
theorem dX5_init_78 : decode cX5_init 78 = .ok (.aastore, 1) := DX5_init_3.2.2.2.2.2.2.2.2.1
theorem dX5_init_79 : decode cX5_init 79 = .ok (.iinc 1 1, 3) := DX5_init_3.2.2.2.2.2.2.2.2.2
set_option maxRecDepth 100000 in
theorem DX5_init_4 : decode cX5_init 82 = .ok (.goto (-25), 3) ∧ decode cX5_init 85 = .ok (.iconst 0, 1) ∧ decode cX5_init 86 = .ok (.istore_n 1, 1) ∧ decode cX5_init 87 = .ok (.iload_n 1, 1) ∧ decode cX5_init 88 = .ok (.aload_n 0, 1) ∧ decode cX5_init 89 = .ok (.getfield 19, 3) ∧ decode cX5_init 92 = .ok (.arraylength, 1) ∧ decode cX5_init 93 = .ok (.if_icmp .ge 22, 3) ∧ decode cX5_init 96 = .ok (.aload_n 0, 1) ∧ decode cX5_init 97 = .ok (.getfield 19, 3) := by decide +kernel
theorem dX5_init_82 : decode cX5_init 82 = .ok (.goto (-25), 3) := DX5_init_4.1
theorem dX5_init_85 : decode cX5_init 85 = .ok (.iconst 0, 1) := DX5_init_4.2.1
theorem dX5_init_86 : decode cX5_init 86 = .ok (.istore_n 1, 1) := DX5_init_4.2.2.1
theorem dX5_init_87 : decode cX5_init 87 = .ok (.iload_n 1, 1) := DX5_init_4.2.2.2.1
theorem dX5_init_88 : decode cX5_init 88 = .ok (.aload_n 0, 1) := DX5_init_4.2.2.2.2.1
theorem dX5_init_89 : decode cX5_init 89 = .ok (.getfield 19, 3) := DX5_init_4.2.2.2.2.2.1
theorem dX5_init_92 : decode cX5_init 92 = .ok (.arraylength, 1) := DX5_init_4.2.2.2.2.2.2.1
theorem dX5_init_93 : decode cX5_init 93 = .ok (.if_icmp .ge 22, 3) := DX5_init_4.2.2.2.2.2.2.2.1
theorem dX5_init_96 : decode cX5_init 96 = .ok (.aload_n 0, 1) := DX5_init_4.2.2.2.2.2.2.2.2.1
theorem dX5_init_97 : decode cX5_init 97 = .ok (.getfield 19, 3) := DX5_init_4.2.2.2.2.2.2.2.2.2
set_option maxRecDepth 100000 in
theorem DX5_init_5 : decode cX5_init 100 = .ok (.iload_n 1, 1) ∧ decode cX5_init 101 = .ok (.new 17, 3) ∧ decode cX5_init 104 = .ok (.dup, 1) ∧ decode cX5_init 105 = .ok (.invokespecial 44, 3) ∧ decode cX5_init 108 = .ok (.aastore, 1) ∧ decode cX5_init 109 = .ok (.iinc 1 1, 3) ∧ decode cX5_init 112 = .ok (.goto (-25), 3) ∧ decode cX5_init 115 = .ok (.iconst 0, 1) ∧ decode cX5_init 116 = .ok (.istore_n 1, 1) ∧ decode cX5_init 117 = .ok (.iload_n 1, 1) := by decide +kernel
theorem dX5_init_100 : decode cX5_init 100 = .ok (.iload_n 1, 1) := DX5_init_5.1
theorem dX5_init_101 : decode cX5_init 101 = .ok (.new 17, 3) := DX5_init_5.2.1
theorem dX5_init_104 : decode cX5_init 104 = .ok (.dup, 1) := DX5_init_5.2.2.1
theorem dX5_init_105 : decode cX5_init 105 = .ok (.invokespecial 44, 3) := DX5_init_5.2.2.2.1
theorem dX5_init_108 : decode cX5_init 108 = .ok (.aastore, 1) := DX5_init_5.2.2.2.2.1
theorem dX5_init_109 : decode cX5_init 109 = .ok (.iinc 1 1, 3) := DX5_init_5.2.2.2.2.2.1
theorem dX5_init_112 : decode cX5_init 112 = .ok (.goto (-25), 3) := DX5_init_5.2.2.2.2.2.2.1
theorem dX5_init_115 : decode cX5_init 115 = .ok (.iconst 0, 1) := DX5_init_5.2.2.2.2.2.2.2.1
theorem dX5_init_116 : decode cX5_init 116 = .ok (.istore_n 1, 1) := DX5_init_5.2.2.2.2.2.2.2.2.1
theorem dX5_init_117 : decode cX5_init 117 = .ok (.iload_n 1, 1) := DX5_init_5.2.2.2.2.2.2.2.2.2
set_option maxRecDepth 100000 in
theorem DX5_init_6 : decode cX5_init 118 = .ok (.aload_n 0, 1) ∧ decode cX5_init 119 = .ok (.getfield 25, 3) ∧ decode cX5_init 122 = .ok (.arraylength, 1) ∧ decode cX5_init 123 = .ok (.if_icmp .ge 22, 3) ∧ decode cX5_init 126 = .ok (.aload_n 0, 1) ∧ decode cX5_init 127 = .ok (.getfield 25, 3) ∧ decode cX5_init 130 = .ok (.iload_n 1, 1) ∧ decode cX5_init 131 = .ok (.new 23, 3) ∧ decode cX5_init 134 = .ok (.dup, 1) ∧ decode cX5_init 135 = .ok (.invokespecial 45, 3) := by decide +kernel
theorem dX5_init_118 : decode cX5_init 118 = .ok (.aload_n 0, 1) := DX5_init_6.1
theorem dX5_init_119 : decode cX5_init 119 = .ok (.getfield 25, 3) := DX5_init_6.2.1
theorem dX5_init_122 : decode cX5_init 122 = .ok (.arraylength, 1) := DX5_init_6.2.2.1
theorem dX5_init_123 : decode cX5_init 123 = .ok (.if_icmp .ge 22, 3) := DX5_init_6.2.2.2.1
theorem dX5_init_126 : decode cX5_init 126 = .ok (.aload_n 0, 1) := DX5_init_6.2.2.2.2.1
theorem dX5_init_127 : decode cX5_init 127 = .ok (.getfield 25, 3) := DX5_init_6.2.2.2.2.2.1
theorem dX5_init_130 : decode cX5_init 130 = .ok (.iload_n 1, 1) := DX5_init_6.2.2.2.2.2.2.1
theorem dX5_init_131 : decode cX5_init 131 = .ok (.new 23, 3) := DX5_init_6.2.2.2.2.2.2.2.1
theorem dX5_init_134 : decode cX5_init 134 = .ok (.dup, 1) := DX5_init_6.2.2.2.2.2.2.2.2.1
theorem dX5_init_135 : decode cX5_init 135 = .ok (.invokespecial 45, 3) := DX5_init_6.2.2.2.2.2.2.2.2.2
set_option maxRecDepth 100000 in
theorem DX5_init_7 : decode cX5_init 138 = .ok (.aastore, 1) ∧ decode cX5_init 139 = .ok (.iinc 1 1, 3) ∧ decode cX5_init 142 = .ok (.goto (-25), 3) ∧ decode cX5_init 145 = .ok (.return_, 1) := by decide +kernel
theorem dX5_init_138 : decode cX5_init 138 = .ok (.aastore, 1) := DX5_init_7.1
theorem dX5_init_139 : decode cX5_init 139 = .ok (.iinc 1 1, 3) := DX5_init_7.2.1
theorem dX5_init_142 : decode cX5_init 142 = .ok (.goto (-25), 3) := DX5_init_7.2.2.1
theorem dX5_init_145 : decode cX5_init 145 = .ok (.return_, 1) := DX5_init_7.2.2.2
set_option maxRecDepth 100000 in
theorem DX5_takeFrom_0 : decode cX5_takeFrom 0 = .ok (.iconst 0, 1) ∧ decode cX5_takeFrom 1 = .ok (.istore_n 2, 1) ∧ decode cX5_takeFrom 2 = .ok (.iload_n 2, 1) ∧ decode cX5_takeFrom 3 = .ok (.bipush 6, 2) ∧ decode cX5_takeFrom 5 = .ok (.if_icmp .ge 24, 3) ∧ decode cX5_takeFrom 8 = .ok (.aload_n 0, 1) ∧ decode cX5_takeFrom 9 = .ok (.getfield 11, 3) ∧ decode cX5_takeFrom 12 = .ok (.iload_n 2, 1) ∧ decode cX5_takeFrom 13 = .ok (.aaload, 1) ∧ decode cX5_takeFrom 14 = .ok (.aload_n 1, 1) := by decide +kernel
theorem dX5_takeFrom_0 : decode cX5_takeFrom 0 = .ok (.iconst 0, 1) := DX5_takeFrom_0.1
theorem dX5_takeFrom_1 : decode cX5_takeFrom 1 = .ok (.istore_n 2, 1) := DX5_takeFrom_0.2.1
theorem dX5_takeFrom_2 : decode cX5_takeFrom 2 = .ok (.iload_n 2, 1) := DX5_takeFrom_0.2.2.1
theorem dX5_takeFrom_3 : decode cX5_takeFrom 3 = .ok (.bipush 6, 2) := DX5_takeFrom_0.2.2.2.1
theorem dX5_takeFrom_5 : decode cX5_takeFrom 5 = .ok (.if_icmp .ge 24, 3) := DX5_takeFrom_0.2.2.2.2.1
theorem dX5_takeFrom_8 : decode cX5_takeFrom 8 = .ok (.aload_n 0, 1) := DX5_takeFrom_0.2.2.2.2.2.1
theorem dX5_takeFrom_9 : decode cX5_takeFrom 9 = .ok (.getfield 11, 3) := DX5_takeFrom_0.2.2.2.2.2.2.1
theorem dX5_takeFrom_12 : decode cX5_takeFrom 12 = .ok (.iload_n 2, 1) := DX5_takeFrom_0.2.2.2.2.2.2.2.1
theorem dX5_takeFrom_13 : decode cX5_takeFrom 13 = .ok (.aaload, 1) := DX5_takeFrom_0.2.2.2.2.2.2.2.2.1
theorem dX5_takeFrom_14 : decode cX5_takeFrom 14 = .ok (.aload_n 1, 1) := DX5_takeFrom_0.2.2.2.2.2.2.2.2.2
set_option maxRecDepth 100000 in
theorem DX5_takeFrom_1 : decode cX5_takeFrom 15 = .ok (.getfield 11, 3) ∧ decode cX5_takeFrom 18 = .ok (.iload_n 2, 1) ∧ decode cX5_takeFrom 19 = .ok (.aaload, 1) ∧ decode cX5_takeFrom 20 = .ok (.invokevirtual 46, 3) ∧ decode cX5_takeFrom 23 = .ok (.iinc 2 1, 3) ∧ decode cX5_takeFrom 26 = .ok (.goto (-24), 3) ∧ decode cX5_takeFrom 29 = .ok (.aload_n 0, 1) ∧ decode cX5_takeFrom 30 = .ok (.aload_n 1, 1) ∧ decode cX5_takeFrom 31 = .ok (.getfield 50, 3) ∧ decode cX5_takeFrom 34 = .ok (.putfield 50, 3) := by decide +kernel
theorem dX5_takeFrom_15 : decode cX5_takeFrom 15 = .ok (.getfield 11, 3) := DX5_takeFrom_1.1
theorem dX5_takeFrom_18 : decode cX5_takeFrom 18 = .ok (.iload_n 2, 1) := DX5_takeFrom_1.2.1
theorem dX5_takeFrom_19 : decode cX5_takeFrom 19 = .ok (.aaload, 1) := DX5_takeFrom_1.2.2.1
theorem dX5_takeFrom_20 : decode cX5_takeFrom 20 = .ok (.invokevirtual 46, 3) := DX5_takeFrom_1.2.2.2.1
theorem dX5_takeFrom_23 : decode cX5_takeFrom 23 = .ok (.iinc 2 1, 3) := DX5_takeFrom_1.2.2.2.2.1
theorem dX5_takeFrom_26 : decode cX5_takeFrom 26 = .ok (.goto (-24), 3) := DX5_takeFrom_1.2.2.2.2.2.1
theorem dX5_takeFrom_29 : decode cX5_takeFrom 29 = .ok (.aload_n 0, 1) := DX5_takeFrom_1.2.2.2.2.2.2.1
theorem dX5_takeFrom_30 : decode cX5_takeFrom 30 = .ok (.aload_n 1, 1) := DX5_takeFrom_1.2.2.2.2.2.2.2.1
theorem dX5_takeFrom_31 : decode cX5_takeFrom 31 = .ok (.getfield 50, 3) := DX5_takeFrom_1.2.2.2.2.2.2.2.2.1
theorem dX5_takeFrom_34 : decode cX5_takeFrom 34 = .ok (.putfield 50, 3) := DX5_takeFrom_1.2.2.2.2.2.2.2.2.2
set_option maxRecDepth 100000 in
theorem DX5_takeFrom_2 : decode cX5_takeFrom 37 = .ok (.iconst 0, 1) ∧ decode cX5_takeFrom 38 = .ok (.istore_n 2, 1) ∧ decode cX5_takeFrom 39 = .ok (.iload_n 2, 1) ∧ decode cX5_takeFrom 40 = .ok (.aload_n 0, 1) ∧ decode cX5_takeFrom 41 = .ok (.getfield 50, 3) ∧ decode cX5_takeFrom 44 = .ok (.if_icmp .ge 24, 3) ∧ decode cX5_takeFrom 47 = .ok (.aload_n 0, 1) ∧ decode cX5_takeFrom 48 = .ok (.getfield 19, 3) ∧ decode cX5_takeFrom 51 = .ok (.iload_n 2, 1) ∧ decode cX5_takeFrom 52 = .ok (.aaload, 1) := by decide +kernel
theorem dX5_takeFrom_37 : decode cX5_takeFrom 37 = .ok (.iconst 0, 1) := DX5_takeFrom_2.1
theorem dX5_takeFrom_38 : decode cX5_takeFrom 38 = .ok (.istore_n 2, 1) := DX5_takeFrom_2.2.1
theorem dX5_takeFrom_39 : decode cX5_takeFrom 39 = .ok (.iload_n 2, 1) := DX5_takeFrom_2.2.2.1
theorem dX5_takeFrom_40 : decode cX5_takeFrom 40 = .ok (.aload_n 0, 1) := DX5_takeFrom_2.2.2.2.1
theorem dX5_takeFrom_41 : decode cX5_takeFrom 41 = .ok (.getfield 50, 3) := DX5_takeFrom_2.2.2.2.2.1
theorem dX5_takeFrom_44 : decode cX5_takeFrom 44 = .ok (.if_icmp .ge 24, 3) := DX5_takeFrom_2.2.2.2.2.2.1
theorem dX5_takeFrom_47 : decode cX5_takeFrom 47 = .ok (.aload_n 0, 1) := DX5_takeFrom_2.2.2.2.2.2.2.1
theorem dX5_takeFrom_48 : decode cX5_takeFrom 48 = .ok (.getfield 19, 3) := DX5_takeFrom_2.2.2.2.2.2.2.2.1
theorem dX5_takeFrom_51 : decode cX5_takeFrom 51 = .ok (.iload_n 2, 1) := DX5_takeFrom_2.2.2.2.2.2.2.2.2.1
theorem dX5_takeFrom_52 : decode cX5_takeFrom 52 = .ok (.aaload, 1) := DX5_takeFrom_2.2.2.2.2.2.2.2.2.2
set_option maxRecDepth 100000 in
theorem DX5_takeFrom_3 : decode cX5_takeFrom 53 = .ok (.aload_n 1, 1) ∧ decode cX5_takeFrom 54 = .ok (.getfield 19, 3) ∧ decode cX5_takeFrom 57 = .ok (.iload_n 2, 1) ∧ decode cX5_takeFrom 58 = .ok (.aaload, 1) ∧ decode cX5_takeFrom 59 = .ok (.invokevirtual 53, 3) ∧ decode cX5_takeFrom 62 = .ok (.iinc 2 1, 3) ∧ decode cX5_takeFrom 65 = .ok (.goto (-26), 3) ∧ decode cX5_takeFrom 68 = .ok (.iconst 0, 1) ∧ decode cX5_takeFrom 69 = .ok (.istore_n 2, 1) ∧ decode cX5_takeFrom 70 = .ok (.iload_n 2, 1) := by decide +kernel
theorem dX5_takeFrom_53 : decode cX5_takeFrom 53 = .ok (.aload_n 1, 1) := DX5_takeFrom_3.1
theorem dX5_takeFrom_54 : decode cX5_takeFrom 54 = .ok (.getfield 19, 3) := DX5_takeFrom_3.2.1
theorem dX5_takeFrom_57 : decode cX5_takeFrom 57 = .ok (.iload_n 2, 1) := DX5_takeFrom_3.2.2.1
theorem dX5_takeFrom_58 : decode cX5_takeFrom 58 = .ok (.aaload, 1) := DX5_takeFrom_3.2.2.2.1
theorem dX5_takeFrom_59 : decode cX5_takeFrom 59 = .ok (.invokevirtual 53, 3) := DX5_takeFrom_3.2.2.2.2.1
theorem dX5_takeFrom_62 : decode cX5_takeFrom 62 = .ok (.iinc 2 1, 3) := DX5_takeFrom_3.2.2.2.2.2.1
theorem dX5_takeFrom_65 : decode cX5_takeFrom 65 = .ok (.goto (-26), 3) := DX5_takeFrom_3.2.2.2.2.2.2.1
theorem dX5_takeFrom_68 : decode cX5_takeFrom 68 = .ok (.iconst 0, 1) := DX5_takeFrom_3.2.2.2.2.2.2.2.1
theorem dX5_takeFrom_69 : decode cX5_takeFrom 69 = .ok (.istore_n 2, 1) := DX5_takeFrom_3.2.2.2.2.2.2.2.2.1
theorem dX5_takeFrom_70 : decode cX5_takeFrom 70 = .ok (.iload_n 2, 1) := DX5_takeFrom_3.2.2.2.2.2.2.2.2.2
set_option maxRecDepth 100000 in
theorem DX5_takeFrom_4 : decode cX5_takeFrom 71 = .ok (.iconst 4, 1) ∧ decode cX5_takeFrom 72 = .ok (.if_icmp .ge 24, 3) ∧ decode cX5_takeFrom 75 = .ok (.aload_n 0, 1) ∧ decode cX5_takeFrom 76 = .ok (.getfield 25, 3) ∧ decode cX5_takeFrom 79 = .ok (.iload_n 2, 1) ∧ decode cX5_takeFrom 80 = .ok (.aaload, 1) ∧ decode cX5_takeFrom 81 = .ok (.aload_n 1, 1) ∧ decode cX5_takeFrom 82 = .ok (.getfield 25, 3) ∧ decode cX5_takeFrom 85 = .ok (.iload_n 2, 1) ∧ decode cX5_takeFrom 86 = .ok (.aaload, 1) := by decide +kernel
theorem dX5_takeFrom_71 : decode cX5_takeFrom 71 = .ok (.iconst 4, 1) := DX5_takeFrom_4.1
theorem dX5_takeFrom_72 : decode cX5_takeFrom 72 = .ok (.if_icmp .ge 24, 3) := DX5_takeFrom_4.2.1
theorem dX5_takeFrom_75 : decode cX5_takeFrom 75 = .ok (.aload_n 0, 1) := DX5_takeFrom_4.2.2.1
theorem dX5_takeFrom_76 : decode cX5_takeFrom 76 = .ok (.getfield 25, 3) := DX5_takeFrom_4.2.2.2.1
theorem dX5_takeFrom_79 : decode cX5_takeFrom 79 = .ok (.iload_n 2, 1) := DX5_takeFrom_4.2.2.2.2.1
theorem dX5_takeFrom_80 : decode cX5_takeFrom 80 = .ok (.aaload, 1) := DX5_takeFrom_4.2.2.2.2.2.1
theorem dX5_takeFrom_81 : decode cX5_takeFrom 81 = .ok (.aload_n 1, 1) := DX5_takeFrom_4.2.2.2.2.2.2.1
theorem dX5_takeFrom_82 : decode cX5_takeFrom 82 = .ok (.getfield 25, 3) := DX5_takeFrom_4.2.2.2.2.2.2.2.1
theorem dX5_takeFrom_85 : decode cX5_takeFrom 85 = .ok (.iload_n 2, 1) := DX5_takeFrom_4.2.2.2.2.2.2.2.2.1
theorem dX5_takeFrom_86 : decode cX5_takeFrom 86 = .ok (.aaload, 1) := DX5_takeFrom_4.2.2.2.2.2.2.2.2.2
set_option maxRecDepth 100000 in
theorem DX5_takeFrom_5 : decode cX5_takeFrom 87 = .ok (.invokevirtual 56, 3) ∧ decode cX5_takeFrom 90 = .ok (.iinc 2 1, 3) ∧ decode cX5_takeFrom 93 = .ok (.goto (-23), 3) ∧ decode cX5_takeFrom 96 = .ok (.aload_n 0, 1) ∧ decode cX5_takeFrom 97 = .ok (.aload_n 1, 1) ∧ decode cX5_takeFrom 98 = .ok (.getfield 29, 3) ∧ decode cX5_takeFrom 101 = .ok (.putfield 29, 3) ∧ decode cX5_takeFrom 104 = .ok (.aload_n 0, 1) ∧ decode cX5_takeFrom 105 = .ok (.aload_n 1, 1) ∧ decode cX5_takeFrom 106 = .ok (.getfield 59, 3) := by decide +kernel
theorem dX5_takeFrom_87 : decode cX5_takeFrom 87 = .ok (.invokevirtual 56, 3) := DX5_takeFrom_5.1
theorem dX5_takeFrom_90 : decode cX5_takeFrom 90 = .ok (.iinc 2 1, 3) := DX5_takeFrom_5.2.1
theorem dX5_takeFrom_93 : decode cX5_takeFrom 93 = .ok (.goto (-23), 3) := DX5_takeFrom_5.2.2.1
theorem dX5_takeFrom_96 : decode cX5_takeFrom 96 = .ok (.aload_n 0, 1) := DX5_takeFrom_5.2.2.2.1
theorem dX5_takeFrom_97 : decode cX5_takeFrom 97 = .ok (.aload_n 1, 1) := DX5_takeFrom_5.2.2.2.2.1
theorem dX5_takeFrom_98 : decode cX5_takeFrom 98 = .ok (.getfield 29, 3) := DX5_takeFrom_5.2.2.2.2.2.1
theorem dX5_takeFrom_101 : decode cX5_takeFrom 101 = .ok (.putfield 29, 3) := DX5_takeFrom_5.2.2.2.2.2.2.1
theorem dX5_takeFrom_104 : decode cX5_takeFrom 104 = .ok (.aload_n 0, 1) := DX5_takeFrom_5.2.2.2.2.2.2.2.1
theorem dX5_takeFrom_105 : decode cX5_takeFrom 105 = .ok (.aload_n 1, 1) := DX5_takeFrom_5.2.2.2.2.2.2.2.2.1
theorem dX5_takeFrom_106 : decode cX5_takeFrom 106 = .ok (.getfield 59, 3) := DX5_takeFrom_5.2.2.2.2.2.2.2.2.2
set_option maxRecDepth 100000 in
theorem DX5_takeFrom_6 : decode cX5_takeFrom 109 = .ok (.putfield 59, 3) ∧ decode cX5_takeFrom 112 = .ok (.aload_n 0, 1) ∧ decode cX5_takeFrom 113 = .ok (.aload_n 1, 1) ∧ decode cX5_takeFrom 114 = .ok (.getfield 62, 3) ∧ decode cX5_takeFrom 117 = .ok (.putfield 62, 3) ∧ decode cX5_takeFrom 120 = .ok (.aload_n 0, 1) ∧ decode cX5_takeFrom 121 = .ok (.aload_n 1, 1) ∧ decode cX5_takeFrom 122 = .ok (.getfield 33, 3) ∧ decode cX5_takeFrom 125 = .ok (.putfield 33, 3) ∧ decode cX5_takeFrom 128 = .ok (.aload_n 0, 1) := by decide +kernel
theorem dX5_takeFrom_109 : decode cX5_takeFrom 109 = .ok (.putfield 59, 3) := DX5_takeFrom_6.1
theorem dX5_takeFrom_112 : decode cX5_takeFrom 112 = .ok (.aload_n 0, 1) := DX5_takeFrom_6.2.1
theorem dX5_takeFrom_113 : decode cX5_takeFrom 113 = .ok (.aload_n 1, 1) := DX5_takeFrom_6.2.2.1
theorem dX5_takeFrom_114 : decode cX5_takeFrom 114 = .ok (.getfield 62, 3) := DX5_takeFrom_6.2.2.2.1
theorem dX5_takeFrom_117 : decode cX5_takeFrom 117 = .ok (.putfield 62, 3) := DX5_takeFrom_6.2.2.2.2.1
theorem dX5_takeFrom_120 : decode cX5_takeFrom 120 = .ok (.aload_n 0, 1) := DX5_takeFrom_6.2.2.2.2.2.1
theorem dX5_takeFrom_121 : decode cX5_takeFrom 121 = .ok (.aload_n 1, 1) := DX5_takeFrom_6.2.2.2.2.2.2.1
theorem dX5_takeFrom_122 : decode cX5_takeFrom 122 = .ok (.getfield 33, 3) := DX5_takeFrom_6.2.2.2.2.2.2.2.1
theorem dX5_takeFrom_125 : decode cX5_takeFrom 125 = .ok (.putfield 33, 3) := DX5_takeFrom_6.2.2.2.2.2.2.2.2.1
theorem dX5_takeFrom_128 : decode cX5_takeFrom 128 = .ok (.aload_n 0, 1) := DX5_takeFrom_6.2.2.2.2.2.2.2.2.2
set_option maxRecDepth 100000 in
theorem DX5_takeFrom_7 : decode cX5_takeFrom 129 = .ok (.getfield 39, 3) ∧ decode cX5_takeFrom 132 = .ok (.aload_n 1, 1) ∧ decode cX5_takeFrom 133 = .ok (.getfield 39, 3) ∧ decode cX5_takeFrom 136 = .ok (.invokevirtual 65, 3) ∧ decode cX5_takeFrom 139 = .ok (.return_, 1) := by decide +kernel
theorem dX5_takeFrom_129 : decode cX5_takeFrom 129 = .ok (.getfield 39, 3) := DX5_takeFrom_7.1
theorem dX5_takeFrom_132 : decode cX5_takeFrom 132 = .ok (.aload_n 1, 1) := DX5_takeFrom_7.2.1
theorem dX5_takeFrom_133 : decode cX5_takeFrom 133 = .ok (.getfield 39, 3) := DX5_takeFrom_7.2.2.1
theorem dX5_takeFrom_136 : decode cX5_takeFrom 136 = .ok (.invokevirtual 65, 3) := DX5_takeFrom_7.2.2.2.1
theorem dX5_takeFrom_139 : decode cX5_takeFrom 139 = .ok (.return_, 1) := DX5_takeFrom_7.2.2.2.2
set_option maxRecDepth 100000 in
theorem DX5_advance_0 : decode cX5_advance 0 = .ok (.aload_n 0, 1) ∧ decode cX5_advance 1 = .ok (.dup, 1) ∧ decode cX5_advance 2 = .ok (.getfield 59, 3) ∧ decode cX5_advance 5 = .ok (.iconst 1, 1) ∧ decode cX5_advance 6 = .ok (.iadd, 1) ∧ decode cX5_advance 7 = .ok (.putfield 59, 3) ∧ decode cX5_advance 10 = .ok (.aload_n 0, 1) ∧ decode cX5_advance 11 = .ok (.getfield 59, 3) ∧ decode cX5_advance 14 = .ok (.aload_n 0, 1) ∧ decode cX5_advance 15 = .ok (.getfield 33, 3) := by decide +kernel
theorem dX5_advance_0 : decode cX5_advance 0 = .ok (.aload_n 0, 1) := DX5_advance_0.1
theorem dX5_advance_1 : decode cX5_advance 1 = .ok (.dup, 1) := DX5_advance_0.2.1
theorem dX5_advance_2 : decode cX5_advance 2 = .ok (.getfield 59, 3) := DX5_advance_0.2.2.1
theorem dX5_advance_5 : decode cX5_advance 5 = .ok (.iconst 1, 1) := DX5_advance_0.2.2.2.1
theorem dX5_advance_6 : decode cX5_advance 6 = .ok (.iadd, 1) := DX5_advance_0.2.2.2.2.1
theorem dX5_advance_7 : decode cX5_advance 7 = .ok (.putfield 59, 3) := DX5_advance_0.2.2.2.2.2.1
theorem dX5_advance_10 : decode cX5_advance 10 = .ok (.aload_n 0, 1) := DX5_advance_0.2.2.2.2.2.2.1
theorem dX5_advance_11 : decode cX5_advance 11 = .ok (.getfield 59, 3) := DX5_advance_0.2.2.2.2.2.2.2.1
theorem dX5_advance_14 : decode cX5_advance 14 = .ok (.aload_n 0, 1) := DX5_advance_0.2.2.2.2.2.2.2.2.1
theorem dX5_advance_15 : decode cX5_advance 15 = .ok (.getfield 33, 3) := DX5_advance_0.2.2.2.2.2.2.2.2.2
set_option maxRecDepth 100000 in
theorem DX5_advance_1 : decode cX5_advance 18 = .ok (.if_icmp .eq 13, 3) ∧ decode cX5_advance 21 = .ok (.aload_n 0, 1) ∧ decode cX5_advance 22 = .ok (.getfield 59, 3) ∧ decode cX5_advance 25 = .ok (.sipush 4000, 3) ∧ decode cX5_advance 28 = .ok (.if_icmp .lt 11, 3) ∧ decode cX5_advance 31 = .ok (.aload_n 0, 1) ∧ decode cX5_advance 32 = .ok (.aload_n 0, 1) ∧ decode cX5_advance 33 = .ok (.getfield 62, 3) ∧ decode cX5_advance 36 = .ok (.putfield 59, 3) ∧ decode cX5_advance 39 = .ok (.return_, 1) := by decide +kernel
theorem dX5_advance_18 : decode cX5_advance 18 = .ok (.if_icmp .eq 13, 3) := DX5_advance_1.1
theorem dX5_advance_21 : decode cX5_advance 21 = .ok (.aload_n 0, 1) := DX5_advance_1.2.1
theorem dX5_advance_22 : decode cX5_advance 22 = .ok (.getfield 59, 3) := DX5_advance_1.2.2.1
theorem dX5_advance_25 : decode cX5_advance 25 = .ok (.sipush 4000, 3) := DX5_advance_1.2.2.2.1
theorem dX5_advance_28 : decode cX5_advance 28 = .ok (.if_icmp .lt 11, 3) := DX5_advance_1.2.2.2.2.1
theorem dX5_advance_31 : decode cX5_advance 31 = .ok (.aload_n 0, 1) := DX5_advance_1.2.2.2.2.2.1
theorem dX5_advance_32 : decode cX5_advance 32 = .ok (.aload_n 0, 1) := DX5_advance_1.2.2.2.2.2.2.1
theorem dX5_advance_33 : decode cX5_advance 33 = .ok (.getfield 62, 3) := DX5_advance_1.2.2.2.2.2.2.2.1
theorem dX5_advance_36 : decode cX5_advance 36 = .ok (.putfield 59, 3) := DX5_advance_1.2.2.2.2.2.2.2.2.1
theorem dX5_advance_39 : decode cX5_advance 39 = .ok (.return_, 1) := DX5_advance_1.2.2.2.2.2.2.2.2.2
set_option maxRecDepth 100000 in
theorem DX5_hasSolo_0 : decode cX5_hasSolo 0 = .ok (.aload_n 0, 1) ∧ decode cX5_hasSolo 1 = .ok (.getfield 25, 3) ∧ decode cX5_hasSolo 4 = .ok (.astore_n 1, 1) ∧ decode cX5_hasSolo 5 = .ok (.aload_n 1, 1) ∧ decode cX5_hasSolo 6 = .ok (.arraylength, 1) ∧ decode cX5_hasSolo 7 = .ok (.istore_n 2, 1) ∧ decode cX5_hasSolo 8 = .ok (.iconst 0, 1) ∧ decode cX5_hasSolo 9 = .ok (.istore_n 3, 1) ∧ decode cX5_hasSolo 10 = .ok (.iload_n 3, 1) ∧ decode cX5_hasSolo 11 = .ok (.iload_n 2, 1) := by decide +kernel
theorem dX5_hasSolo_0 : decode cX5_hasSolo 0 = .ok (.aload_n 0, 1) := DX5_hasSolo_0.1
theorem dX5_hasSolo_1 : decode cX5_hasSolo 1 = .ok (.getfield 25, 3) := DX5_hasSolo_0.2.1
theorem dX5_hasSolo_4 : decode cX5_hasSolo 4 = .ok (.astore_n 1, 1) := DX5_hasSolo_0.2.2.1
theorem dX5_hasSolo_5 : decode cX5_hasSolo 5 = .ok (.aload_n 1, 1) := DX5_hasSolo_0.2.2.2.1
theorem dX5_hasSolo_6 : decode cX5_hasSolo 6 = .ok (.arraylength, 1) := DX5_hasSolo_0.2.2.2.2.1
theorem dX5_hasSolo_7 : decode cX5_hasSolo 7 = .ok (.istore_n 2, 1) := DX5_hasSolo_0.2.2.2.2.2.1
theorem dX5_hasSolo_8 : decode cX5_hasSolo 8 = .ok (.iconst 0, 1) := DX5_hasSolo_0.2.2.2.2.2.2.1
theorem dX5_hasSolo_9 : decode cX5_hasSolo 9 = .ok (.istore_n 3, 1) := DX5_hasSolo_0.2.2.2.2.2.2.2.1
theorem dX5_hasSolo_10 : decode cX5_hasSolo 10 = .ok (.iload_n 3, 1) := DX5_hasSolo_0.2.2.2.2.2.2.2.2.1
theorem dX5_hasSolo_11 : decode cX5_hasSolo 11 = .ok (.iload_n 2, 1) := DX5_hasSolo_0.2.2.2.2.2.2.2.2.2
set_option maxRecDepth 100000 in
theorem DX5_hasSolo_1 : decode cX5_hasSolo 12 = .ok (.if_icmp .ge 24, 3) ∧ decode cX5_hasSolo 15 = .ok (.aload_n 1, 1) ∧ decode cX5_hasSolo 16 = .ok (.iload_n 3, 1) ∧ decode cX5_hasSolo 17 = .ok (.aaload, 1) ∧ decode cX5_hasSolo 18 = .ok (.astore 4, 2) ∧ decode cX5_hasSolo 20 = .ok (.aload 4, 2) ∧ decode cX5_hasSolo 22 = .ok (.getfield 68, 3) ∧ decode cX5_hasSolo 25 = .ok (.ifCond .eq 5, 3) ∧ decode cX5_hasSolo 28 = .ok (.iconst 1, 1) ∧ decode cX5_hasSolo 29 = .ok (.ireturn, 1) := by decide +kernel
theorem dX5_hasSolo_12 : decode cX5_hasSolo 12 = .ok (.if_icmp .ge 24, 3) := DX5_hasSolo_1.1
theorem dX5_hasSolo_15 : decode cX5_hasSolo 15 = .ok (.aload_n 1, 1) := DX5_hasSolo_1.2.1
theorem dX5_hasSolo_16 : decode cX5_hasSolo 16 = .ok (.iload_n 3, 1) := DX5_hasSolo_1.2.2.1
theorem dX5_hasSolo_17 : decode cX5_hasSolo 17 = .ok (.aaload, 1) := DX5_hasSolo_1.2.2.2.1
theorem dX5_hasSolo_18 : decode cX5_hasSolo 18 = .ok (.astore 4, 2) := DX5_hasSolo_1.2.2.2.2.1
theorem dX5_hasSolo_20 : decode cX5_hasSolo 20 = .ok (.aload 4, 2) := DX5_hasSolo_1.2.2.2.2.2.1
theorem dX5_hasSolo_22 : decode cX5_hasSolo 22 = .ok (.getfield 68, 3) := DX5_hasSolo_1.2.2.2.2.2.2.1
theorem dX5_hasSolo_25 : decode cX5_hasSolo 25 = .ok (.ifCond .eq 5, 3) := DX5_hasSolo_1.2.2.2.2.2.2.2.1
theorem dX5_hasSolo_28 : decode cX5_hasSolo 28 = .ok (.iconst 1, 1) := DX5_hasSolo_1.2.2.2.2.2.2.2.2.1
theorem dX5_hasSolo_29 : decode cX5_hasSolo 29 = .ok (.ireturn, 1) := DX5_hasSolo_1.2.2.2.2.2.2.2.2.2
set_option maxRecDepth 100000 in
theorem DX5_hasSolo_2 : decode cX5_hasSolo 30 = .ok (.iinc 3 1, 3) ∧ decode cX5_hasSolo 33 = .ok (.goto (-23), 3) ∧ decode cX5_hasSolo 36 = .ok (.iconst 0, 1) ∧ decode cX5_hasSolo 37 = .ok (.ireturn, 1) := by decide +kernel
theorem dX5_hasSolo_30 : decode cX5_hasSolo 30 = .ok (.iinc 3 1, 3) := DX5_hasSolo_2.1
theorem dX5_hasSolo_33 : decode cX5_hasSolo 33 = .ok (.goto (-23), 3) := DX5_hasSolo_2.2.1
theorem dX5_hasSolo_36 : decode cX5_hasSolo 36 = .ok (.iconst 0, 1) := DX5_hasSolo_2.2.2.1
theorem dX5_hasSolo_37 : decode cX5_hasSolo 37 = .ok (.ireturn, 1) := DX5_hasSolo_2.2.2.2
set_option maxRecDepth 100000 in
theorem DX5_isKey_0 : decode cX5_isKey 0 = .ok (.aload_n 0, 1) ∧ decode cX5_isKey 1 = .ok (.getfield 25, 3) ∧ decode cX5_isKey 4 = .ok (.astore_n 2, 1) ∧ decode cX5_isKey 5 = .ok (.aload_n 2, 1) ∧ decode cX5_isKey 6 = .ok (.arraylength, 1) ∧ decode cX5_isKey 7 = .ok (.istore_n 3, 1) ∧ decode cX5_isKey 8 = .ok (.iconst 0, 1) ∧ decode cX5_isKey 9 = .ok (.istore 4, 2) ∧ decode cX5_isKey 11 = .ok (.iload 4, 2) ∧ decode cX5_isKey 13 = .ok (.iload_n 3, 1) := by decide +kernel
theorem dX5_isKey_0 : decode cX5_isKey 0 = .ok (.aload_n 0, 1) := DX5_isKey_0.1
theorem dX5_isKey_1 : decode cX5_isKey 1 = .ok (.getfield 25, 3) := DX5_isKey_0.2.1
theorem dX5_isKey_4 : decode cX5_isKey 4 = .ok (.astore_n 2, 1) := DX5_isKey_0.2.2.1
theorem dX5_isKey_5 : decode cX5_isKey 5 = .ok (.aload_n 2, 1) := DX5_isKey_0.2.2.2.1
theorem dX5_isKey_6 : decode cX5_isKey 6 = .ok (.arraylength, 1) := DX5_isKey_0.2.2.2.2.1
theorem dX5_isKey_7 : decode cX5_isKey 7 = .ok (.istore_n 3, 1) := DX5_isKey_0.2.2.2.2.2.1
theorem dX5_isKey_8 : decode cX5_isKey 8 = .ok (.iconst 0, 1) := DX5_isKey_0.2.2.2.2.2.2.1
theorem dX5_isKey_9 : decode cX5_isKey 9 = .ok (.istore 4, 2) := DX5_isKey_0.2.2.2.2.2.2.2.1
theorem dX5_isKey_11 : decode cX5_isKey 11 = .ok (.iload 4, 2) := DX5_isKey_0.2.2.2.2.2.2.2.2.1
theorem dX5_isKey_13 : decode cX5_isKey 13 = .ok (.iload_n 3, 1) := DX5_isKey_0.2.2.2.2.2.2.2.2.2
set_option maxRecDepth 100000 in
theorem DX5_isKey_1 : decode cX5_isKey 14 = .ok (.if_icmp .ge 26, 3) ∧ decode cX5_isKey 17 = .ok (.aload_n 2, 1) ∧ decode cX5_isKey 18 = .ok (.iload 4, 2) ∧ decode cX5_isKey 20 = .ok (.aaload, 1) ∧ decode cX5_isKey 21 = .ok (.astore 5, 2) ∧ decode cX5_isKey 23 = .ok (.aload 5, 2) ∧ decode cX5_isKey 25 = .ok (.getfield 72, 3) ∧ decode cX5_isKey 28 = .ok (.iload_n 1, 1) ∧ decode cX5_isKey 29 = .ok (.if_icmp .ne 5, 3) ∧ decode cX5_isKey 32 = .ok (.iconst 1, 1) := by decide +kernel
theorem dX5_isKey_14 : decode cX5_isKey 14 = .ok (.if_icmp .ge 26, 3) := DX5_isKey_1.1
theorem dX5_isKey_17 : decode cX5_isKey 17 = .ok (.aload_n 2, 1) := DX5_isKey_1.2.1
theorem dX5_isKey_18 : decode cX5_isKey 18 = .ok (.iload 4, 2) := DX5_isKey_1.2.2.1
theorem dX5_isKey_20 : decode cX5_isKey 20 = .ok (.aaload, 1) := DX5_isKey_1.2.2.2.1
theorem dX5_isKey_21 : decode cX5_isKey 21 = .ok (.astore 5, 2) := DX5_isKey_1.2.2.2.2.1
theorem dX5_isKey_23 : decode cX5_isKey 23 = .ok (.aload 5, 2) := DX5_isKey_1.2.2.2.2.2.1
theorem dX5_isKey_25 : decode cX5_isKey 25 = .ok (.getfield 72, 3) := DX5_isKey_1.2.2.2.2.2.2.1
theorem dX5_isKey_28 : decode cX5_isKey 28 = .ok (.iload_n 1, 1) := DX5_isKey_1.2.2.2.2.2.2.2.1
theorem dX5_isKey_29 : decode cX5_isKey 29 = .ok (.if_icmp .ne 5, 3) := DX5_isKey_1.2.2.2.2.2.2.2.2.1
theorem dX5_isKey_32 : decode cX5_isKey 32 = .ok (.iconst 1, 1) := DX5_isKey_1.2.2.2.2.2.2.2.2.2
set_option maxRecDepth 100000 in
theorem DX5_isKey_2 : decode cX5_isKey 33 = .ok (.ireturn, 1) ∧ decode cX5_isKey 34 = .ok (.iinc 4 1, 3) ∧ decode cX5_isKey 37 = .ok (.goto (-26), 3) ∧ decode cX5_isKey 40 = .ok (.iconst 0, 1) ∧ decode cX5_isKey 41 = .ok (.ireturn, 1) := by decide +kernel
theorem dX5_isKey_33 : decode cX5_isKey 33 = .ok (.ireturn, 1) := DX5_isKey_2.1
theorem dX5_isKey_34 : decode cX5_isKey 34 = .ok (.iinc 4 1, 3) := DX5_isKey_2.2.1
theorem dX5_isKey_37 : decode cX5_isKey 37 = .ok (.goto (-26), 3) := DX5_isKey_2.2.2.1
theorem dX5_isKey_40 : decode cX5_isKey 40 = .ok (.iconst 0, 1) := DX5_isKey_2.2.2.2.1
theorem dX5_isKey_41 : decode cX5_isKey 41 = .ok (.ireturn, 1) := DX5_isKey_2.2.2.2.2
set_option maxRecDepth 100000 in
theorem DX5_insert_0 : decode cX5_insert 0 = .ok (.aload_n 0, 1) ∧ decode cX5_insert 1 = .ok (.getfield 50, 3) ∧ decode cX5_insert 4 = .ok (.bipush 12, 2) ∧ decode cX5_insert 6 = .ok (.if_icmp .lt 5, 3) ∧ decode cX5_insert 9 = .ok (.iconst (-1), 1) ∧ decode cX5_insert 10 = .ok (.ireturn, 1) ∧ decode cX5_insert 11 = .ok (.aload_n 0, 1) ∧ decode cX5_insert 12 = .ok (.getfield 19, 3) ∧ decode cX5_insert 15 = .ok (.aload_n 0, 1) ∧ decode cX5_insert 16 = .ok (.getfield 50, 3) := by decide +kernel
theorem dX5_insert_0 : decode cX5_insert 0 = .ok (.aload_n 0, 1) := DX5_insert_0.1
theorem dX5_insert_1 : decode cX5_insert 1 = .ok (.getfield 50, 3) := DX5_insert_0.2.1
theorem dX5_insert_4 : decode cX5_insert 4 = .ok (.bipush 12, 2) := DX5_insert_0.2.2.1
theorem dX5_insert_6 : decode cX5_insert 6 = .ok (.if_icmp .lt 5, 3) := DX5_insert_0.2.2.2.1
theorem dX5_insert_9 : decode cX5_insert 9 = .ok (.iconst (-1), 1) := DX5_insert_0.2.2.2.2.1
theorem dX5_insert_10 : decode cX5_insert 10 = .ok (.ireturn, 1) := DX5_insert_0.2.2.2.2.2.1
theorem dX5_insert_11 : decode cX5_insert 11 = .ok (.aload_n 0, 1) := DX5_insert_0.2.2.2.2.2.2.1
theorem dX5_insert_12 : decode cX5_insert 12 = .ok (.getfield 19, 3) := DX5_insert_0.2.2.2.2.2.2.2.1
theorem dX5_insert_15 : decode cX5_insert 15 = .ok (.aload_n 0, 1) := DX5_insert_0.2.2.2.2.2.2.2.2.1
theorem dX5_insert_16 : decode cX5_insert 16 = .ok (.getfield 50, 3) := DX5_insert_0.2.2.2.2.2.2.2.2.2
set_option maxRecDepth 100000 in
theorem DX5_insert_1 : decode cX5_insert 19 = .ok (.aaload, 1) ∧ decode cX5_insert 20 = .ok (.astore 7, 2) ∧ decode cX5_insert 22 = .ok (.aload_n 0, 1) ∧ decode cX5_insert 23 = .ok (.dup, 1) ∧ decode cX5_insert 24 = .ok (.getfield 50, 3) ∧ decode cX5_insert 27 = .ok (.iconst 1, 1) ∧ decode cX5_insert 28 = .ok (.iadd, 1) ∧ decode cX5_insert 29 = .ok (.putfield 50, 3) ∧ decode cX5_insert 32 = .ok (.aload 7, 2) ∧ decode cX5_insert 34 = .ok (.iload_n 1, 1) := by decide +kernel
theorem dX5_insert_19 : decode cX5_insert 19 = .ok (.aaload, 1) := DX5_insert_1.1
theorem dX5_insert_20 : decode cX5_insert 20 = .ok (.astore 7, 2) := DX5_insert_1.2.1
theorem dX5_insert_22 : decode cX5_insert 22 = .ok (.aload_n 0, 1) := DX5_insert_1.2.2.1
theorem dX5_insert_23 : decode cX5_insert 23 = .ok (.dup, 1) := DX5_insert_1.2.2.2.1
theorem dX5_insert_24 : decode cX5_insert 24 = .ok (.getfield 50, 3) := DX5_insert_1.2.2.2.2.1
theorem dX5_insert_27 : decode cX5_insert 27 = .ok (.iconst 1, 1) := DX5_insert_1.2.2.2.2.2.1
theorem dX5_insert_28 : decode cX5_insert 28 = .ok (.iadd, 1) := DX5_insert_1.2.2.2.2.2.2.1
theorem dX5_insert_29 : decode cX5_insert 29 = .ok (.putfield 50, 3) := DX5_insert_1.2.2.2.2.2.2.2.1
theorem dX5_insert_32 : decode cX5_insert 32 = .ok (.aload 7, 2) := DX5_insert_1.2.2.2.2.2.2.2.2.1
theorem dX5_insert_34 : decode cX5_insert 34 = .ok (.iload_n 1, 1) := DX5_insert_1.2.2.2.2.2.2.2.2.2
set_option maxRecDepth 100000 in
theorem DX5_insert_2 : decode cX5_insert 35 = .ok (.iload_n 3, 1) ∧ decode cX5_insert 36 = .ok (.iload 5, 2) ∧ decode cX5_insert 38 = .ok (.invokevirtual 75, 3) ∧ decode cX5_insert 41 = .ok (.aload 7, 2) ∧ decode cX5_insert 43 = .ok (.iload_n 2, 1) ∧ decode cX5_insert 44 = .ok (.iload 4, 2) ∧ decode cX5_insert 46 = .ok (.iload 6, 2) ∧ decode cX5_insert 48 = .ok (.invokevirtual 79, 3) ∧ decode cX5_insert 51 = .ok (.aload 7, 2) ∧ decode cX5_insert 53 = .ok (.iconst 0, 1) := by decide +kernel
theorem dX5_insert_35 : decode cX5_insert 35 = .ok (.iload_n 3, 1) := DX5_insert_2.1
theorem dX5_insert_36 : decode cX5_insert 36 = .ok (.iload 5, 2) := DX5_insert_2.2.1
theorem dX5_insert_38 : decode cX5_insert 38 = .ok (.invokevirtual 75, 3) := DX5_insert_2.2.2.1
theorem dX5_insert_41 : decode cX5_insert 41 = .ok (.aload 7, 2) := DX5_insert_2.2.2.2.1
theorem dX5_insert_43 : decode cX5_insert 43 = .ok (.iload_n 2, 1) := DX5_insert_2.2.2.2.2.1
theorem dX5_insert_44 : decode cX5_insert 44 = .ok (.iload 4, 2) := DX5_insert_2.2.2.2.2.2.1
theorem dX5_insert_46 : decode cX5_insert 46 = .ok (.iload 6, 2) := DX5_insert_2.2.2.2.2.2.2.1
theorem dX5_insert_48 : decode cX5_insert 48 = .ok (.invokevirtual 79, 3) := DX5_insert_2.2.2.2.2.2.2.2.1
theorem dX5_insert_51 : decode cX5_insert 51 = .ok (.aload 7, 2) := DX5_insert_2.2.2.2.2.2.2.2.2.1
theorem dX5_insert_53 : decode cX5_insert 53 = .ok (.iconst 0, 1) := DX5_insert_2.2.2.2.2.2.2.2.2.2
set_option maxRecDepth 100000 in
theorem DX5_insert_3 : decode cX5_insert 54 = .ok (.iconst 0, 1) ∧ decode cX5_insert 55 = .ok (.iconst 0, 1) ∧ decode cX5_insert 56 = .ok (.invokevirtual 82, 3) ∧ decode cX5_insert 59 = .ok (.aload_n 0, 1) ∧ decode cX5_insert 60 = .ok (.aload_n 0, 1) ∧ decode cX5_insert 61 = .ok (.getfield 50, 3) ∧ decode cX5_insert 64 = .ok (.iconst 1, 1) ∧ decode cX5_insert 65 = .ok (.isub, 1) ∧ decode cX5_insert 66 = .ok (.invokevirtual 85, 3) ∧ decode cX5_insert 69 = .ok (.ireturn, 1) := by decide +kernel
theorem dX5_insert_54 : decode cX5_insert 54 = .ok (.iconst 0, 1) := DX5_insert_3.1
theorem dX5_insert_55 : decode cX5_insert 55 = .ok (.iconst 0, 1) := DX5_insert_3.2.1
theorem dX5_insert_56 : decode cX5_insert 56 = .ok (.invokevirtual 82, 3) := DX5_insert_3.2.2.1
theorem dX5_insert_59 : decode cX5_insert 59 = .ok (.aload_n 0, 1) := DX5_insert_3.2.2.2.1
theorem dX5_insert_60 : decode cX5_insert 60 = .ok (.aload_n 0, 1) := DX5_insert_3.2.2.2.2.1
theorem dX5_insert_61 : decode cX5_insert 61 = .ok (.getfield 50, 3) := DX5_insert_3.2.2.2.2.2.1
theorem dX5_insert_64 : decode cX5_insert 64 = .ok (.iconst 1, 1) := DX5_insert_3.2.2.2.2.2.2.1
theorem dX5_insert_65 : decode cX5_insert 65 = .ok (.isub, 1) := DX5_insert_3.2.2.2.2.2.2.2.1
theorem dX5_insert_66 : decode cX5_insert 66 = .ok (.invokevirtual 85, 3) := DX5_insert_3.2.2.2.2.2.2.2.2.1
theorem dX5_insert_69 : decode cX5_insert 69 = .ok (.ireturn, 1) := DX5_insert_3.2.2.2.2.2.2.2.2.2
set_option maxRecDepth 100000 in
theorem DX5_cutInTwo_0 : decode cX5_cutInTwo 0 = .ok (.aload_n 0, 1) ∧ decode cX5_cutInTwo 1 = .ok (.getfield 50, 3) ∧ decode cX5_cutInTwo 4 = .ok (.bipush 12, 2) ∧ decode cX5_cutInTwo 6 = .ok (.if_icmp .lt 5, 3) ∧ decode cX5_cutInTwo 9 = .ok (.iconst (-1), 1) ∧ decode cX5_cutInTwo 10 = .ok (.ireturn, 1) ∧ decode cX5_cutInTwo 11 = .ok (.aload_n 0, 1) ∧ decode cX5_cutInTwo 12 = .ok (.getfield 19, 3) ∧ decode cX5_cutInTwo 15 = .ok (.iload_n 1, 1) ∧ decode cX5_cutInTwo 16 = .ok (.aaload, 1) := by decide +kernel
theorem dX5_cutInTwo_0 : decode cX5_cutInTwo 0 = .ok (.aload_n 0, 1) := DX5_cutInTwo_0.1
theorem dX5_cutInTwo_1 : decode cX5_cutInTwo 1 = .ok (.getfield 50, 3) := DX5_cutInTwo_0.2.1
theorem dX5_cutInTwo_4 : decode cX5_cutInTwo 4 = .ok (.bipush 12, 2) := DX5_cutInTwo_0.2.2.1
theorem dX5_cutInTwo_6 : decode cX5_cutInTwo 6 = .ok (.if_icmp .lt 5, 3) := DX5_cutInTwo_0.2.2.2.1
theorem dX5_cutInTwo_9 : decode cX5_cutInTwo 9 = .ok (.iconst (-1), 1) := DX5_cutInTwo_0.2.2.2.2.1
theorem dX5_cutInTwo_10 : decode cX5_cutInTwo 10 = .ok (.ireturn, 1) := DX5_cutInTwo_0.2.2.2.2.2.1
theorem dX5_cutInTwo_11 : decode cX5_cutInTwo 11 = .ok (.aload_n 0, 1) := DX5_cutInTwo_0.2.2.2.2.2.2.1
theorem dX5_cutInTwo_12 : decode cX5_cutInTwo 12 = .ok (.getfield 19, 3) := DX5_cutInTwo_0.2.2.2.2.2.2.2.1
theorem dX5_cutInTwo_15 : decode cX5_cutInTwo 15 = .ok (.iload_n 1, 1) := DX5_cutInTwo_0.2.2.2.2.2.2.2.2.1
theorem dX5_cutInTwo_16 : decode cX5_cutInTwo 16 = .ok (.aaload, 1) := DX5_cutInTwo_0.2.2.2.2.2.2.2.2.2
set_option maxRecDepth 100000 in
theorem DX5_cutInTwo_1 : decode cX5_cutInTwo 17 = .ok (.astore_n 3, 1) ∧ decode cX5_cutInTwo 18 = .ok (.aload_n 0, 1) ∧ decode cX5_cutInTwo 19 = .ok (.getfield 19, 3) ∧ decode cX5_cutInTwo 22 = .ok (.aload_n 0, 1) ∧ decode cX5_cutInTwo 23 = .ok (.getfield 50, 3) ∧ decode cX5_cutInTwo 26 = .ok (.aaload, 1) ∧ decode cX5_cutInTwo 27 = .ok (.astore 4, 2) ∧ decode cX5_cutInTwo 29 = .ok (.aload_n 0, 1) ∧ decode cX5_cutInTwo 30 = .ok (.dup, 1) ∧ decode cX5_cutInTwo 31 = .ok (.getfield 50, 3) := by decide +kernel
theorem dX5_cutInTwo_17 : decode cX5_cutInTwo 17 = .ok (.astore_n 3, 1) := DX5_cutInTwo_1.1
theorem dX5_cutInTwo_18 : decode cX5_cutInTwo 18 = .ok (.aload_n 0, 1) := DX5_cutInTwo_1.2.1
theorem dX5_cutInTwo_19 : decode cX5_cutInTwo 19 = .ok (.getfield 19, 3) := DX5_cutInTwo_1.2.2.1
theorem dX5_cutInTwo_22 : decode cX5_cutInTwo 22 = .ok (.aload_n 0, 1) := DX5_cutInTwo_1.2.2.2.1
theorem dX5_cutInTwo_23 : decode cX5_cutInTwo 23 = .ok (.getfield 50, 3) := DX5_cutInTwo_1.2.2.2.2.1
theorem dX5_cutInTwo_26 : decode cX5_cutInTwo 26 = .ok (.aaload, 1) := DX5_cutInTwo_1.2.2.2.2.2.1
theorem dX5_cutInTwo_27 : decode cX5_cutInTwo 27 = .ok (.astore 4, 2) := DX5_cutInTwo_1.2.2.2.2.2.2.1
theorem dX5_cutInTwo_29 : decode cX5_cutInTwo 29 = .ok (.aload_n 0, 1) := DX5_cutInTwo_1.2.2.2.2.2.2.2.1
theorem dX5_cutInTwo_30 : decode cX5_cutInTwo 30 = .ok (.dup, 1) := DX5_cutInTwo_1.2.2.2.2.2.2.2.2.1
theorem dX5_cutInTwo_31 : decode cX5_cutInTwo 31 = .ok (.getfield 50, 3) := DX5_cutInTwo_1.2.2.2.2.2.2.2.2.2
set_option maxRecDepth 100000 in
theorem DX5_cutInTwo_2 : decode cX5_cutInTwo 34 = .ok (.iconst 1, 1) ∧ decode cX5_cutInTwo 35 = .ok (.iadd, 1) ∧ decode cX5_cutInTwo 36 = .ok (.putfield 50, 3) ∧ decode cX5_cutInTwo 39 = .ok (.aload 4, 2) ∧ decode cX5_cutInTwo 41 = .ok (.aload_n 3, 1) ∧ decode cX5_cutInTwo 42 = .ok (.invokevirtual 53, 3) ∧ decode cX5_cutInTwo 45 = .ok (.aload 4, 2) ∧ decode cX5_cutInTwo 47 = .ok (.iload_n 2, 1) ∧ decode cX5_cutInTwo 48 = .ok (.aload_n 3, 1) ∧ decode cX5_cutInTwo 49 = .ok (.getfield 89, 3) := by decide +kernel
theorem dX5_cutInTwo_34 : decode cX5_cutInTwo 34 = .ok (.iconst 1, 1) := DX5_cutInTwo_2.1
theorem dX5_cutInTwo_35 : decode cX5_cutInTwo 35 = .ok (.iadd, 1) := DX5_cutInTwo_2.2.1
theorem dX5_cutInTwo_36 : decode cX5_cutInTwo 36 = .ok (.putfield 50, 3) := DX5_cutInTwo_2.2.2.1
theorem dX5_cutInTwo_39 : decode cX5_cutInTwo 39 = .ok (.aload 4, 2) := DX5_cutInTwo_2.2.2.2.1
theorem dX5_cutInTwo_41 : decode cX5_cutInTwo 41 = .ok (.aload_n 3, 1) := DX5_cutInTwo_2.2.2.2.2.1
theorem dX5_cutInTwo_42 : decode cX5_cutInTwo 42 = .ok (.invokevirtual 53, 3) := DX5_cutInTwo_2.2.2.2.2.2.1
theorem dX5_cutInTwo_45 : decode cX5_cutInTwo 45 = .ok (.aload 4, 2) := DX5_cutInTwo_2.2.2.2.2.2.2.1
theorem dX5_cutInTwo_47 : decode cX5_cutInTwo 47 = .ok (.iload_n 2, 1) := DX5_cutInTwo_2.2.2.2.2.2.2.2.1
theorem dX5_cutInTwo_48 : decode cX5_cutInTwo 48 = .ok (.aload_n 3, 1) := DX5_cutInTwo_2.2.2.2.2.2.2.2.2.1
theorem dX5_cutInTwo_49 : decode cX5_cutInTwo 49 = .ok (.getfield 89, 3) := DX5_cutInTwo_2.2.2.2.2.2.2.2.2.2
set_option maxRecDepth 100000 in
theorem DX5_cutInTwo_3 : decode cX5_cutInTwo 52 = .ok (.isub, 1) ∧ decode cX5_cutInTwo 53 = .ok (.iconst 0, 1) ∧ decode cX5_cutInTwo 54 = .ok (.invokevirtual 92, 3) ∧ decode cX5_cutInTwo 57 = .ok (.aload 4, 2) ∧ decode cX5_cutInTwo 59 = .ok (.iconst 0, 1) ∧ decode cX5_cutInTwo 60 = .ok (.putfield 96, 3) ∧ decode cX5_cutInTwo 63 = .ok (.aload_n 3, 1) ∧ decode cX5_cutInTwo 64 = .ok (.iconst 0, 1) ∧ decode cX5_cutInTwo 65 = .ok (.aload_n 3, 1) ∧ decode cX5_cutInTwo 66 = .ok (.invokevirtual 99, 3) := by decide +kernel
theorem dX5_cutInTwo_52 : decode cX5_cutInTwo 52 = .ok (.isub, 1) := DX5_cutInTwo_3.1
theorem dX5_cutInTwo_53 : decode cX5_cutInTwo 53 = .ok (.iconst 0, 1) := DX5_cutInTwo_3.2.1
theorem dX5_cutInTwo_54 : decode cX5_cutInTwo 54 = .ok (.invokevirtual 92, 3) := DX5_cutInTwo_3.2.2.1
theorem dX5_cutInTwo_57 : decode cX5_cutInTwo 57 = .ok (.aload 4, 2) := DX5_cutInTwo_3.2.2.2.1
theorem dX5_cutInTwo_59 : decode cX5_cutInTwo 59 = .ok (.iconst 0, 1) := DX5_cutInTwo_3.2.2.2.2.1
theorem dX5_cutInTwo_60 : decode cX5_cutInTwo 60 = .ok (.putfield 96, 3) := DX5_cutInTwo_3.2.2.2.2.2.1
theorem dX5_cutInTwo_63 : decode cX5_cutInTwo 63 = .ok (.aload_n 3, 1) := DX5_cutInTwo_3.2.2.2.2.2.2.1
theorem dX5_cutInTwo_64 : decode cX5_cutInTwo 64 = .ok (.iconst 0, 1) := DX5_cutInTwo_3.2.2.2.2.2.2.2.1
theorem dX5_cutInTwo_65 : decode cX5_cutInTwo 65 = .ok (.aload_n 3, 1) := DX5_cutInTwo_3.2.2.2.2.2.2.2.2.1
theorem dX5_cutInTwo_66 : decode cX5_cutInTwo 66 = .ok (.invokevirtual 99, 3) := DX5_cutInTwo_3.2.2.2.2.2.2.2.2.2
set_option maxRecDepth 100000 in
theorem DX5_cutInTwo_4 : decode cX5_cutInTwo 69 = .ok (.iload_n 2, 1) ∧ decode cX5_cutInTwo 70 = .ok (.isub, 1) ∧ decode cX5_cutInTwo 71 = .ok (.invokevirtual 92, 3) ∧ decode cX5_cutInTwo 74 = .ok (.aload_n 3, 1) ∧ decode cX5_cutInTwo 75 = .ok (.iconst 0, 1) ∧ decode cX5_cutInTwo 76 = .ok (.putfield 103, 3) ∧ decode cX5_cutInTwo 79 = .ok (.aload_n 0, 1) ∧ decode cX5_cutInTwo 80 = .ok (.aload_n 0, 1) ∧ decode cX5_cutInTwo 81 = .ok (.getfield 50, 3) ∧ decode cX5_cutInTwo 84 = .ok (.iconst 1, 1) := by decide +kernel
theorem dX5_cutInTwo_69 : decode cX5_cutInTwo 69 = .ok (.iload_n 2, 1) := DX5_cutInTwo_4.1
theorem dX5_cutInTwo_70 : decode cX5_cutInTwo 70 = .ok (.isub, 1) := DX5_cutInTwo_4.2.1
theorem dX5_cutInTwo_71 : decode cX5_cutInTwo 71 = .ok (.invokevirtual 92, 3) := DX5_cutInTwo_4.2.2.1
theorem dX5_cutInTwo_74 : decode cX5_cutInTwo 74 = .ok (.aload_n 3, 1) := DX5_cutInTwo_4.2.2.2.1
theorem dX5_cutInTwo_75 : decode cX5_cutInTwo 75 = .ok (.iconst 0, 1) := DX5_cutInTwo_4.2.2.2.2.1
theorem dX5_cutInTwo_76 : decode cX5_cutInTwo 76 = .ok (.putfield 103, 3) := DX5_cutInTwo_4.2.2.2.2.2.1
theorem dX5_cutInTwo_79 : decode cX5_cutInTwo 79 = .ok (.aload_n 0, 1) := DX5_cutInTwo_4.2.2.2.2.2.2.1
theorem dX5_cutInTwo_80 : decode cX5_cutInTwo 80 = .ok (.aload_n 0, 1) := DX5_cutInTwo_4.2.2.2.2.2.2.2.1
theorem dX5_cutInTwo_81 : decode cX5_cutInTwo 81 = .ok (.getfield 50, 3) := DX5_cutInTwo_4.2.2.2.2.2.2.2.2.1
theorem dX5_cutInTwo_84 : decode cX5_cutInTwo 84 = .ok (.iconst 1, 1) := DX5_cutInTwo_4.2.2.2.2.2.2.2.2.2
set_option maxRecDepth 100000 in
theorem DX5_cutInTwo_5 : decode cX5_cutInTwo 85 = .ok (.isub, 1) ∧ decode cX5_cutInTwo 86 = .ok (.invokevirtual 85, 3) ∧ decode cX5_cutInTwo 89 = .ok (.ireturn, 1) := by decide +kernel
theorem dX5_cutInTwo_85 : decode cX5_cutInTwo 85 = .ok (.isub, 1) := DX5_cutInTwo_5.1
theorem dX5_cutInTwo_86 : decode cX5_cutInTwo 86 = .ok (.invokevirtual 85, 3) := DX5_cutInTwo_5.2.1
theorem dX5_cutInTwo_89 : decode cX5_cutInTwo 89 = .ok (.ireturn, 1) := DX5_cutInTwo_5.2.2
set_option maxRecDepth 100000 in
theorem DX5_settle_0 : decode cX5_settle 0 = .ok (.iload_n 1, 1) ∧ decode cX5_settle 1 = .ok (.istore_n 2, 1) ∧ decode cX5_settle 2 = .ok (.iload_n 2, 1) ∧ decode cX5_settle 3 = .ok (.ifCond .le 37, 3) ∧ decode cX5_settle 6 = .ok (.aload_n 0, 1) ∧ decode cX5_settle 7 = .ok (.getfield 19, 3) ∧ decode cX5_settle 10 = .ok (.iload_n 2, 1) ∧ decode cX5_settle 11 = .ok (.aaload, 1) ∧ decode cX5_settle 12 = .ok (.aload_n 0, 1) ∧ decode cX5_settle 13 = .ok (.getfield 19, 3) := by decide +kernel
theorem dX5_settle_0 : decode cX5_settle 0 = .ok (.iload_n 1, 1) := DX5_settle_0.1
theorem dX5_settle_1 : decode cX5_settle 1 = .ok (.istore_n 2, 1) := DX5_settle_0.2.1
theorem dX5_settle_2 : decode cX5_settle 2 = .ok (.iload_n 2, 1) := DX5_settle_0.2.2.1
theorem dX5_settle_3 : decode cX5_settle 3 = .ok (.ifCond .le 37, 3) := DX5_settle_0.2.2.2.1
theorem dX5_settle_6 : decode cX5_settle 6 = .ok (.aload_n 0, 1) := DX5_settle_0.2.2.2.2.1
theorem dX5_settle_7 : decode cX5_settle 7 = .ok (.getfield 19, 3) := DX5_settle_0.2.2.2.2.2.1
theorem dX5_settle_10 : decode cX5_settle 10 = .ok (.iload_n 2, 1) := DX5_settle_0.2.2.2.2.2.2.1
theorem dX5_settle_11 : decode cX5_settle 11 = .ok (.aaload, 1) := DX5_settle_0.2.2.2.2.2.2.2.1
theorem dX5_settle_12 : decode cX5_settle 12 = .ok (.aload_n 0, 1) := DX5_settle_0.2.2.2.2.2.2.2.2.1
theorem dX5_settle_13 : decode cX5_settle 13 = .ok (.getfield 19, 3) := DX5_settle_0.2.2.2.2.2.2.2.2.2
set_option maxRecDepth 100000 in
theorem DX5_settle_1 : decode cX5_settle 16 = .ok (.iload_n 2, 1) ∧ decode cX5_settle 17 = .ok (.iconst 1, 1) ∧ decode cX5_settle 18 = .ok (.isub, 1) ∧ decode cX5_settle 19 = .ok (.aaload, 1) ∧ decode cX5_settle 20 = .ok (.invokevirtual 106, 3) ∧ decode cX5_settle 23 = .ok (.ifCond .eq 17, 3) ∧ decode cX5_settle 26 = .ok (.aload_n 0, 1) ∧ decode cX5_settle 27 = .ok (.iload_n 2, 1) ∧ decode cX5_settle 28 = .ok (.iload_n 2, 1) ∧ decode cX5_settle 29 = .ok (.iconst 1, 1) := by decide +kernel
theorem dX5_settle_16 : decode cX5_settle 16 = .ok (.iload_n 2, 1) := DX5_settle_1.1
theorem dX5_settle_17 : decode cX5_settle 17 = .ok (.iconst 1, 1) := DX5_settle_1.2.1
theorem dX5_settle_18 : decode cX5_settle 18 = .ok (.isub, 1) := DX5_settle_1.2.2.1
theorem dX5_settle_19 : decode cX5_settle 19 = .ok (.aaload, 1) := DX5_settle_1.2.2.2.1
theorem dX5_settle_20 : decode cX5_settle 20 = .ok (.invokevirtual 106, 3) := DX5_settle_1.2.2.2.2.1
theorem dX5_settle_23 : decode cX5_settle 23 = .ok (.ifCond .eq 17, 3) := DX5_settle_1.2.2.2.2.2.1
theorem dX5_settle_26 : decode cX5_settle 26 = .ok (.aload_n 0, 1) := DX5_settle_1.2.2.2.2.2.2.1
theorem dX5_settle_27 : decode cX5_settle 27 = .ok (.iload_n 2, 1) := DX5_settle_1.2.2.2.2.2.2.2.1
theorem dX5_settle_28 : decode cX5_settle 28 = .ok (.iload_n 2, 1) := DX5_settle_1.2.2.2.2.2.2.2.2.1
theorem dX5_settle_29 : decode cX5_settle 29 = .ok (.iconst 1, 1) := DX5_settle_1.2.2.2.2.2.2.2.2.2
set_option maxRecDepth 100000 in
theorem DX5_settle_2 : decode cX5_settle 30 = .ok (.isub, 1) ∧ decode cX5_settle 31 = .ok (.invokevirtual 110, 3) ∧ decode cX5_settle 34 = .ok (.iinc 2 (-1), 3) ∧ decode cX5_settle 37 = .ok (.goto (-35), 3) ∧ decode cX5_settle 40 = .ok (.iload_n 2, 1) ∧ decode cX5_settle 41 = .ok (.aload_n 0, 1) ∧ decode cX5_settle 42 = .ok (.getfield 50, 3) ∧ decode cX5_settle 45 = .ok (.iconst 1, 1) ∧ decode cX5_settle 46 = .ok (.isub, 1) ∧ decode cX5_settle 47 = .ok (.if_icmp .ge 37, 3) := by decide +kernel
theorem dX5_settle_30 : decode cX5_settle 30 = .ok (.isub, 1) := DX5_settle_2.1
theorem dX5_settle_31 : decode cX5_settle 31 = .ok (.invokevirtual 110, 3) := DX5_settle_2.2.1
theorem dX5_settle_34 : decode cX5_settle 34 = .ok (.iinc 2 (-1), 3) := DX5_settle_2.2.2.1
theorem dX5_settle_37 : decode cX5_settle 37 = .ok (.goto (-35), 3) := DX5_settle_2.2.2.2.1
theorem dX5_settle_40 : decode cX5_settle 40 = .ok (.iload_n 2, 1) := DX5_settle_2.2.2.2.2.1
theorem dX5_settle_41 : decode cX5_settle 41 = .ok (.aload_n 0, 1) := DX5_settle_2.2.2.2.2.2.1
theorem dX5_settle_42 : decode cX5_settle 42 = .ok (.getfield 50, 3) := DX5_settle_2.2.2.2.2.2.2.1
theorem dX5_settle_45 : decode cX5_settle 45 = .ok (.iconst 1, 1) := DX5_settle_2.2.2.2.2.2.2.2.1
theorem dX5_settle_46 : decode cX5_settle 46 = .ok (.isub, 1) := DX5_settle_2.2.2.2.2.2.2.2.2.1
theorem dX5_settle_47 : decode cX5_settle 47 = .ok (.if_icmp .ge 37, 3) := DX5_settle_2.2.2.2.2.2.2.2.2.2
set_option maxRecDepth 100000 in
theorem DX5_settle_3 : decode cX5_settle 50 = .ok (.aload_n 0, 1) ∧ decode cX5_settle 51 = .ok (.getfield 19, 3) ∧ decode cX5_settle 54 = .ok (.iload_n 2, 1) ∧ decode cX5_settle 55 = .ok (.iconst 1, 1) ∧ decode cX5_settle 56 = .ok (.iadd, 1) ∧ decode cX5_settle 57 = .ok (.aaload, 1) ∧ decode cX5_settle 58 = .ok (.aload_n 0, 1) ∧ decode cX5_settle 59 = .ok (.getfield 19, 3) ∧ decode cX5_settle 62 = .ok (.iload_n 2, 1) ∧ decode cX5_settle 63 = .ok (.aaload, 1) := by decide +kernel
theorem dX5_settle_50 : decode cX5_settle 50 = .ok (.aload_n 0, 1) := DX5_settle_3.1
theorem dX5_settle_51 : decode cX5_settle 51 = .ok (.getfield 19, 3) := DX5_settle_3.2.1
theorem dX5_settle_54 : decode cX5_settle 54 = .ok (.iload_n 2, 1) := DX5_settle_3.2.2.1
theorem dX5_settle_55 : decode cX5_settle 55 = .ok (.iconst 1, 1) := DX5_settle_3.2.2.2.1
theorem dX5_settle_56 : decode cX5_settle 56 = .ok (.iadd, 1) := DX5_settle_3.2.2.2.2.1
theorem dX5_settle_57 : decode cX5_settle 57 = .ok (.aaload, 1) := DX5_settle_3.2.2.2.2.2.1
theorem dX5_settle_58 : decode cX5_settle 58 = .ok (.aload_n 0, 1) := DX5_settle_3.2.2.2.2.2.2.1
theorem dX5_settle_59 : decode cX5_settle 59 = .ok (.getfield 19, 3) := DX5_settle_3.2.2.2.2.2.2.2.1
theorem dX5_settle_62 : decode cX5_settle 62 = .ok (.iload_n 2, 1) := DX5_settle_3.2.2.2.2.2.2.2.2.1
theorem dX5_settle_63 : decode cX5_settle 63 = .ok (.aaload, 1) := DX5_settle_3.2.2.2.2.2.2.2.2.2
set_option maxRecDepth 100000 in
theorem DX5_settle_4 : decode cX5_settle 64 = .ok (.invokevirtual 106, 3) ∧ decode cX5_settle 67 = .ok (.ifCond .eq 17, 3) ∧ decode cX5_settle 70 = .ok (.aload_n 0, 1) ∧ decode cX5_settle 71 = .ok (.iload_n 2, 1) ∧ decode cX5_settle 72 = .ok (.iload_n 2, 1) ∧ decode cX5_settle 73 = .ok (.iconst 1, 1) ∧ decode cX5_settle 74 = .ok (.iadd, 1) ∧ decode cX5_settle 75 = .ok (.invokevirtual 110, 3) ∧ decode cX5_settle 78 = .ok (.iinc 2 1, 3) ∧ decode cX5_settle 81 = .ok (.goto (-41), 3) := by decide +kernel
theorem dX5_settle_64 : decode cX5_settle 64 = .ok (.invokevirtual 106, 3) := DX5_settle_4.1
theorem dX5_settle_67 : decode cX5_settle 67 = .ok (.ifCond .eq 17, 3) := DX5_settle_4.2.1
theorem dX5_settle_70 : decode cX5_settle 70 = .ok (.aload_n 0, 1) := DX5_settle_4.2.2.1
theorem dX5_settle_71 : decode cX5_settle 71 = .ok (.iload_n 2, 1) := DX5_settle_4.2.2.2.1
theorem dX5_settle_72 : decode cX5_settle 72 = .ok (.iload_n 2, 1) := DX5_settle_4.2.2.2.2.1
theorem dX5_settle_73 : decode cX5_settle 73 = .ok (.iconst 1, 1) := DX5_settle_4.2.2.2.2.2.1
theorem dX5_settle_74 : decode cX5_settle 74 = .ok (.iadd, 1) := DX5_settle_4.2.2.2.2.2.2.1
theorem dX5_settle_75 : decode cX5_settle 75 = .ok (.invokevirtual 110, 3) := DX5_settle_4.2.2.2.2.2.2.2.1
theorem dX5_settle_78 : decode cX5_settle 78 = .ok (.iinc 2 1, 3) := DX5_settle_4.2.2.2.2.2.2.2.2.1
theorem dX5_settle_81 : decode cX5_settle 81 = .ok (.goto (-41), 3) := DX5_settle_4.2.2.2.2.2.2.2.2.2
set_option maxRecDepth 100000 in
theorem DX5_settle_5 : decode cX5_settle 84 = .ok (.iload_n 2, 1) ∧ decode cX5_settle 85 = .ok (.ireturn, 1) := by decide +kernel
theorem dX5_settle_84 : decode cX5_settle 84 = .ok (.iload_n 2, 1) := DX5_settle_5.1
theorem dX5_settle_85 : decode cX5_settle 85 = .ok (.ireturn, 1) := DX5_settle_5.2
set_option maxRecDepth 100000 in
theorem DX5_swap_0 : decode cX5_swap 0 = .ok (.aload_n 0, 1) ∧ decode cX5_swap 1 = .ok (.getfield 19, 3) ∧ decode cX5_swap 4 = .ok (.iload_n 1, 1) ∧ decode cX5_swap 5 = .ok (.aaload, 1) ∧ decode cX5_swap 6 = .ok (.astore_n 3, 1) ∧ decode cX5_swap 7 = .ok (.aload_n 0, 1) ∧ decode cX5_swap 8 = .ok (.getfield 19, 3) ∧ decode cX5_swap 11 = .ok (.iload_n 1, 1) ∧ decode cX5_swap 12 = .ok (.aload_n 0, 1) ∧ decode cX5_swap 13 = .ok (.getfield 19, 3) := by decide +kernel
theorem dX5_swap_0 : decode cX5_swap 0 = .ok (.aload_n 0, 1) := DX5_swap_0.1
theorem dX5_swap_1 : decode cX5_swap 1 = .ok (.getfield 19, 3) := DX5_swap_0.2.1
theorem dX5_swap_4 : decode cX5_swap 4 = .ok (.iload_n 1, 1) := DX5_swap_0.2.2.1
theorem dX5_swap_5 : decode cX5_swap 5 = .ok (.aaload, 1) := DX5_swap_0.2.2.2.1
theorem dX5_swap_6 : decode cX5_swap 6 = .ok (.astore_n 3, 1) := DX5_swap_0.2.2.2.2.1
theorem dX5_swap_7 : decode cX5_swap 7 = .ok (.aload_n 0, 1) := DX5_swap_0.2.2.2.2.2.1
theorem dX5_swap_8 : decode cX5_swap 8 = .ok (.getfield 19, 3) := DX5_swap_0.2.2.2.2.2.2.1
theorem dX5_swap_11 : decode cX5_swap 11 = .ok (.iload_n 1, 1) := DX5_swap_0.2.2.2.2.2.2.2.1
theorem dX5_swap_12 : decode cX5_swap 12 = .ok (.aload_n 0, 1) := DX5_swap_0.2.2.2.2.2.2.2.2.1
theorem dX5_swap_13 : decode cX5_swap 13 = .ok (.getfield 19, 3) := DX5_swap_0.2.2.2.2.2.2.2.2.2
set_option maxRecDepth 100000 in
theorem DX5_swap_1 : decode cX5_swap 16 = .ok (.iload_n 2, 1) ∧ decode cX5_swap 17 = .ok (.aaload, 1) ∧ decode cX5_swap 18 = .ok (.aastore, 1) ∧ decode cX5_swap 19 = .ok (.aload_n 0, 1) ∧ decode cX5_swap 20 = .ok (.getfield 19, 3) ∧ decode cX5_swap 23 = .ok (.iload_n 2, 1) ∧ decode cX5_swap 24 = .ok (.aload_n 3, 1) ∧ decode cX5_swap 25 = .ok (.aastore, 1) ∧ decode cX5_swap 26 = .ok (.return_, 1) := by decide +kernel
theorem dX5_swap_16 : decode cX5_swap 16 = .ok (.iload_n 2, 1) := DX5_swap_1.1
theorem dX5_swap_17 : decode cX5_swap 17 = .ok (.aaload, 1) := DX5_swap_1.2.1
theorem dX5_swap_18 : decode cX5_swap 18 = .ok (.aastore, 1) := DX5_swap_1.2.2.1
theorem dX5_swap_19 : decode cX5_swap 19 = .ok (.aload_n 0, 1) := DX5_swap_1.2.2.2.1
theorem dX5_swap_20 : decode cX5_swap 20 = .ok (.getfield 19, 3) := DX5_swap_1.2.2.2.2.1
theorem dX5_swap_23 : decode cX5_swap 23 = .ok (.iload_n 2, 1) := DX5_swap_1.2.2.2.2.2.1
theorem dX5_swap_24 : decode cX5_swap 24 = .ok (.aload_n 3, 1) := DX5_swap_1.2.2.2.2.2.2.1
theorem dX5_swap_25 : decode cX5_swap 25 = .ok (.aastore, 1) := DX5_swap_1.2.2.2.2.2.2.2.1
theorem dX5_swap_26 : decode cX5_swap 26 = .ok (.return_, 1) := DX5_swap_1.2.2.2.2.2.2.2.2
set_option maxRecDepth 100000 in
theorem DX5_drop_0 : decode cX5_drop 0 = .ok (.iload_n 1, 1) ∧ decode cX5_drop 1 = .ok (.istore_n 2, 1) ∧ decode cX5_drop 2 = .ok (.iload_n 2, 1) ∧ decode cX5_drop 3 = .ok (.aload_n 0, 1) ∧ decode cX5_drop 4 = .ok (.getfield 50, 3) ∧ decode cX5_drop 7 = .ok (.iconst 1, 1) ∧ decode cX5_drop 8 = .ok (.isub, 1) ∧ decode cX5_drop 9 = .ok (.if_icmp .ge 17, 3) ∧ decode cX5_drop 12 = .ok (.aload_n 0, 1) ∧ decode cX5_drop 13 = .ok (.iload_n 2, 1) := by decide +kernel
theorem dX5_drop_0 : decode cX5_drop 0 = .ok (.iload_n 1, 1) := DX5_drop_0.1
theorem dX5_drop_1 : decode cX5_drop 1 = .ok (.istore_n 2, 1) := DX5_drop_0.2.1
theorem dX5_drop_2 : decode cX5_drop 2 = .ok (.iload_n 2, 1) := DX5_drop_0.2.2.1
theorem dX5_drop_3 : decode cX5_drop 3 = .ok (.aload_n 0, 1) := DX5_drop_0.2.2.2.1
theorem dX5_drop_4 : decode cX5_drop 4 = .ok (.getfield 50, 3) := DX5_drop_0.2.2.2.2.1
theorem dX5_drop_7 : decode cX5_drop 7 = .ok (.iconst 1, 1) := DX5_drop_0.2.2.2.2.2.1
theorem dX5_drop_8 : decode cX5_drop 8 = .ok (.isub, 1) := DX5_drop_0.2.2.2.2.2.2.1
theorem dX5_drop_9 : decode cX5_drop 9 = .ok (.if_icmp .ge 17, 3) := DX5_drop_0.2.2.2.2.2.2.2.1
theorem dX5_drop_12 : decode cX5_drop 12 = .ok (.aload_n 0, 1) := DX5_drop_0.2.2.2.2.2.2.2.2.1
theorem dX5_drop_13 : decode cX5_drop 13 = .ok (.iload_n 2, 1) := DX5_drop_0.2.2.2.2.2.2.2.2.2
set_option maxRecDepth 100000 in
theorem DX5_drop_1 : decode cX5_drop 14 = .ok (.iload_n 2, 1) ∧ decode cX5_drop 15 = .ok (.iconst 1, 1) ∧ decode cX5_drop 16 = .ok (.iadd, 1) ∧ decode cX5_drop 17 = .ok (.invokevirtual 110, 3) ∧ decode cX5_drop 20 = .ok (.iinc 2 1, 3) ∧ decode cX5_drop 23 = .ok (.goto (-21), 3) ∧ decode cX5_drop 26 = .ok (.aload_n 0, 1) ∧ decode cX5_drop 27 = .ok (.dup, 1) ∧ decode cX5_drop 28 = .ok (.getfield 50, 3) ∧ decode cX5_drop 31 = .ok (.iconst 1, 1) := by decide +kernel
theorem dX5_drop_14 : decode cX5_drop 14 = .ok (.iload_n 2, 1) := DX5_drop_1.1
theorem dX5_drop_15 : decode cX5_drop 15 = .ok (.iconst 1, 1) := DX5_drop_1.2.1
theorem dX5_drop_16 : decode cX5_drop 16 = .ok (.iadd, 1) := DX5_drop_1.2.2.1
theorem dX5_drop_17 : decode cX5_drop 17 = .ok (.invokevirtual 110, 3) := DX5_drop_1.2.2.2.1
theorem dX5_drop_20 : decode cX5_drop 20 = .ok (.iinc 2 1, 3) := DX5_drop_1.2.2.2.2.1
theorem dX5_drop_23 : decode cX5_drop 23 = .ok (.goto (-21), 3) := DX5_drop_1.2.2.2.2.2.1
theorem dX5_drop_26 : decode cX5_drop 26 = .ok (.aload_n 0, 1) := DX5_drop_1.2.2.2.2.2.2.1
theorem dX5_drop_27 : decode cX5_drop 27 = .ok (.dup, 1) := DX5_drop_1.2.2.2.2.2.2.2.1
theorem dX5_drop_28 : decode cX5_drop 28 = .ok (.getfield 50, 3) := DX5_drop_1.2.2.2.2.2.2.2.2.1
theorem dX5_drop_31 : decode cX5_drop 31 = .ok (.iconst 1, 1) := DX5_drop_1.2.2.2.2.2.2.2.2.2
set_option maxRecDepth 100000 in
theorem DX5_drop_2 : decode cX5_drop 32 = .ok (.isub, 1) ∧ decode cX5_drop 33 = .ok (.putfield 50, 3) ∧ decode cX5_drop 36 = .ok (.return_, 1) := by decide +kernel
theorem dX5_drop_32 : decode cX5_drop 32 = .ok (.isub, 1) := DX5_drop_2.1
theorem dX5_drop_33 : decode cX5_drop 33 = .ok (.putfield 50, 3) := DX5_drop_2.2.1
theorem dX5_drop_36 : decode cX5_drop 36 = .ok (.return_, 1) := DX5_drop_2.2.2
set_option maxRecDepth 100000 in
theorem DX5_cutOut_0 : decode cX5_cutOut 0 = .ok (.iconst 0, 1) ∧ decode cX5_cutOut 1 = .ok (.istore 4, 2) ∧ decode cX5_cutOut 3 = .ok (.aload_n 0, 1) ∧ decode cX5_cutOut 4 = .ok (.getfield 50, 3) ∧ decode cX5_cutOut 7 = .ok (.iconst 1, 1) ∧ decode cX5_cutOut 8 = .ok (.isub, 1) ∧ decode cX5_cutOut 9 = .ok (.istore 5, 2) ∧ decode cX5_cutOut 11 = .ok (.iload 5, 2) ∧ decode cX5_cutOut 13 = .ok (.ifCond .lt 64, 3) ∧ decode cX5_cutOut 16 = .ok (.aload_n 0, 1) := by decide +kernel
theorem dX5_cutOut_0 : decode cX5_cutOut 0 = .ok (.iconst 0, 1) := DX5_cutOut_0.1
theorem dX5_cutOut_1 : decode cX5_cutOut 1 = .ok (.istore 4, 2) := DX5_cutOut_0.2.1
theorem dX5_cutOut_3 : decode cX5_cutOut 3 = .ok (.aload_n 0, 1) := DX5_cutOut_0.2.2.1
theorem dX5_cutOut_4 : decode cX5_cutOut 4 = .ok (.getfield 50, 3) := DX5_cutOut_0.2.2.2.1
theorem dX5_cutOut_7 : decode cX5_cutOut 7 = .ok (.iconst 1, 1) := DX5_cutOut_0.2.2.2.2.1
theorem dX5_cutOut_8 : decode cX5_cutOut 8 = .ok (.isub, 1) := DX5_cutOut_0.2.2.2.2.2.1
theorem dX5_cutOut_9 : decode cX5_cutOut 9 = .ok (.istore 5, 2) := DX5_cutOut_0.2.2.2.2.2.2.1
theorem dX5_cutOut_11 : decode cX5_cutOut 11 = .ok (.iload 5, 2) := DX5_cutOut_0.2.2.2.2.2.2.2.1
theorem dX5_cutOut_13 : decode cX5_cutOut 13 = .ok (.ifCond .lt 64, 3) := DX5_cutOut_0.2.2.2.2.2.2.2.2.1
theorem dX5_cutOut_16 : decode cX5_cutOut 16 = .ok (.aload_n 0, 1) := DX5_cutOut_0.2.2.2.2.2.2.2.2.2
set_option maxRecDepth 100000 in
theorem DX5_cutOut_1 : decode cX5_cutOut 17 = .ok (.getfield 19, 3) ∧ decode cX5_cutOut 20 = .ok (.iload 5, 2) ∧ decode cX5_cutOut 22 = .ok (.aaload, 1) ∧ decode cX5_cutOut 23 = .ok (.astore 6, 2) ∧ decode cX5_cutOut 25 = .ok (.aload 6, 2) ∧ decode cX5_cutOut 27 = .ok (.getfield 113, 3) ∧ decode cX5_cutOut 30 = .ok (.iload_n 1, 1) ∧ decode cX5_cutOut 31 = .ok (.if_icmp .ne 40, 3) ∧ decode cX5_cutOut 34 = .ok (.aload 6, 2) ∧ decode cX5_cutOut 36 = .ok (.getfield 89, 3) := by decide +kernel
theorem dX5_cutOut_17 : decode cX5_cutOut 17 = .ok (.getfield 19, 3) := DX5_cutOut_1.1
theorem dX5_cutOut_20 : decode cX5_cutOut 20 = .ok (.iload 5, 2) := DX5_cutOut_1.2.1
theorem dX5_cutOut_22 : decode cX5_cutOut 22 = .ok (.aaload, 1) := DX5_cutOut_1.2.2.1
theorem dX5_cutOut_23 : decode cX5_cutOut 23 = .ok (.astore 6, 2) := DX5_cutOut_1.2.2.2.1
theorem dX5_cutOut_25 : decode cX5_cutOut 25 = .ok (.aload 6, 2) := DX5_cutOut_1.2.2.2.2.1
theorem dX5_cutOut_27 : decode cX5_cutOut 27 = .ok (.getfield 113, 3) := DX5_cutOut_1.2.2.2.2.2.1
theorem dX5_cutOut_30 : decode cX5_cutOut 30 = .ok (.iload_n 1, 1) := DX5_cutOut_1.2.2.2.2.2.2.1
theorem dX5_cutOut_31 : decode cX5_cutOut 31 = .ok (.if_icmp .ne 40, 3) := DX5_cutOut_1.2.2.2.2.2.2.2.1
theorem dX5_cutOut_34 : decode cX5_cutOut 34 = .ok (.aload 6, 2) := DX5_cutOut_1.2.2.2.2.2.2.2.2.1
theorem dX5_cutOut_36 : decode cX5_cutOut 36 = .ok (.getfield 89, 3) := DX5_cutOut_1.2.2.2.2.2.2.2.2.2
set_option maxRecDepth 100000 in
theorem DX5_cutOut_2 : decode cX5_cutOut 39 = .ok (.iload_n 2, 1) ∧ decode cX5_cutOut 40 = .ok (.if_icmp .lt 24, 3) ∧ decode cX5_cutOut 43 = .ok (.aload 6, 2) ∧ decode cX5_cutOut 45 = .ok (.invokevirtual 99, 3) ∧ decode cX5_cutOut 48 = .ok (.iload_n 3, 1) ∧ decode cX5_cutOut 49 = .ok (.if_icmp .gt 15, 3) ∧ decode cX5_cutOut 52 = .ok (.aload_n 0, 1) ∧ decode cX5_cutOut 53 = .ok (.iload 5, 2) ∧ decode cX5_cutOut 55 = .ok (.invokevirtual 116, 3) ∧ decode cX5_cutOut 58 = .ok (.iinc 4 1, 3) := by decide +kernel
theorem dX5_cutOut_39 : decode cX5_cutOut 39 = .ok (.iload_n 2, 1) := DX5_cutOut_2.1
theorem dX5_cutOut_40 : decode cX5_cutOut 40 = .ok (.if_icmp .lt 24, 3) := DX5_cutOut_2.2.1
theorem dX5_cutOut_43 : decode cX5_cutOut 43 = .ok (.aload 6, 2) := DX5_cutOut_2.2.2.1
theorem dX5_cutOut_45 : decode cX5_cutOut 45 = .ok (.invokevirtual 99, 3) := DX5_cutOut_2.2.2.2.1
theorem dX5_cutOut_48 : decode cX5_cutOut 48 = .ok (.iload_n 3, 1) := DX5_cutOut_2.2.2.2.2.1
theorem dX5_cutOut_49 : decode cX5_cutOut 49 = .ok (.if_icmp .gt 15, 3) := DX5_cutOut_2.2.2.2.2.2.1
theorem dX5_cutOut_52 : decode cX5_cutOut 52 = .ok (.aload_n 0, 1) := DX5_cutOut_2.2.2.2.2.2.2.1
theorem dX5_cutOut_53 : decode cX5_cutOut 53 = .ok (.iload 5, 2) := DX5_cutOut_2.2.2.2.2.2.2.2.1
theorem dX5_cutOut_55 : decode cX5_cutOut 55 = .ok (.invokevirtual 116, 3) := DX5_cutOut_2.2.2.2.2.2.2.2.2.1
theorem dX5_cutOut_58 : decode cX5_cutOut 58 = .ok (.iinc 4 1, 3) := DX5_cutOut_2.2.2.2.2.2.2.2.2.2
set_option maxRecDepth 100000 in
theorem DX5_cutOut_3 : decode cX5_cutOut 61 = .ok (.goto 10, 3) ∧ decode cX5_cutOut 64 = .ok (.aload 6, 2) ∧ decode cX5_cutOut 66 = .ok (.iload_n 2, 1) ∧ decode cX5_cutOut 67 = .ok (.iload_n 3, 1) ∧ decode cX5_cutOut 68 = .ok (.invokevirtual 120, 3) ∧ decode cX5_cutOut 71 = .ok (.iinc 5 (-1), 3) ∧ decode cX5_cutOut 74 = .ok (.goto (-63), 3) ∧ decode cX5_cutOut 77 = .ok (.iload 4, 2) ∧ decode cX5_cutOut 79 = .ok (.ireturn, 1) := by decide +kernel
theorem dX5_cutOut_61 : decode cX5_cutOut 61 = .ok (.goto 10, 3) := DX5_cutOut_3.1
theorem dX5_cutOut_64 : decode cX5_cutOut 64 = .ok (.aload 6, 2) := DX5_cutOut_3.2.1
theorem dX5_cutOut_66 : decode cX5_cutOut 66 = .ok (.iload_n 2, 1) := DX5_cutOut_3.2.2.1
theorem dX5_cutOut_67 : decode cX5_cutOut 67 = .ok (.iload_n 3, 1) := DX5_cutOut_3.2.2.2.1
theorem dX5_cutOut_68 : decode cX5_cutOut 68 = .ok (.invokevirtual 120, 3) := DX5_cutOut_3.2.2.2.2.1
theorem dX5_cutOut_71 : decode cX5_cutOut 71 = .ok (.iinc 5 (-1), 3) := DX5_cutOut_3.2.2.2.2.2.1
theorem dX5_cutOut_74 : decode cX5_cutOut 74 = .ok (.goto (-63), 3) := DX5_cutOut_3.2.2.2.2.2.2.1
theorem dX5_cutOut_77 : decode cX5_cutOut 77 = .ok (.iload 4, 2) := DX5_cutOut_3.2.2.2.2.2.2.2.1
theorem dX5_cutOut_79 : decode cX5_cutOut 79 = .ok (.ireturn, 1) := DX5_cutOut_3.2.2.2.2.2.2.2.2
set_option maxRecDepth 100000 in
theorem DX5_offsetsFit_0 : decode cX5_offsetsFit 0 = .ok (.iconst 0, 1) ∧ decode cX5_offsetsFit 1 = .ok (.istore_n 1, 1) ∧ decode cX5_offsetsFit 2 = .ok (.iload_n 1, 1) ∧ decode cX5_offsetsFit 3 = .ok (.aload_n 0, 1) ∧ decode cX5_offsetsFit 4 = .ok (.getfield 50, 3) ∧ decode cX5_offsetsFit 7 = .ok (.if_icmp .ge 26, 3) ∧ decode cX5_offsetsFit 10 = .ok (.aload_n 0, 1) ∧ decode cX5_offsetsFit 11 = .ok (.getfield 19, 3) ∧ decode cX5_offsetsFit 14 = .ok (.iload_n 1, 1) ∧ decode cX5_offsetsFit 15 = .ok (.aaload, 1) := by decide +kernel
theorem dX5_offsetsFit_0 : decode cX5_offsetsFit 0 = .ok (.iconst 0, 1) := DX5_offsetsFit_0.1
theorem dX5_offsetsFit_1 : decode cX5_offsetsFit 1 = .ok (.istore_n 1, 1) := DX5_offsetsFit_0.2.1
theorem dX5_offsetsFit_2 : decode cX5_offsetsFit 2 = .ok (.iload_n 1, 1) := DX5_offsetsFit_0.2.2.1
theorem dX5_offsetsFit_3 : decode cX5_offsetsFit 3 = .ok (.aload_n 0, 1) := DX5_offsetsFit_0.2.2.2.1
theorem dX5_offsetsFit_4 : decode cX5_offsetsFit 4 = .ok (.getfield 50, 3) := DX5_offsetsFit_0.2.2.2.2.1
theorem dX5_offsetsFit_7 : decode cX5_offsetsFit 7 = .ok (.if_icmp .ge 26, 3) := DX5_offsetsFit_0.2.2.2.2.2.1
theorem dX5_offsetsFit_10 : decode cX5_offsetsFit 10 = .ok (.aload_n 0, 1) := DX5_offsetsFit_0.2.2.2.2.2.2.1
theorem dX5_offsetsFit_11 : decode cX5_offsetsFit 11 = .ok (.getfield 19, 3) := DX5_offsetsFit_0.2.2.2.2.2.2.2.1
theorem dX5_offsetsFit_14 : decode cX5_offsetsFit 14 = .ok (.iload_n 1, 1) := DX5_offsetsFit_0.2.2.2.2.2.2.2.2.1
theorem dX5_offsetsFit_15 : decode cX5_offsetsFit 15 = .ok (.aaload, 1) := DX5_offsetsFit_0.2.2.2.2.2.2.2.2.2
set_option maxRecDepth 100000 in
theorem DX5_offsetsFit_1 : decode cX5_offsetsFit 16 = .ok (.getfield 123, 3) ∧ decode cX5_offsetsFit 19 = .ok (.sipush 3999, 3) ∧ decode cX5_offsetsFit 22 = .ok (.if_icmp .le 5, 3) ∧ decode cX5_offsetsFit 25 = .ok (.iconst 0, 1) ∧ decode cX5_offsetsFit 26 = .ok (.ireturn, 1) ∧ decode cX5_offsetsFit 27 = .ok (.iinc 1 1, 3) ∧ decode cX5_offsetsFit 30 = .ok (.goto (-28), 3) ∧ decode cX5_offsetsFit 33 = .ok (.iconst 1, 1) ∧ decode cX5_offsetsFit 34 = .ok (.ireturn, 1) := by decide +kernel
theorem dX5_offsetsFit_16 : decode cX5_offsetsFit 16 = .ok (.getfield 123, 3) := DX5_offsetsFit_1.1
theorem dX5_offsetsFit_19 : decode cX5_offsetsFit 19 = .ok (.sipush 3999, 3) := DX5_offsetsFit_1.2.1
theorem dX5_offsetsFit_22 : decode cX5_offsetsFit 22 = .ok (.if_icmp .le 5, 3) := DX5_offsetsFit_1.2.2.1
theorem dX5_offsetsFit_25 : decode cX5_offsetsFit 25 = .ok (.iconst 0, 1) := DX5_offsetsFit_1.2.2.2.1
theorem dX5_offsetsFit_26 : decode cX5_offsetsFit 26 = .ok (.ireturn, 1) := DX5_offsetsFit_1.2.2.2.2.1
theorem dX5_offsetsFit_27 : decode cX5_offsetsFit 27 = .ok (.iinc 1 1, 3) := DX5_offsetsFit_1.2.2.2.2.2.1
theorem dX5_offsetsFit_30 : decode cX5_offsetsFit 30 = .ok (.goto (-28), 3) := DX5_offsetsFit_1.2.2.2.2.2.2.1
theorem dX5_offsetsFit_33 : decode cX5_offsetsFit 33 = .ok (.iconst 1, 1) := DX5_offsetsFit_1.2.2.2.2.2.2.2.1
theorem dX5_offsetsFit_34 : decode cX5_offsetsFit 34 = .ok (.ireturn, 1) := DX5_offsetsFit_1.2.2.2.2.2.2.2.2
set_option maxRecDepth 100000 in
theorem DX5_isLawful_0 : decode cX5_isLawful 0 = .ok (.iconst 1, 1) ∧ decode cX5_isLawful 1 = .ok (.istore_n 1, 1) ∧ decode cX5_isLawful 2 = .ok (.iload_n 1, 1) ∧ decode cX5_isLawful 3 = .ok (.aload_n 0, 1) ∧ decode cX5_isLawful 4 = .ok (.getfield 50, 3) ∧ decode cX5_isLawful 7 = .ok (.if_icmp .ge 60, 3) ∧ decode cX5_isLawful 10 = .ok (.aload_n 0, 1) ∧ decode cX5_isLawful 11 = .ok (.getfield 19, 3) ∧ decode cX5_isLawful 14 = .ok (.iload_n 1, 1) ∧ decode cX5_isLawful 15 = .ok (.iconst 1, 1) := by decide +kernel
theorem dX5_isLawful_0 : decode cX5_isLawful 0 = .ok (.iconst 1, 1) := DX5_isLawful_0.1
theorem dX5_isLawful_1 : decode cX5_isLawful 1 = .ok (.istore_n 1, 1) := DX5_isLawful_0.2.1
theorem dX5_isLawful_2 : decode cX5_isLawful 2 = .ok (.iload_n 1, 1) := DX5_isLawful_0.2.2.1
theorem dX5_isLawful_3 : decode cX5_isLawful 3 = .ok (.aload_n 0, 1) := DX5_isLawful_0.2.2.2.1
theorem dX5_isLawful_4 : decode cX5_isLawful 4 = .ok (.getfield 50, 3) := DX5_isLawful_0.2.2.2.2.1
theorem dX5_isLawful_7 : decode cX5_isLawful 7 = .ok (.if_icmp .ge 60, 3) := DX5_isLawful_0.2.2.2.2.2.1
theorem dX5_isLawful_10 : decode cX5_isLawful 10 = .ok (.aload_n 0, 1) := DX5_isLawful_0.2.2.2.2.2.2.1
theorem dX5_isLawful_11 : decode cX5_isLawful 11 = .ok (.getfield 19, 3) := DX5_isLawful_0.2.2.2.2.2.2.2.1
theorem dX5_isLawful_14 : decode cX5_isLawful 14 = .ok (.iload_n 1, 1) := DX5_isLawful_0.2.2.2.2.2.2.2.2.1
theorem dX5_isLawful_15 : decode cX5_isLawful 15 = .ok (.iconst 1, 1) := DX5_isLawful_0.2.2.2.2.2.2.2.2.2
set_option maxRecDepth 100000 in
theorem DX5_isLawful_1 : decode cX5_isLawful 16 = .ok (.isub, 1) ∧ decode cX5_isLawful 17 = .ok (.aaload, 1) ∧ decode cX5_isLawful 18 = .ok (.astore_n 2, 1) ∧ decode cX5_isLawful 19 = .ok (.aload_n 0, 1) ∧ decode cX5_isLawful 20 = .ok (.getfield 19, 3) ∧ decode cX5_isLawful 23 = .ok (.iload_n 1, 1) ∧ decode cX5_isLawful 24 = .ok (.aaload, 1) ∧ decode cX5_isLawful 25 = .ok (.astore_n 3, 1) ∧ decode cX5_isLawful 26 = .ok (.aload_n 2, 1) ∧ decode cX5_isLawful 27 = .ok (.getfield 113, 3) := by decide +kernel
theorem dX5_isLawful_16 : decode cX5_isLawful 16 = .ok (.isub, 1) := DX5_isLawful_1.1
theorem dX5_isLawful_17 : decode cX5_isLawful 17 = .ok (.aaload, 1) := DX5_isLawful_1.2.1
theorem dX5_isLawful_18 : decode cX5_isLawful 18 = .ok (.astore_n 2, 1) := DX5_isLawful_1.2.2.1
theorem dX5_isLawful_19 : decode cX5_isLawful 19 = .ok (.aload_n 0, 1) := DX5_isLawful_1.2.2.2.1
theorem dX5_isLawful_20 : decode cX5_isLawful 20 = .ok (.getfield 19, 3) := DX5_isLawful_1.2.2.2.2.1
theorem dX5_isLawful_23 : decode cX5_isLawful 23 = .ok (.iload_n 1, 1) := DX5_isLawful_1.2.2.2.2.2.1
theorem dX5_isLawful_24 : decode cX5_isLawful 24 = .ok (.aaload, 1) := DX5_isLawful_1.2.2.2.2.2.2.1
theorem dX5_isLawful_25 : decode cX5_isLawful 25 = .ok (.astore_n 3, 1) := DX5_isLawful_1.2.2.2.2.2.2.2.1
theorem dX5_isLawful_26 : decode cX5_isLawful 26 = .ok (.aload_n 2, 1) := DX5_isLawful_1.2.2.2.2.2.2.2.2.1
theorem dX5_isLawful_27 : decode cX5_isLawful 27 = .ok (.getfield 113, 3) := DX5_isLawful_1.2.2.2.2.2.2.2.2.2
set_option maxRecDepth 100000 in
theorem DX5_isLawful_2 : decode cX5_isLawful 30 = .ok (.aload_n 3, 1) ∧ decode cX5_isLawful 31 = .ok (.getfield 113, 3) ∧ decode cX5_isLawful 34 = .ok (.if_icmp .ne 27, 3) ∧ decode cX5_isLawful 37 = .ok (.aload_n 2, 1) ∧ decode cX5_isLawful 38 = .ok (.getfield 89, 3) ∧ decode cX5_isLawful 41 = .ok (.aload_n 3, 1) ∧ decode cX5_isLawful 42 = .ok (.getfield 89, 3) ∧ decode cX5_isLawful 45 = .ok (.if_icmp .ge 14, 3) ∧ decode cX5_isLawful 48 = .ok (.aload_n 2, 1) ∧ decode cX5_isLawful 49 = .ok (.invokevirtual 99, 3) := by decide +kernel
theorem dX5_isLawful_30 : decode cX5_isLawful 30 = .ok (.aload_n 3, 1) := DX5_isLawful_2.1
theorem dX5_isLawful_31 : decode cX5_isLawful 31 = .ok (.getfield 113, 3) := DX5_isLawful_2.2.1
theorem dX5_isLawful_34 : decode cX5_isLawful 34 = .ok (.if_icmp .ne 27, 3) := DX5_isLawful_2.2.2.1
theorem dX5_isLawful_37 : decode cX5_isLawful 37 = .ok (.aload_n 2, 1) := DX5_isLawful_2.2.2.2.1
theorem dX5_isLawful_38 : decode cX5_isLawful 38 = .ok (.getfield 89, 3) := DX5_isLawful_2.2.2.2.2.1
theorem dX5_isLawful_41 : decode cX5_isLawful 41 = .ok (.aload_n 3, 1) := DX5_isLawful_2.2.2.2.2.2.1
theorem dX5_isLawful_42 : decode cX5_isLawful 42 = .ok (.getfield 89, 3) := DX5_isLawful_2.2.2.2.2.2.2.1
theorem dX5_isLawful_45 : decode cX5_isLawful 45 = .ok (.if_icmp .ge 14, 3) := DX5_isLawful_2.2.2.2.2.2.2.2.1
theorem dX5_isLawful_48 : decode cX5_isLawful 48 = .ok (.aload_n 2, 1) := DX5_isLawful_2.2.2.2.2.2.2.2.2.1
theorem dX5_isLawful_49 : decode cX5_isLawful 49 = .ok (.invokevirtual 99, 3) := DX5_isLawful_2.2.2.2.2.2.2.2.2.2
set_option maxRecDepth 100000 in
theorem DX5_isLawful_3 : decode cX5_isLawful 52 = .ok (.aload_n 3, 1) ∧ decode cX5_isLawful 53 = .ok (.invokevirtual 99, 3) ∧ decode cX5_isLawful 56 = .ok (.if_icmp .lt 5, 3) ∧ decode cX5_isLawful 59 = .ok (.iconst 0, 1) ∧ decode cX5_isLawful 60 = .ok (.ireturn, 1) ∧ decode cX5_isLawful 61 = .ok (.iinc 1 1, 3) ∧ decode cX5_isLawful 64 = .ok (.goto (-62), 3) ∧ decode cX5_isLawful 67 = .ok (.iconst 2, 1) ∧ decode cX5_isLawful 68 = .ok (.istore_n 1, 1) ∧ decode cX5_isLawful 69 = .ok (.iload_n 1, 1) := by decide +kernel
theorem dX5_isLawful_52 : decode cX5_isLawful 52 = .ok (.aload_n 3, 1) := DX5_isLawful_3.1
theorem dX5_isLawful_53 : decode cX5_isLawful 53 = .ok (.invokevirtual 99, 3) := DX5_isLawful_3.2.1
theorem dX5_isLawful_56 : decode cX5_isLawful 56 = .ok (.if_icmp .lt 5, 3) := DX5_isLawful_3.2.2.1
theorem dX5_isLawful_59 : decode cX5_isLawful 59 = .ok (.iconst 0, 1) := DX5_isLawful_3.2.2.2.1
theorem dX5_isLawful_60 : decode cX5_isLawful 60 = .ok (.ireturn, 1) := DX5_isLawful_3.2.2.2.2.1
theorem dX5_isLawful_61 : decode cX5_isLawful 61 = .ok (.iinc 1 1, 3) := DX5_isLawful_3.2.2.2.2.2.1
theorem dX5_isLawful_64 : decode cX5_isLawful 64 = .ok (.goto (-62), 3) := DX5_isLawful_3.2.2.2.2.2.2.1
theorem dX5_isLawful_67 : decode cX5_isLawful 67 = .ok (.iconst 2, 1) := DX5_isLawful_3.2.2.2.2.2.2.2.1
theorem dX5_isLawful_68 : decode cX5_isLawful 68 = .ok (.istore_n 1, 1) := DX5_isLawful_3.2.2.2.2.2.2.2.2.1
theorem dX5_isLawful_69 : decode cX5_isLawful 69 = .ok (.iload_n 1, 1) := DX5_isLawful_3.2.2.2.2.2.2.2.2.2
set_option maxRecDepth 100000 in
theorem DX5_isLawful_4 : decode cX5_isLawful 70 = .ok (.aload_n 0, 1) ∧ decode cX5_isLawful 71 = .ok (.getfield 50, 3) ∧ decode cX5_isLawful 74 = .ok (.if_icmp .ge 49, 3) ∧ decode cX5_isLawful 77 = .ok (.aload_n 0, 1) ∧ decode cX5_isLawful 78 = .ok (.getfield 19, 3) ∧ decode cX5_isLawful 81 = .ok (.iload_n 1, 1) ∧ decode cX5_isLawful 82 = .ok (.iconst 2, 1) ∧ decode cX5_isLawful 83 = .ok (.isub, 1) ∧ decode cX5_isLawful 84 = .ok (.aaload, 1) ∧ decode cX5_isLawful 85 = .ok (.astore_n 2, 1) := by decide +kernel
theorem dX5_isLawful_70 : decode cX5_isLawful 70 = .ok (.aload_n 0, 1) := DX5_isLawful_4.1
theorem dX5_isLawful_71 : decode cX5_isLawful 71 = .ok (.getfield 50, 3) := DX5_isLawful_4.2.1
theorem dX5_isLawful_74 : decode cX5_isLawful 74 = .ok (.if_icmp .ge 49, 3) := DX5_isLawful_4.2.2.1
theorem dX5_isLawful_77 : decode cX5_isLawful 77 = .ok (.aload_n 0, 1) := DX5_isLawful_4.2.2.2.1
theorem dX5_isLawful_78 : decode cX5_isLawful 78 = .ok (.getfield 19, 3) := DX5_isLawful_4.2.2.2.2.1
theorem dX5_isLawful_81 : decode cX5_isLawful 81 = .ok (.iload_n 1, 1) := DX5_isLawful_4.2.2.2.2.2.1
theorem dX5_isLawful_82 : decode cX5_isLawful 82 = .ok (.iconst 2, 1) := DX5_isLawful_4.2.2.2.2.2.2.1
theorem dX5_isLawful_83 : decode cX5_isLawful 83 = .ok (.isub, 1) := DX5_isLawful_4.2.2.2.2.2.2.2.1
theorem dX5_isLawful_84 : decode cX5_isLawful 84 = .ok (.aaload, 1) := DX5_isLawful_4.2.2.2.2.2.2.2.2.1
theorem dX5_isLawful_85 : decode cX5_isLawful 85 = .ok (.astore_n 2, 1) := DX5_isLawful_4.2.2.2.2.2.2.2.2.2
set_option maxRecDepth 100000 in
theorem DX5_isLawful_5 : decode cX5_isLawful 86 = .ok (.aload_n 0, 1) ∧ decode cX5_isLawful 87 = .ok (.getfield 19, 3) ∧ decode cX5_isLawful 90 = .ok (.iload_n 1, 1) ∧ decode cX5_isLawful 91 = .ok (.aaload, 1) ∧ decode cX5_isLawful 92 = .ok (.astore_n 3, 1) ∧ decode cX5_isLawful 93 = .ok (.aload_n 2, 1) ∧ decode cX5_isLawful 94 = .ok (.getfield 113, 3) ∧ decode cX5_isLawful 97 = .ok (.aload_n 3, 1) ∧ decode cX5_isLawful 98 = .ok (.getfield 113, 3) ∧ decode cX5_isLawful 101 = .ok (.if_icmp .ne 16, 3) := by decide +kernel
theorem dX5_isLawful_86 : decode cX5_isLawful 86 = .ok (.aload_n 0, 1) := DX5_isLawful_5.1
theorem dX5_isLawful_87 : decode cX5_isLawful 87 = .ok (.getfield 19, 3) := DX5_isLawful_5.2.1
theorem dX5_isLawful_90 : decode cX5_isLawful 90 = .ok (.iload_n 1, 1) := DX5_isLawful_5.2.2.1
theorem dX5_isLawful_91 : decode cX5_isLawful 91 = .ok (.aaload, 1) := DX5_isLawful_5.2.2.2.1
theorem dX5_isLawful_92 : decode cX5_isLawful 92 = .ok (.astore_n 3, 1) := DX5_isLawful_5.2.2.2.2.1
theorem dX5_isLawful_93 : decode cX5_isLawful 93 = .ok (.aload_n 2, 1) := DX5_isLawful_5.2.2.2.2.2.1
theorem dX5_isLawful_94 : decode cX5_isLawful 94 = .ok (.getfield 113, 3) := DX5_isLawful_5.2.2.2.2.2.2.1
theorem dX5_isLawful_97 : decode cX5_isLawful 97 = .ok (.aload_n 3, 1) := DX5_isLawful_5.2.2.2.2.2.2.2.1
theorem dX5_isLawful_98 : decode cX5_isLawful 98 = .ok (.getfield 113, 3) := DX5_isLawful_5.2.2.2.2.2.2.2.2.1
theorem dX5_isLawful_101 : decode cX5_isLawful 101 = .ok (.if_icmp .ne 16, 3) := DX5_isLawful_5.2.2.2.2.2.2.2.2.2
set_option maxRecDepth 100000 in
theorem DX5_isLawful_6 : decode cX5_isLawful 104 = .ok (.aload_n 3, 1) ∧ decode cX5_isLawful 105 = .ok (.getfield 89, 3) ∧ decode cX5_isLawful 108 = .ok (.aload_n 2, 1) ∧ decode cX5_isLawful 109 = .ok (.invokevirtual 99, 3) ∧ decode cX5_isLawful 112 = .ok (.if_icmp .ge 5, 3) ∧ decode cX5_isLawful 115 = .ok (.iconst 0, 1) ∧ decode cX5_isLawful 116 = .ok (.ireturn, 1) ∧ decode cX5_isLawful 117 = .ok (.iinc 1 1, 3) ∧ decode cX5_isLawful 120 = .ok (.goto (-51), 3) ∧ decode cX5_isLawful 123 = .ok (.iconst 1, 1) := by decide +kernel
theorem dX5_isLawful_104 : decode cX5_isLawful 104 = .ok (.aload_n 3, 1) := DX5_isLawful_6.1
theorem dX5_isLawful_105 : decode cX5_isLawful 105 = .ok (.getfield 89, 3) := DX5_isLawful_6.2.1
theorem dX5_isLawful_108 : decode cX5_isLawful 108 = .ok (.aload_n 2, 1) := DX5_isLawful_6.2.2.1
theorem dX5_isLawful_109 : decode cX5_isLawful 109 = .ok (.invokevirtual 99, 3) := DX5_isLawful_6.2.2.2.1
theorem dX5_isLawful_112 : decode cX5_isLawful 112 = .ok (.if_icmp .ge 5, 3) := DX5_isLawful_6.2.2.2.2.1
theorem dX5_isLawful_115 : decode cX5_isLawful 115 = .ok (.iconst 0, 1) := DX5_isLawful_6.2.2.2.2.2.1
theorem dX5_isLawful_116 : decode cX5_isLawful 116 = .ok (.ireturn, 1) := DX5_isLawful_6.2.2.2.2.2.2.1
theorem dX5_isLawful_117 : decode cX5_isLawful 117 = .ok (.iinc 1 1, 3) := DX5_isLawful_6.2.2.2.2.2.2.2.1
theorem dX5_isLawful_120 : decode cX5_isLawful 120 = .ok (.goto (-51), 3) := DX5_isLawful_6.2.2.2.2.2.2.2.2.1
theorem dX5_isLawful_123 : decode cX5_isLawful 123 = .ok (.iconst 1, 1) := DX5_isLawful_6.2.2.2.2.2.2.2.2.2
set_option maxRecDepth 100000 in
theorem DX5_isLawful_7 : decode cX5_isLawful 124 = .ok (.ireturn, 1) := by decide +kernel
theorem dX5_isLawful_124 : decode cX5_isLawful 124 = .ok (.ireturn, 1) := DX5_isLawful_7
set_option maxRecDepth 100000 in
theorem DX5_rawValue_0 : decode cX5_rawValue 0 = .ok (.iload_n 2, 1) ∧ decode cX5_rawValue 1 = .ok (.aload_n 1, 1) ∧ decode cX5_rawValue 2 = .ok (.getfield 89, 3) ∧ decode cX5_rawValue 5 = .ok (.isub, 1) ∧ decode cX5_rawValue 6 = .ok (.istore_n 3, 1) ∧ decode cX5_rawValue 7 = .ok (.aload_n 1, 1) ∧ decode cX5_rawValue 8 = .ok (.getfield 126, 3) ∧ decode cX5_rawValue 11 = .ok (.aload_n 0, 1) ∧ decode cX5_rawValue 12 = .ok (.getfield 11, 3) ∧ decode cX5_rawValue 15 = .ok (.arraylength, 1) := by decide +kernel
theorem dX5_rawValue_0 : decode cX5_rawValue 0 = .ok (.iload_n 2, 1) := DX5_rawValue_0.1
theorem dX5_rawValue_1 : decode cX5_rawValue 1 = .ok (.aload_n 1, 1) := DX5_rawValue_0.2.1
theorem dX5_rawValue_2 : decode cX5_rawValue 2 = .ok (.getfield 89, 3) := DX5_rawValue_0.2.2.1
theorem dX5_rawValue_5 : decode cX5_rawValue 5 = .ok (.isub, 1) := DX5_rawValue_0.2.2.2.1
theorem dX5_rawValue_6 : decode cX5_rawValue 6 = .ok (.istore_n 3, 1) := DX5_rawValue_0.2.2.2.2.1
theorem dX5_rawValue_7 : decode cX5_rawValue 7 = .ok (.aload_n 1, 1) := DX5_rawValue_0.2.2.2.2.2.1
theorem dX5_rawValue_8 : decode cX5_rawValue 8 = .ok (.getfield 126, 3) := DX5_rawValue_0.2.2.2.2.2.2.1
theorem dX5_rawValue_11 : decode cX5_rawValue 11 = .ok (.aload_n 0, 1) := DX5_rawValue_0.2.2.2.2.2.2.2.1
theorem dX5_rawValue_12 : decode cX5_rawValue 12 = .ok (.getfield 11, 3) := DX5_rawValue_0.2.2.2.2.2.2.2.2.1
theorem dX5_rawValue_15 : decode cX5_rawValue 15 = .ok (.arraylength, 1) := DX5_rawValue_0.2.2.2.2.2.2.2.2.2
set_option maxRecDepth 100000 in
theorem DX5_rawValue_1 : decode cX5_rawValue 16 = .ok (.if_icmp .ge 24, 3) ∧ decode cX5_rawValue 19 = .ok (.aload_n 0, 1) ∧ decode cX5_rawValue 20 = .ok (.getfield 11, 3) ∧ decode cX5_rawValue 23 = .ok (.aload_n 1, 1) ∧ decode cX5_rawValue 24 = .ok (.getfield 126, 3) ∧ decode cX5_rawValue 27 = .ok (.aaload, 1) ∧ decode cX5_rawValue 28 = .ok (.aload_n 1, 1) ∧ decode cX5_rawValue 29 = .ok (.getfield 123, 3) ∧ decode cX5_rawValue 32 = .ok (.iload_n 3, 1) ∧ decode cX5_rawValue 33 = .ok (.iadd, 1) := by decide +kernel
theorem dX5_rawValue_16 : decode cX5_rawValue 16 = .ok (.if_icmp .ge 24, 3) := DX5_rawValue_1.1
theorem dX5_rawValue_19 : decode cX5_rawValue 19 = .ok (.aload_n 0, 1) := DX5_rawValue_1.2.1
theorem dX5_rawValue_20 : decode cX5_rawValue 20 = .ok (.getfield 11, 3) := DX5_rawValue_1.2.2.1
theorem dX5_rawValue_23 : decode cX5_rawValue 23 = .ok (.aload_n 1, 1) := DX5_rawValue_1.2.2.2.1
theorem dX5_rawValue_24 : decode cX5_rawValue 24 = .ok (.getfield 126, 3) := DX5_rawValue_1.2.2.2.2.1
theorem dX5_rawValue_27 : decode cX5_rawValue 27 = .ok (.aaload, 1) := DX5_rawValue_1.2.2.2.2.2.1
theorem dX5_rawValue_28 : decode cX5_rawValue 28 = .ok (.aload_n 1, 1) := DX5_rawValue_1.2.2.2.2.2.2.1
theorem dX5_rawValue_29 : decode cX5_rawValue 29 = .ok (.getfield 123, 3) := DX5_rawValue_1.2.2.2.2.2.2.2.1
theorem dX5_rawValue_32 : decode cX5_rawValue 32 = .ok (.iload_n 3, 1) := DX5_rawValue_1.2.2.2.2.2.2.2.2.1
theorem dX5_rawValue_33 : decode cX5_rawValue 33 = .ok (.iadd, 1) := DX5_rawValue_1.2.2.2.2.2.2.2.2.2
set_option maxRecDepth 100000 in
theorem DX5_rawValue_2 : decode cX5_rawValue 34 = .ok (.invokevirtual 129, 3) ∧ decode cX5_rawValue 37 = .ok (.goto 4, 3) ∧ decode cX5_rawValue 40 = .ok (.iconst 0, 1) ∧ decode cX5_rawValue 41 = .ok (.istore 4, 2) ∧ decode cX5_rawValue 43 = .ok (.iload 4, 2) ∧ decode cX5_rawValue 45 = .ok (.aload_n 1, 1) ∧ decode cX5_rawValue 46 = .ok (.getfield 132, 3) ∧ decode cX5_rawValue 49 = .ok (.invokestatic 135, 3) ∧ decode cX5_rawValue 52 = .ok (.istore 4, 2) ∧ decode cX5_rawValue 54 = .ok (.iload 4, 2) := by decide +kernel
theorem dX5_rawValue_34 : decode cX5_rawValue 34 = .ok (.invokevirtual 129, 3) := DX5_rawValue_2.1
theorem dX5_rawValue_37 : decode cX5_rawValue 37 = .ok (.goto 4, 3) := DX5_rawValue_2.2.1
theorem dX5_rawValue_40 : decode cX5_rawValue 40 = .ok (.iconst 0, 1) := DX5_rawValue_2.2.2.1
theorem dX5_rawValue_41 : decode cX5_rawValue 41 = .ok (.istore 4, 2) := DX5_rawValue_2.2.2.2.1
theorem dX5_rawValue_43 : decode cX5_rawValue 43 = .ok (.iload 4, 2) := DX5_rawValue_2.2.2.2.2.1
theorem dX5_rawValue_45 : decode cX5_rawValue 45 = .ok (.aload_n 1, 1) := DX5_rawValue_2.2.2.2.2.2.1
theorem dX5_rawValue_46 : decode cX5_rawValue 46 = .ok (.getfield 132, 3) := DX5_rawValue_2.2.2.2.2.2.2.1
theorem dX5_rawValue_49 : decode cX5_rawValue 49 = .ok (.invokestatic 135, 3) := DX5_rawValue_2.2.2.2.2.2.2.2.1
theorem dX5_rawValue_52 : decode cX5_rawValue 52 = .ok (.istore 4, 2) := DX5_rawValue_2.2.2.2.2.2.2.2.2.1
theorem dX5_rawValue_54 : decode cX5_rawValue 54 = .ok (.iload 4, 2) := DX5_rawValue_2.2.2.2.2.2.2.2.2.2
set_option maxRecDepth 100000 in
theorem DX5_rawValue_3 : decode cX5_rawValue 56 = .ok (.aload_n 1, 1) ∧ decode cX5_rawValue 57 = .ok (.iload_n 3, 1) ∧ decode cX5_rawValue 58 = .ok (.aload_n 1, 1) ∧ decode cX5_rawValue 59 = .ok (.getfield 96, 3) ∧ decode cX5_rawValue 62 = .ok (.invokevirtual 139, 3) ∧ decode cX5_rawValue 65 = .ok (.invokestatic 135, 3) ∧ decode cX5_rawValue 68 = .ok (.istore 4, 2) ∧ decode cX5_rawValue 70 = .ok (.iload 4, 2) ∧ decode cX5_rawValue 72 = .ok (.aload_n 1, 1) ∧ decode cX5_rawValue 73 = .ok (.aload_n 1, 1) := by decide +kernel
theorem dX5_rawValue_56 : decode cX5_rawValue 56 = .ok (.aload_n 1, 1) := DX5_rawValue_3.1
theorem dX5_rawValue_57 : decode cX5_rawValue 57 = .ok (.iload_n 3, 1) := DX5_rawValue_3.2.1
theorem dX5_rawValue_58 : decode cX5_rawValue 58 = .ok (.aload_n 1, 1) := DX5_rawValue_3.2.2.1
theorem dX5_rawValue_59 : decode cX5_rawValue 59 = .ok (.getfield 96, 3) := DX5_rawValue_3.2.2.2.1
theorem dX5_rawValue_62 : decode cX5_rawValue 62 = .ok (.invokevirtual 139, 3) := DX5_rawValue_3.2.2.2.2.1
theorem dX5_rawValue_65 : decode cX5_rawValue 65 = .ok (.invokestatic 135, 3) := DX5_rawValue_3.2.2.2.2.2.1
theorem dX5_rawValue_68 : decode cX5_rawValue 68 = .ok (.istore 4, 2) := DX5_rawValue_3.2.2.2.2.2.2.1
theorem dX5_rawValue_70 : decode cX5_rawValue 70 = .ok (.iload 4, 2) := DX5_rawValue_3.2.2.2.2.2.2.2.1
theorem dX5_rawValue_72 : decode cX5_rawValue 72 = .ok (.aload_n 1, 1) := DX5_rawValue_3.2.2.2.2.2.2.2.2.1
theorem dX5_rawValue_73 : decode cX5_rawValue 73 = .ok (.aload_n 1, 1) := DX5_rawValue_3.2.2.2.2.2.2.2.2.2
set_option maxRecDepth 100000 in
theorem DX5_rawValue_4 : decode cX5_rawValue 74 = .ok (.getfield 142, 3) ∧ decode cX5_rawValue 77 = .ok (.iconst 1, 1) ∧ decode cX5_rawValue 78 = .ok (.isub, 1) ∧ decode cX5_rawValue 79 = .ok (.iload_n 3, 1) ∧ decode cX5_rawValue 80 = .ok (.isub, 1) ∧ decode cX5_rawValue 81 = .ok (.aload_n 1, 1) ∧ decode cX5_rawValue 82 = .ok (.getfield 103, 3) ∧ decode cX5_rawValue 85 = .ok (.invokevirtual 139, 3) ∧ decode cX5_rawValue 88 = .ok (.invokestatic 135, 3) ∧ decode cX5_rawValue 91 = .ok (.ireturn, 1) := by decide +kernel
theorem dX5_rawValue_74 : decode cX5_rawValue 74 = .ok (.getfield 142, 3) := DX5_rawValue_4.1
theorem dX5_rawValue_77 : decode cX5_rawValue 77 = .ok (.iconst 1, 1) := DX5_rawValue_4.2.1
theorem dX5_rawValue_78 : decode cX5_rawValue 78 = .ok (.isub, 1) := DX5_rawValue_4.2.2.1
theorem dX5_rawValue_79 : decode cX5_rawValue 79 = .ok (.iload_n 3, 1) := DX5_rawValue_4.2.2.2.1
theorem dX5_rawValue_80 : decode cX5_rawValue 80 = .ok (.isub, 1) := DX5_rawValue_4.2.2.2.2.1
theorem dX5_rawValue_81 : decode cX5_rawValue 81 = .ok (.aload_n 1, 1) := DX5_rawValue_4.2.2.2.2.2.1
theorem dX5_rawValue_82 : decode cX5_rawValue 82 = .ok (.getfield 103, 3) := DX5_rawValue_4.2.2.2.2.2.2.1
theorem dX5_rawValue_85 : decode cX5_rawValue 85 = .ok (.invokevirtual 139, 3) := DX5_rawValue_4.2.2.2.2.2.2.2.1
theorem dX5_rawValue_88 : decode cX5_rawValue 88 = .ok (.invokestatic 135, 3) := DX5_rawValue_4.2.2.2.2.2.2.2.2.1
theorem dX5_rawValue_91 : decode cX5_rawValue 91 = .ok (.ireturn, 1) := DX5_rawValue_4.2.2.2.2.2.2.2.2.2
set_option maxRecDepth 100000 in
theorem DX5_dryValue_0 : decode cX5_dryValue 0 = .ok (.aload_n 0, 1) ∧ decode cX5_dryValue 1 = .ok (.iload_n 1, 1) ∧ decode cX5_dryValue 2 = .ok (.iload_n 2, 1) ∧ decode cX5_dryValue 3 = .ok (.invokevirtual 145, 3) ∧ decode cX5_dryValue 6 = .ok (.istore_n 3, 1) ∧ decode cX5_dryValue 7 = .ok (.iload_n 3, 1) ∧ decode cX5_dryValue 8 = .ok (.iconst (-1), 1) ∧ decode cX5_dryValue 9 = .ok (.if_icmp .ne 5, 3) ∧ decode cX5_dryValue 12 = .ok (.iconst 0, 1) ∧ decode cX5_dryValue 13 = .ok (.ireturn, 1) := by decide +kernel
theorem dX5_dryValue_0 : decode cX5_dryValue 0 = .ok (.aload_n 0, 1) := DX5_dryValue_0.1
theorem dX5_dryValue_1 : decode cX5_dryValue 1 = .ok (.iload_n 1, 1) := DX5_dryValue_0.2.1
theorem dX5_dryValue_2 : decode cX5_dryValue 2 = .ok (.iload_n 2, 1) := DX5_dryValue_0.2.2.1
theorem dX5_dryValue_3 : decode cX5_dryValue 3 = .ok (.invokevirtual 145, 3) := DX5_dryValue_0.2.2.2.1
theorem dX5_dryValue_6 : decode cX5_dryValue 6 = .ok (.istore_n 3, 1) := DX5_dryValue_0.2.2.2.2.1
theorem dX5_dryValue_7 : decode cX5_dryValue 7 = .ok (.iload_n 3, 1) := DX5_dryValue_0.2.2.2.2.2.1
theorem dX5_dryValue_8 : decode cX5_dryValue 8 = .ok (.iconst (-1), 1) := DX5_dryValue_0.2.2.2.2.2.2.1
theorem dX5_dryValue_9 : decode cX5_dryValue 9 = .ok (.if_icmp .ne 5, 3) := DX5_dryValue_0.2.2.2.2.2.2.2.1
theorem dX5_dryValue_12 : decode cX5_dryValue 12 = .ok (.iconst 0, 1) := DX5_dryValue_0.2.2.2.2.2.2.2.2.1
theorem dX5_dryValue_13 : decode cX5_dryValue 13 = .ok (.ireturn, 1) := DX5_dryValue_0.2.2.2.2.2.2.2.2.2
set_option maxRecDepth 100000 in
theorem DX5_dryValue_1 : decode cX5_dryValue 14 = .ok (.aload_n 0, 1) ∧ decode cX5_dryValue 15 = .ok (.getfield 19, 3) ∧ decode cX5_dryValue 18 = .ok (.iload_n 3, 1) ∧ decode cX5_dryValue 19 = .ok (.aaload, 1) ∧ decode cX5_dryValue 20 = .ok (.astore 4, 2) ∧ decode cX5_dryValue 22 = .ok (.aload_n 0, 1) ∧ decode cX5_dryValue 23 = .ok (.aload 4, 2) ∧ decode cX5_dryValue 25 = .ok (.iload_n 2, 1) ∧ decode cX5_dryValue 26 = .ok (.invokevirtual 148, 3) ∧ decode cX5_dryValue 29 = .ok (.istore 5, 2) := by decide +kernel
theorem dX5_dryValue_14 : decode cX5_dryValue 14 = .ok (.aload_n 0, 1) := DX5_dryValue_1.1
theorem dX5_dryValue_15 : decode cX5_dryValue 15 = .ok (.getfield 19, 3) := DX5_dryValue_1.2.1
theorem dX5_dryValue_18 : decode cX5_dryValue 18 = .ok (.iload_n 3, 1) := DX5_dryValue_1.2.2.1
theorem dX5_dryValue_19 : decode cX5_dryValue 19 = .ok (.aaload, 1) := DX5_dryValue_1.2.2.2.1
theorem dX5_dryValue_20 : decode cX5_dryValue 20 = .ok (.astore 4, 2) := DX5_dryValue_1.2.2.2.2.1
theorem dX5_dryValue_22 : decode cX5_dryValue 22 = .ok (.aload_n 0, 1) := DX5_dryValue_1.2.2.2.2.2.1
theorem dX5_dryValue_23 : decode cX5_dryValue 23 = .ok (.aload 4, 2) := DX5_dryValue_1.2.2.2.2.2.2.1
theorem dX5_dryValue_25 : decode cX5_dryValue 25 = .ok (.iload_n 2, 1) := DX5_dryValue_1.2.2.2.2.2.2.2.1
theorem dX5_dryValue_26 : decode cX5_dryValue 26 = .ok (.invokevirtual 148, 3) := DX5_dryValue_1.2.2.2.2.2.2.2.2.1
theorem dX5_dryValue_29 : decode cX5_dryValue 29 = .ok (.istore 5, 2) := DX5_dryValue_1.2.2.2.2.2.2.2.2.2
set_option maxRecDepth 100000 in
theorem DX5_dryValue_2 : decode cX5_dryValue 31 = .ok (.iload_n 3, 1) ∧ decode cX5_dryValue 32 = .ok (.iconst 1, 1) ∧ decode cX5_dryValue 33 = .ok (.iadd, 1) ∧ decode cX5_dryValue 34 = .ok (.aload_n 0, 1) ∧ decode cX5_dryValue 35 = .ok (.getfield 50, 3) ∧ decode cX5_dryValue 38 = .ok (.if_icmp .ge 14, 3) ∧ decode cX5_dryValue 41 = .ok (.aload_n 0, 1) ∧ decode cX5_dryValue 42 = .ok (.getfield 19, 3) ∧ decode cX5_dryValue 45 = .ok (.iload_n 3, 1) ∧ decode cX5_dryValue 46 = .ok (.iconst 1, 1) := by decide +kernel
theorem dX5_dryValue_31 : decode cX5_dryValue 31 = .ok (.iload_n 3, 1) := DX5_dryValue_2.1
theorem dX5_dryValue_32 : decode cX5_dryValue 32 = .ok (.iconst 1, 1) := DX5_dryValue_2.2.1
theorem dX5_dryValue_33 : decode cX5_dryValue 33 = .ok (.iadd, 1) := DX5_dryValue_2.2.2.1
theorem dX5_dryValue_34 : decode cX5_dryValue 34 = .ok (.aload_n 0, 1) := DX5_dryValue_2.2.2.2.1
theorem dX5_dryValue_35 : decode cX5_dryValue 35 = .ok (.getfield 50, 3) := DX5_dryValue_2.2.2.2.2.1
theorem dX5_dryValue_38 : decode cX5_dryValue 38 = .ok (.if_icmp .ge 14, 3) := DX5_dryValue_2.2.2.2.2.2.1
theorem dX5_dryValue_41 : decode cX5_dryValue 41 = .ok (.aload_n 0, 1) := DX5_dryValue_2.2.2.2.2.2.2.1
theorem dX5_dryValue_42 : decode cX5_dryValue 42 = .ok (.getfield 19, 3) := DX5_dryValue_2.2.2.2.2.2.2.2.1
theorem dX5_dryValue_45 : decode cX5_dryValue 45 = .ok (.iload_n 3, 1) := DX5_dryValue_2.2.2.2.2.2.2.2.2.1
theorem dX5_dryValue_46 : decode cX5_dryValue 46 = .ok (.iconst 1, 1) := DX5_dryValue_2.2.2.2.2.2.2.2.2.2
set_option maxRecDepth 100000 in
theorem DX5_dryValue_3 : decode cX5_dryValue 47 = .ok (.iadd, 1) ∧ decode cX5_dryValue 48 = .ok (.aaload, 1) ∧ decode cX5_dryValue 49 = .ok (.goto 5, 3) ∧ decode cX5_dryValue 52 = .ok (.aload 4, 2) ∧ decode cX5_dryValue 54 = .ok (.astore 6, 2) ∧ decode cX5_dryValue 56 = .ok (.aload 4, 2) ∧ decode cX5_dryValue 58 = .ok (.invokevirtual 99, 3) ∧ decode cX5_dryValue 61 = .ok (.aload 6, 2) ∧ decode cX5_dryValue 63 = .ok (.getfield 89, 3) ∧ decode cX5_dryValue 66 = .ok (.isub, 1) := by decide +kernel
theorem dX5_dryValue_47 : decode cX5_dryValue 47 = .ok (.iadd, 1) := DX5_dryValue_3.1
theorem dX5_dryValue_48 : decode cX5_dryValue 48 = .ok (.aaload, 1) := DX5_dryValue_3.2.1
theorem dX5_dryValue_49 : decode cX5_dryValue 49 = .ok (.goto 5, 3) := DX5_dryValue_3.2.2.1
theorem dX5_dryValue_52 : decode cX5_dryValue 52 = .ok (.aload 4, 2) := DX5_dryValue_3.2.2.2.1
theorem dX5_dryValue_54 : decode cX5_dryValue 54 = .ok (.astore 6, 2) := DX5_dryValue_3.2.2.2.2.1
theorem dX5_dryValue_56 : decode cX5_dryValue 56 = .ok (.aload 4, 2) := DX5_dryValue_3.2.2.2.2.2.1
theorem dX5_dryValue_58 : decode cX5_dryValue 58 = .ok (.invokevirtual 99, 3) := DX5_dryValue_3.2.2.2.2.2.2.1
theorem dX5_dryValue_61 : decode cX5_dryValue 61 = .ok (.aload 6, 2) := DX5_dryValue_3.2.2.2.2.2.2.2.1
theorem dX5_dryValue_63 : decode cX5_dryValue 63 = .ok (.getfield 89, 3) := DX5_dryValue_3.2.2.2.2.2.2.2.2.1
theorem dX5_dryValue_66 : decode cX5_dryValue 66 = .ok (.isub, 1) := DX5_dryValue_3.2.2.2.2.2.2.2.2.2
set_option maxRecDepth 100000 in
theorem DX5_dryValue_4 : decode cX5_dryValue 67 = .ok (.istore 7, 2) ∧ decode cX5_dryValue 69 = .ok (.aload 6, 2) ∧ decode cX5_dryValue 71 = .ok (.aload 4, 2) ∧ decode cX5_dryValue 73 = .ok (.if_acmp .eq 68, 3) ∧ decode cX5_dryValue 76 = .ok (.aload 6, 2) ∧ decode cX5_dryValue 78 = .ok (.getfield 113, 3) ∧ decode cX5_dryValue 81 = .ok (.iload_n 1, 1) ∧ decode cX5_dryValue 82 = .ok (.if_icmp .ne 59, 3) ∧ decode cX5_dryValue 85 = .ok (.aload 6, 2) ∧ decode cX5_dryValue 87 = .ok (.iload_n 2, 1) := by decide +kernel
theorem dX5_dryValue_67 : decode cX5_dryValue 67 = .ok (.istore 7, 2) := DX5_dryValue_4.1
theorem dX5_dryValue_69 : decode cX5_dryValue 69 = .ok (.aload 6, 2) := DX5_dryValue_4.2.1
theorem dX5_dryValue_71 : decode cX5_dryValue 71 = .ok (.aload 4, 2) := DX5_dryValue_4.2.2.1
theorem dX5_dryValue_73 : decode cX5_dryValue 73 = .ok (.if_acmp .eq 68, 3) := DX5_dryValue_4.2.2.2.1
theorem dX5_dryValue_76 : decode cX5_dryValue 76 = .ok (.aload 6, 2) := DX5_dryValue_4.2.2.2.2.1
theorem dX5_dryValue_78 : decode cX5_dryValue 78 = .ok (.getfield 113, 3) := DX5_dryValue_4.2.2.2.2.2.1
theorem dX5_dryValue_81 : decode cX5_dryValue 81 = .ok (.iload_n 1, 1) := DX5_dryValue_4.2.2.2.2.2.2.1
theorem dX5_dryValue_82 : decode cX5_dryValue 82 = .ok (.if_icmp .ne 59, 3) := DX5_dryValue_4.2.2.2.2.2.2.2.1
theorem dX5_dryValue_85 : decode cX5_dryValue 85 = .ok (.aload 6, 2) := DX5_dryValue_4.2.2.2.2.2.2.2.2.1
theorem dX5_dryValue_87 : decode cX5_dryValue 87 = .ok (.iload_n 2, 1) := DX5_dryValue_4.2.2.2.2.2.2.2.2.2
set_option maxRecDepth 100000 in
theorem DX5_dryValue_5 : decode cX5_dryValue 88 = .ok (.invokevirtual 152, 3) ∧ decode cX5_dryValue 91 = .ok (.ifCond .eq 50, 3) ∧ decode cX5_dryValue 94 = .ok (.iload 7, 2) ∧ decode cX5_dryValue 96 = .ok (.ifCond .le 45, 3) ∧ decode cX5_dryValue 99 = .ok (.sipush 1000, 3) ∧ decode cX5_dryValue 102 = .ok (.iload_n 2, 1) ∧ decode cX5_dryValue 103 = .ok (.aload 6, 2) ∧ decode cX5_dryValue 105 = .ok (.getfield 89, 3) ∧ decode cX5_dryValue 108 = .ok (.isub, 1) ∧ decode cX5_dryValue 109 = .ok (.imul, 1) := by decide +kernel
theorem dX5_dryValue_88 : decode cX5_dryValue 88 = .ok (.invokevirtual 152, 3) := DX5_dryValue_5.1
theorem dX5_dryValue_91 : decode cX5_dryValue 91 = .ok (.ifCond .eq 50, 3) := DX5_dryValue_5.2.1
theorem dX5_dryValue_94 : decode cX5_dryValue 94 = .ok (.iload 7, 2) := DX5_dryValue_5.2.2.1
theorem dX5_dryValue_96 : decode cX5_dryValue 96 = .ok (.ifCond .le 45, 3) := DX5_dryValue_5.2.2.2.1
theorem dX5_dryValue_99 : decode cX5_dryValue 99 = .ok (.sipush 1000, 3) := DX5_dryValue_5.2.2.2.2.1
theorem dX5_dryValue_102 : decode cX5_dryValue 102 = .ok (.iload_n 2, 1) := DX5_dryValue_5.2.2.2.2.2.1
theorem dX5_dryValue_103 : decode cX5_dryValue 103 = .ok (.aload 6, 2) := DX5_dryValue_5.2.2.2.2.2.2.1
theorem dX5_dryValue_105 : decode cX5_dryValue 105 = .ok (.getfield 89, 3) := DX5_dryValue_5.2.2.2.2.2.2.2.1
theorem dX5_dryValue_108 : decode cX5_dryValue 108 = .ok (.isub, 1) := DX5_dryValue_5.2.2.2.2.2.2.2.2.1
theorem dX5_dryValue_109 : decode cX5_dryValue 109 = .ok (.imul, 1) := DX5_dryValue_5.2.2.2.2.2.2.2.2.2
set_option maxRecDepth 100000 in
theorem DX5_dryValue_6 : decode cX5_dryValue 110 = .ok (.iload 7, 2) ∧ decode cX5_dryValue 112 = .ok (.idiv, 1) ∧ decode cX5_dryValue 113 = .ok (.istore 8, 2) ∧ decode cX5_dryValue 115 = .ok (.iload 5, 2) ∧ decode cX5_dryValue 117 = .ok (.sipush 1000, 3) ∧ decode cX5_dryValue 120 = .ok (.iload 8, 2) ∧ decode cX5_dryValue 122 = .ok (.isub, 1) ∧ decode cX5_dryValue 123 = .ok (.invokestatic 135, 3) ∧ decode cX5_dryValue 126 = .ok (.aload_n 0, 1) ∧ decode cX5_dryValue 127 = .ok (.aload 6, 2) := by decide +kernel
theorem dX5_dryValue_110 : decode cX5_dryValue 110 = .ok (.iload 7, 2) := DX5_dryValue_6.1
theorem dX5_dryValue_112 : decode cX5_dryValue 112 = .ok (.idiv, 1) := DX5_dryValue_6.2.1
theorem dX5_dryValue_113 : decode cX5_dryValue 113 = .ok (.istore 8, 2) := DX5_dryValue_6.2.2.1
theorem dX5_dryValue_115 : decode cX5_dryValue 115 = .ok (.iload 5, 2) := DX5_dryValue_6.2.2.2.1
theorem dX5_dryValue_117 : decode cX5_dryValue 117 = .ok (.sipush 1000, 3) := DX5_dryValue_6.2.2.2.2.1
theorem dX5_dryValue_120 : decode cX5_dryValue 120 = .ok (.iload 8, 2) := DX5_dryValue_6.2.2.2.2.2.1
theorem dX5_dryValue_122 : decode cX5_dryValue 122 = .ok (.isub, 1) := DX5_dryValue_6.2.2.2.2.2.2.1
theorem dX5_dryValue_123 : decode cX5_dryValue 123 = .ok (.invokestatic 135, 3) := DX5_dryValue_6.2.2.2.2.2.2.2.1
theorem dX5_dryValue_126 : decode cX5_dryValue 126 = .ok (.aload_n 0, 1) := DX5_dryValue_6.2.2.2.2.2.2.2.2.1
theorem dX5_dryValue_127 : decode cX5_dryValue 127 = .ok (.aload 6, 2) := DX5_dryValue_6.2.2.2.2.2.2.2.2.2
set_option maxRecDepth 100000 in
theorem DX5_dryValue_7 : decode cX5_dryValue 129 = .ok (.iload_n 2, 1) ∧ decode cX5_dryValue 130 = .ok (.invokevirtual 148, 3) ∧ decode cX5_dryValue 133 = .ok (.iload 8, 2) ∧ decode cX5_dryValue 135 = .ok (.invokestatic 135, 3) ∧ decode cX5_dryValue 138 = .ok (.iadd, 1) ∧ decode cX5_dryValue 139 = .ok (.istore 5, 2) ∧ decode cX5_dryValue 141 = .ok (.iload 5, 2) ∧ decode cX5_dryValue 143 = .ok (.aload_n 0, 1) ∧ decode cX5_dryValue 144 = .ok (.getfield 25, 3) ∧ decode cX5_dryValue 147 = .ok (.iload_n 1, 1) := by decide +kernel
theorem dX5_dryValue_129 : decode cX5_dryValue 129 = .ok (.iload_n 2, 1) := DX5_dryValue_7.1
theorem dX5_dryValue_130 : decode cX5_dryValue 130 = .ok (.invokevirtual 148, 3) := DX5_dryValue_7.2.1
theorem dX5_dryValue_133 : decode cX5_dryValue 133 = .ok (.iload 8, 2) := DX5_dryValue_7.2.2.1
theorem dX5_dryValue_135 : decode cX5_dryValue 135 = .ok (.invokestatic 135, 3) := DX5_dryValue_7.2.2.2.1
theorem dX5_dryValue_138 : decode cX5_dryValue 138 = .ok (.iadd, 1) := DX5_dryValue_7.2.2.2.2.1
theorem dX5_dryValue_139 : decode cX5_dryValue 139 = .ok (.istore 5, 2) := DX5_dryValue_7.2.2.2.2.2.1
theorem dX5_dryValue_141 : decode cX5_dryValue 141 = .ok (.iload 5, 2) := DX5_dryValue_7.2.2.2.2.2.2.1
theorem dX5_dryValue_143 : decode cX5_dryValue 143 = .ok (.aload_n 0, 1) := DX5_dryValue_7.2.2.2.2.2.2.2.1
theorem dX5_dryValue_144 : decode cX5_dryValue 144 = .ok (.getfield 25, 3) := DX5_dryValue_7.2.2.2.2.2.2.2.2.1
theorem dX5_dryValue_147 : decode cX5_dryValue 147 = .ok (.iload_n 1, 1) := DX5_dryValue_7.2.2.2.2.2.2.2.2.2
set_option maxRecDepth 100000 in
theorem DX5_dryValue_8 : decode cX5_dryValue 148 = .ok (.aaload, 1) ∧ decode cX5_dryValue 149 = .ok (.getfield 156, 3) ∧ decode cX5_dryValue 152 = .ok (.invokestatic 135, 3) ∧ decode cX5_dryValue 155 = .ok (.aload_n 0, 1) ∧ decode cX5_dryValue 156 = .ok (.getfield 25, 3) ∧ decode cX5_dryValue 159 = .ok (.iload_n 1, 1) ∧ decode cX5_dryValue 160 = .ok (.aaload, 1) ∧ decode cX5_dryValue 161 = .ok (.iload_n 2, 1) ∧ decode cX5_dryValue 162 = .ok (.invokevirtual 157, 3) ∧ decode cX5_dryValue 165 = .ok (.invokestatic 135, 3) := by decide +kernel
theorem dX5_dryValue_148 : decode cX5_dryValue 148 = .ok (.aaload, 1) := DX5_dryValue_8.1
theorem dX5_dryValue_149 : decode cX5_dryValue 149 = .ok (.getfield 156, 3) := DX5_dryValue_8.2.1
theorem dX5_dryValue_152 : decode cX5_dryValue 152 = .ok (.invokestatic 135, 3) := DX5_dryValue_8.2.2.1
theorem dX5_dryValue_155 : decode cX5_dryValue 155 = .ok (.aload_n 0, 1) := DX5_dryValue_8.2.2.2.1
theorem dX5_dryValue_156 : decode cX5_dryValue 156 = .ok (.getfield 25, 3) := DX5_dryValue_8.2.2.2.2.1
theorem dX5_dryValue_159 : decode cX5_dryValue 159 = .ok (.iload_n 1, 1) := DX5_dryValue_8.2.2.2.2.2.1
theorem dX5_dryValue_160 : decode cX5_dryValue 160 = .ok (.aaload, 1) := DX5_dryValue_8.2.2.2.2.2.2.1
theorem dX5_dryValue_161 : decode cX5_dryValue 161 = .ok (.iload_n 2, 1) := DX5_dryValue_8.2.2.2.2.2.2.2.1
theorem dX5_dryValue_162 : decode cX5_dryValue 162 = .ok (.invokevirtual 157, 3) := DX5_dryValue_8.2.2.2.2.2.2.2.2.1
theorem dX5_dryValue_165 : decode cX5_dryValue 165 = .ok (.invokestatic 135, 3) := DX5_dryValue_8.2.2.2.2.2.2.2.2.2
set_option maxRecDepth 100000 in
theorem DX5_dryValue_9 : decode cX5_dryValue 168 = .ok (.ireturn, 1) := by decide +kernel
theorem dX5_dryValue_168 : decode cX5_dryValue 168 = .ok (.ireturn, 1) := DX5_dryValue_9
set_option maxRecDepth 100000 in
theorem DX5_firstCovering_0 : decode cX5_firstCovering 0 = .ok (.iconst 0, 1) ∧ decode cX5_firstCovering 1 = .ok (.istore_n 3, 1) ∧ decode cX5_firstCovering 2 = .ok (.iload_n 3, 1) ∧ decode cX5_firstCovering 3 = .ok (.aload_n 0, 1) ∧ decode cX5_firstCovering 4 = .ok (.getfield 50, 3) ∧ decode cX5_firstCovering 7 = .ok (.if_icmp .ge 37, 3) ∧ decode cX5_firstCovering 10 = .ok (.aload_n 0, 1) ∧ decode cX5_firstCovering 11 = .ok (.getfield 19, 3) ∧ decode cX5_firstCovering 14 = .ok (.iload_n 3, 1) ∧ decode cX5_firstCovering 15 = .ok (.aaload, 1) := by decide +kernel
theorem dX5_firstCovering_0 : decode cX5_firstCovering 0 = .ok (.iconst 0, 1) := DX5_firstCovering_0.1
theorem dX5_firstCovering_1 : decode cX5_firstCovering 1 = .ok (.istore_n 3, 1) := DX5_firstCovering_0.2.1
theorem dX5_firstCovering_2 : decode cX5_firstCovering 2 = .ok (.iload_n 3, 1) := DX5_firstCovering_0.2.2.1
theorem dX5_firstCovering_3 : decode cX5_firstCovering 3 = .ok (.aload_n 0, 1) := DX5_firstCovering_0.2.2.2.1
theorem dX5_firstCovering_4 : decode cX5_firstCovering 4 = .ok (.getfield 50, 3) := DX5_firstCovering_0.2.2.2.2.1
theorem dX5_firstCovering_7 : decode cX5_firstCovering 7 = .ok (.if_icmp .ge 37, 3) := DX5_firstCovering_0.2.2.2.2.2.1
theorem dX5_firstCovering_10 : decode cX5_firstCovering 10 = .ok (.aload_n 0, 1) := DX5_firstCovering_0.2.2.2.2.2.2.1
theorem dX5_firstCovering_11 : decode cX5_firstCovering 11 = .ok (.getfield 19, 3) := DX5_firstCovering_0.2.2.2.2.2.2.2.1
theorem dX5_firstCovering_14 : decode cX5_firstCovering 14 = .ok (.iload_n 3, 1) := DX5_firstCovering_0.2.2.2.2.2.2.2.2.1
theorem dX5_firstCovering_15 : decode cX5_firstCovering 15 = .ok (.aaload, 1) := DX5_firstCovering_0.2.2.2.2.2.2.2.2.2
set_option maxRecDepth 100000 in
theorem DX5_firstCovering_1 : decode cX5_firstCovering 16 = .ok (.getfield 113, 3) ∧ decode cX5_firstCovering 19 = .ok (.iload_n 1, 1) ∧ decode cX5_firstCovering 20 = .ok (.if_icmp .ne 18, 3) ∧ decode cX5_firstCovering 23 = .ok (.aload_n 0, 1) ∧ decode cX5_firstCovering 24 = .ok (.getfield 19, 3) ∧ decode cX5_firstCovering 27 = .ok (.iload_n 3, 1) ∧ decode cX5_firstCovering 28 = .ok (.aaload, 1) ∧ decode cX5_firstCovering 29 = .ok (.iload_n 2, 1) ∧ decode cX5_firstCovering 30 = .ok (.invokevirtual 152, 3) ∧ decode cX5_firstCovering 33 = .ok (.ifCond .eq 5, 3) := by decide +kernel
theorem dX5_firstCovering_16 : decode cX5_firstCovering 16 = .ok (.getfield 113, 3) := DX5_firstCovering_1.1
theorem dX5_firstCovering_19 : decode cX5_firstCovering 19 = .ok (.iload_n 1, 1) := DX5_firstCovering_1.2.1
theorem dX5_firstCovering_20 : decode cX5_firstCovering 20 = .ok (.if_icmp .ne 18, 3) := DX5_firstCovering_1.2.2.1
theorem dX5_firstCovering_23 : decode cX5_firstCovering 23 = .ok (.aload_n 0, 1) := DX5_firstCovering_1.2.2.2.1
theorem dX5_firstCovering_24 : decode cX5_firstCovering 24 = .ok (.getfield 19, 3) := DX5_firstCovering_1.2.2.2.2.1
theorem dX5_firstCovering_27 : decode cX5_firstCovering 27 = .ok (.iload_n 3, 1) := DX5_firstCovering_1.2.2.2.2.2.1
theorem dX5_firstCovering_28 : decode cX5_firstCovering 28 = .ok (.aaload, 1) := DX5_firstCovering_1.2.2.2.2.2.2.1
theorem dX5_firstCovering_29 : decode cX5_firstCovering 29 = .ok (.iload_n 2, 1) := DX5_firstCovering_1.2.2.2.2.2.2.2.1
theorem dX5_firstCovering_30 : decode cX5_firstCovering 30 = .ok (.invokevirtual 152, 3) := DX5_firstCovering_1.2.2.2.2.2.2.2.2.1
theorem dX5_firstCovering_33 : decode cX5_firstCovering 33 = .ok (.ifCond .eq 5, 3) := DX5_firstCovering_1.2.2.2.2.2.2.2.2.2
set_option maxRecDepth 100000 in
theorem DX5_firstCovering_2 : decode cX5_firstCovering 36 = .ok (.iload_n 3, 1) ∧ decode cX5_firstCovering 37 = .ok (.ireturn, 1) ∧ decode cX5_firstCovering 38 = .ok (.iinc 3 1, 3) ∧ decode cX5_firstCovering 41 = .ok (.goto (-39), 3) ∧ decode cX5_firstCovering 44 = .ok (.iconst (-1), 1) ∧ decode cX5_firstCovering 45 = .ok (.ireturn, 1) := by decide +kernel
theorem dX5_firstCovering_36 : decode cX5_firstCovering 36 = .ok (.iload_n 3, 1) := DX5_firstCovering_2.1
theorem dX5_firstCovering_37 : decode cX5_firstCovering 37 = .ok (.ireturn, 1) := DX5_firstCovering_2.2.1
theorem dX5_firstCovering_38 : decode cX5_firstCovering 38 = .ok (.iinc 3 1, 3) := DX5_firstCovering_2.2.2.1
theorem dX5_firstCovering_41 : decode cX5_firstCovering 41 = .ok (.goto (-39), 3) := DX5_firstCovering_2.2.2.2.1
theorem dX5_firstCovering_44 : decode cX5_firstCovering 44 = .ok (.iconst (-1), 1) := DX5_firstCovering_2.2.2.2.2.1
theorem dX5_firstCovering_45 : decode cX5_firstCovering 45 = .ok (.ireturn, 1) := DX5_firstCovering_2.2.2.2.2.2
set_option maxRecDepth 100000 in
theorem DX5_reaches_0 : decode cX5_reaches 0 = .ok (.iload_n 3, 1) ∧ decode cX5_reaches 1 = .ok (.ifCond .gt 5, 3) ∧ decode cX5_reaches 4 = .ok (.iconst 1, 1) ∧ decode cX5_reaches 5 = .ok (.ireturn, 1) ∧ decode cX5_reaches 6 = .ok (.iload_n 2, 1) ∧ decode cX5_reaches 7 = .ok (.bipush 40, 2) ∧ decode cX5_reaches 9 = .ok (.imul, 1) ∧ decode cX5_reaches 10 = .ok (.istore 4, 2) ∧ decode cX5_reaches 12 = .ok (.aload_n 0, 1) ∧ decode cX5_reaches 13 = .ok (.iload_n 1, 1) := by decide +kernel
theorem dX5_reaches_0 : decode cX5_reaches 0 = .ok (.iload_n 3, 1) := DX5_reaches_0.1
theorem dX5_reaches_1 : decode cX5_reaches 1 = .ok (.ifCond .gt 5, 3) := DX5_reaches_0.2.1
theorem dX5_reaches_4 : decode cX5_reaches 4 = .ok (.iconst 1, 1) := DX5_reaches_0.2.2.1
theorem dX5_reaches_5 : decode cX5_reaches 5 = .ok (.ireturn, 1) := DX5_reaches_0.2.2.2.1
theorem dX5_reaches_6 : decode cX5_reaches 6 = .ok (.iload_n 2, 1) := DX5_reaches_0.2.2.2.2.1
theorem dX5_reaches_7 : decode cX5_reaches 7 = .ok (.bipush 40, 2) := DX5_reaches_0.2.2.2.2.2.1
theorem dX5_reaches_9 : decode cX5_reaches 9 = .ok (.imul, 1) := DX5_reaches_0.2.2.2.2.2.2.1
theorem dX5_reaches_10 : decode cX5_reaches 10 = .ok (.istore 4, 2) := DX5_reaches_0.2.2.2.2.2.2.2.1
theorem dX5_reaches_12 : decode cX5_reaches 12 = .ok (.aload_n 0, 1) := DX5_reaches_0.2.2.2.2.2.2.2.2.1
theorem dX5_reaches_13 : decode cX5_reaches 13 = .ok (.iload_n 1, 1) := DX5_reaches_0.2.2.2.2.2.2.2.2.2
set_option maxRecDepth 100000 in
theorem DX5_reaches_1 : decode cX5_reaches 14 = .ok (.iload 4, 2) ∧ decode cX5_reaches 16 = .ok (.iload 4, 2) ∧ decode cX5_reaches 18 = .ok (.bipush 40, 2) ∧ decode cX5_reaches 20 = .ok (.iadd, 1) ∧ decode cX5_reaches 21 = .ok (.invokevirtual 160, 3) ∧ decode cX5_reaches 24 = .ok (.ifCond .ne 5, 3) ∧ decode cX5_reaches 27 = .ok (.iconst 0, 1) ∧ decode cX5_reaches 28 = .ok (.ireturn, 1) ∧ decode cX5_reaches 29 = .ok (.iload 4, 2) ∧ decode cX5_reaches 31 = .ok (.istore 5, 2) := by decide +kernel
theorem dX5_reaches_14 : decode cX5_reaches 14 = .ok (.iload 4, 2) := DX5_reaches_1.1
theorem dX5_reaches_16 : decode cX5_reaches 16 = .ok (.iload 4, 2) := DX5_reaches_1.2.1
theorem dX5_reaches_18 : decode cX5_reaches 18 = .ok (.bipush 40, 2) := DX5_reaches_1.2.2.1
theorem dX5_reaches_20 : decode cX5_reaches 20 = .ok (.iadd, 1) := DX5_reaches_1.2.2.2.1
theorem dX5_reaches_21 : decode cX5_reaches 21 = .ok (.invokevirtual 160, 3) := DX5_reaches_1.2.2.2.2.1
theorem dX5_reaches_24 : decode cX5_reaches 24 = .ok (.ifCond .ne 5, 3) := DX5_reaches_1.2.2.2.2.2.1
theorem dX5_reaches_27 : decode cX5_reaches 27 = .ok (.iconst 0, 1) := DX5_reaches_1.2.2.2.2.2.2.1
theorem dX5_reaches_28 : decode cX5_reaches 28 = .ok (.ireturn, 1) := DX5_reaches_1.2.2.2.2.2.2.2.1
theorem dX5_reaches_29 : decode cX5_reaches 29 = .ok (.iload 4, 2) := DX5_reaches_1.2.2.2.2.2.2.2.2.1
theorem dX5_reaches_31 : decode cX5_reaches 31 = .ok (.istore 5, 2) := DX5_reaches_1.2.2.2.2.2.2.2.2.2
set_option maxRecDepth 100000 in
theorem DX5_reaches_2 : decode cX5_reaches 33 = .ok (.iload 5, 2) ∧ decode cX5_reaches 35 = .ok (.iload 4, 2) ∧ decode cX5_reaches 37 = .ok (.bipush 40, 2) ∧ decode cX5_reaches 39 = .ok (.iadd, 1) ∧ decode cX5_reaches 40 = .ok (.if_icmp .ge 25, 3) ∧ decode cX5_reaches 43 = .ok (.aload_n 0, 1) ∧ decode cX5_reaches 44 = .ok (.iload_n 1, 1) ∧ decode cX5_reaches 45 = .ok (.iload 5, 2) ∧ decode cX5_reaches 47 = .ok (.invokevirtual 164, 3) ∧ decode cX5_reaches 50 = .ok (.invokestatic 167, 3) := by decide +kernel
theorem dX5_reaches_33 : decode cX5_reaches 33 = .ok (.iload 5, 2) := DX5_reaches_2.1
theorem dX5_reaches_35 : decode cX5_reaches 35 = .ok (.iload 4, 2) := DX5_reaches_2.2.1
theorem dX5_reaches_37 : decode cX5_reaches 37 = .ok (.bipush 40, 2) := DX5_reaches_2.2.2.1
theorem dX5_reaches_39 : decode cX5_reaches 39 = .ok (.iadd, 1) := DX5_reaches_2.2.2.2.1
theorem dX5_reaches_40 : decode cX5_reaches 40 = .ok (.if_icmp .ge 25, 3) := DX5_reaches_2.2.2.2.2.1
theorem dX5_reaches_43 : decode cX5_reaches 43 = .ok (.aload_n 0, 1) := DX5_reaches_2.2.2.2.2.2.1
theorem dX5_reaches_44 : decode cX5_reaches 44 = .ok (.iload_n 1, 1) := DX5_reaches_2.2.2.2.2.2.2.1
theorem dX5_reaches_45 : decode cX5_reaches 45 = .ok (.iload 5, 2) := DX5_reaches_2.2.2.2.2.2.2.2.1
theorem dX5_reaches_47 : decode cX5_reaches 47 = .ok (.invokevirtual 164, 3) := DX5_reaches_2.2.2.2.2.2.2.2.2.1
theorem dX5_reaches_50 : decode cX5_reaches 50 = .ok (.invokestatic 167, 3) := DX5_reaches_2.2.2.2.2.2.2.2.2.2
set_option maxRecDepth 100000 in
theorem DX5_reaches_3 : decode cX5_reaches 53 = .ok (.iload_n 3, 1) ∧ decode cX5_reaches 54 = .ok (.if_icmp .lt 5, 3) ∧ decode cX5_reaches 57 = .ok (.iconst 1, 1) ∧ decode cX5_reaches 58 = .ok (.ireturn, 1) ∧ decode cX5_reaches 59 = .ok (.iinc 5 1, 3) ∧ decode cX5_reaches 62 = .ok (.goto (-29), 3) ∧ decode cX5_reaches 65 = .ok (.iconst 0, 1) ∧ decode cX5_reaches 66 = .ok (.ireturn, 1) := by decide +kernel
theorem dX5_reaches_53 : decode cX5_reaches 53 = .ok (.iload_n 3, 1) := DX5_reaches_3.1
theorem dX5_reaches_54 : decode cX5_reaches 54 = .ok (.if_icmp .lt 5, 3) := DX5_reaches_3.2.1
theorem dX5_reaches_57 : decode cX5_reaches 57 = .ok (.iconst 1, 1) := DX5_reaches_3.2.2.1
theorem dX5_reaches_58 : decode cX5_reaches 58 = .ok (.ireturn, 1) := DX5_reaches_3.2.2.2.1
theorem dX5_reaches_59 : decode cX5_reaches 59 = .ok (.iinc 5 1, 3) := DX5_reaches_3.2.2.2.2.1
theorem dX5_reaches_62 : decode cX5_reaches 62 = .ok (.goto (-29), 3) := DX5_reaches_3.2.2.2.2.2.1
theorem dX5_reaches_65 : decode cX5_reaches 65 = .ok (.iconst 0, 1) := DX5_reaches_3.2.2.2.2.2.2.1
theorem dX5_reaches_66 : decode cX5_reaches 66 = .ok (.ireturn, 1) := DX5_reaches_3.2.2.2.2.2.2.2
set_option maxRecDepth 100000 in
theorem DX5_hasClipWithin_0 : decode cX5_hasClipWithin 0 = .ok (.iconst 0, 1) ∧ decode cX5_hasClipWithin 1 = .ok (.istore 4, 2) ∧ decode cX5_hasClipWithin 3 = .ok (.iload 4, 2) ∧ decode cX5_hasClipWithin 5 = .ok (.aload_n 0, 1) ∧ decode cX5_hasClipWithin 6 = .ok (.getfield 50, 3) ∧ decode cX5_hasClipWithin 9 = .ok (.if_icmp .ge 47, 3) ∧ decode cX5_hasClipWithin 12 = .ok (.aload_n 0, 1) ∧ decode cX5_hasClipWithin 13 = .ok (.getfield 19, 3) ∧ decode cX5_hasClipWithin 16 = .ok (.iload 4, 2) ∧ decode cX5_hasClipWithin 18 = .ok (.aaload, 1) := by decide +kernel
theorem dX5_hasClipWithin_0 : decode cX5_hasClipWithin 0 = .ok (.iconst 0, 1) := DX5_hasClipWithin_0.1
theorem dX5_hasClipWithin_1 : decode cX5_hasClipWithin 1 = .ok (.istore 4, 2) := DX5_hasClipWithin_0.2.1
theorem dX5_hasClipWithin_3 : decode cX5_hasClipWithin 3 = .ok (.iload 4, 2) := DX5_hasClipWithin_0.2.2.1
theorem dX5_hasClipWithin_5 : decode cX5_hasClipWithin 5 = .ok (.aload_n 0, 1) := DX5_hasClipWithin_0.2.2.2.1
theorem dX5_hasClipWithin_6 : decode cX5_hasClipWithin 6 = .ok (.getfield 50, 3) := DX5_hasClipWithin_0.2.2.2.2.1
theorem dX5_hasClipWithin_9 : decode cX5_hasClipWithin 9 = .ok (.if_icmp .ge 47, 3) := DX5_hasClipWithin_0.2.2.2.2.2.1
theorem dX5_hasClipWithin_12 : decode cX5_hasClipWithin 12 = .ok (.aload_n 0, 1) := DX5_hasClipWithin_0.2.2.2.2.2.2.1
theorem dX5_hasClipWithin_13 : decode cX5_hasClipWithin 13 = .ok (.getfield 19, 3) := DX5_hasClipWithin_0.2.2.2.2.2.2.2.1
theorem dX5_hasClipWithin_16 : decode cX5_hasClipWithin 16 = .ok (.iload 4, 2) := DX5_hasClipWithin_0.2.2.2.2.2.2.2.2.1
theorem dX5_hasClipWithin_18 : decode cX5_hasClipWithin 18 = .ok (.aaload, 1) := DX5_hasClipWithin_0.2.2.2.2.2.2.2.2.2
set_option maxRecDepth 100000 in
theorem DX5_hasClipWithin_1 : decode cX5_hasClipWithin 19 = .ok (.astore 5, 2) ∧ decode cX5_hasClipWithin 21 = .ok (.aload 5, 2) ∧ decode cX5_hasClipWithin 23 = .ok (.getfield 113, 3) ∧ decode cX5_hasClipWithin 26 = .ok (.iload_n 1, 1) ∧ decode cX5_hasClipWithin 27 = .ok (.if_icmp .ne 23, 3) ∧ decode cX5_hasClipWithin 30 = .ok (.aload 5, 2) ∧ decode cX5_hasClipWithin 32 = .ok (.getfield 89, 3) ∧ decode cX5_hasClipWithin 35 = .ok (.iload_n 3, 1) ∧ decode cX5_hasClipWithin 36 = .ok (.if_icmp .ge 14, 3) ∧ decode cX5_hasClipWithin 39 = .ok (.aload 5, 2) := by decide +kernel
theorem dX5_hasClipWithin_19 : decode cX5_hasClipWithin 19 = .ok (.astore 5, 2) := DX5_hasClipWithin_1.1
theorem dX5_hasClipWithin_21 : decode cX5_hasClipWithin 21 = .ok (.aload 5, 2) := DX5_hasClipWithin_1.2.1
theorem dX5_hasClipWithin_23 : decode cX5_hasClipWithin 23 = .ok (.getfield 113, 3) := DX5_hasClipWithin_1.2.2.1
theorem dX5_hasClipWithin_26 : decode cX5_hasClipWithin 26 = .ok (.iload_n 1, 1) := DX5_hasClipWithin_1.2.2.2.1
theorem dX5_hasClipWithin_27 : decode cX5_hasClipWithin 27 = .ok (.if_icmp .ne 23, 3) := DX5_hasClipWithin_1.2.2.2.2.1
theorem dX5_hasClipWithin_30 : decode cX5_hasClipWithin 30 = .ok (.aload 5, 2) := DX5_hasClipWithin_1.2.2.2.2.2.1
theorem dX5_hasClipWithin_32 : decode cX5_hasClipWithin 32 = .ok (.getfield 89, 3) := DX5_hasClipWithin_1.2.2.2.2.2.2.1
theorem dX5_hasClipWithin_35 : decode cX5_hasClipWithin 35 = .ok (.iload_n 3, 1) := DX5_hasClipWithin_1.2.2.2.2.2.2.2.1
theorem dX5_hasClipWithin_36 : decode cX5_hasClipWithin 36 = .ok (.if_icmp .ge 14, 3) := DX5_hasClipWithin_1.2.2.2.2.2.2.2.2.1
theorem dX5_hasClipWithin_39 : decode cX5_hasClipWithin 39 = .ok (.aload 5, 2) := DX5_hasClipWithin_1.2.2.2.2.2.2.2.2.2
set_option maxRecDepth 100000 in
theorem DX5_hasClipWithin_2 : decode cX5_hasClipWithin 41 = .ok (.invokevirtual 99, 3) ∧ decode cX5_hasClipWithin 44 = .ok (.iload_n 2, 1) ∧ decode cX5_hasClipWithin 45 = .ok (.if_icmp .le 5, 3) ∧ decode cX5_hasClipWithin 48 = .ok (.iconst 1, 1) ∧ decode cX5_hasClipWithin 49 = .ok (.ireturn, 1) ∧ decode cX5_hasClipWithin 50 = .ok (.iinc 4 1, 3) ∧ decode cX5_hasClipWithin 53 = .ok (.goto (-50), 3) ∧ decode cX5_hasClipWithin 56 = .ok (.iconst 0, 1) ∧ decode cX5_hasClipWithin 57 = .ok (.ireturn, 1) := by decide +kernel
theorem dX5_hasClipWithin_41 : decode cX5_hasClipWithin 41 = .ok (.invokevirtual 99, 3) := DX5_hasClipWithin_2.1
theorem dX5_hasClipWithin_44 : decode cX5_hasClipWithin 44 = .ok (.iload_n 2, 1) := DX5_hasClipWithin_2.2.1
theorem dX5_hasClipWithin_45 : decode cX5_hasClipWithin 45 = .ok (.if_icmp .le 5, 3) := DX5_hasClipWithin_2.2.2.1
theorem dX5_hasClipWithin_48 : decode cX5_hasClipWithin 48 = .ok (.iconst 1, 1) := DX5_hasClipWithin_2.2.2.2.1
theorem dX5_hasClipWithin_49 : decode cX5_hasClipWithin 49 = .ok (.ireturn, 1) := DX5_hasClipWithin_2.2.2.2.2.1
theorem dX5_hasClipWithin_50 : decode cX5_hasClipWithin 50 = .ok (.iinc 4 1, 3) := DX5_hasClipWithin_2.2.2.2.2.2.1
theorem dX5_hasClipWithin_53 : decode cX5_hasClipWithin 53 = .ok (.goto (-50), 3) := DX5_hasClipWithin_2.2.2.2.2.2.2.1
theorem dX5_hasClipWithin_56 : decode cX5_hasClipWithin 56 = .ok (.iconst 0, 1) := DX5_hasClipWithin_2.2.2.2.2.2.2.2.1
theorem dX5_hasClipWithin_57 : decode cX5_hasClipWithin 57 = .ok (.ireturn, 1) := DX5_hasClipWithin_2.2.2.2.2.2.2.2.2
set_option maxRecDepth 100000 in
theorem DX5_hashTransport_0 : decode cX5_hashTransport 0 = .ok (.lload_n 1, 1) ∧ decode cX5_hashTransport 1 = .ok (.aload_n 0, 1) ∧ decode cX5_hashTransport 2 = .ok (.getfield 59, 3) ∧ decode cX5_hashTransport 5 = .ok (.i2l, 1) ∧ decode cX5_hashTransport 6 = .ok (.invokestatic 172, 3) ∧ decode cX5_hashTransport 9 = .ok (.lstore_n 3, 1) ∧ decode cX5_hashTransport 10 = .ok (.lload_n 3, 1) ∧ decode cX5_hashTransport 11 = .ok (.aload_n 0, 1) ∧ decode cX5_hashTransport 12 = .ok (.getfield 62, 3) ∧ decode cX5_hashTransport 15 = .ok (.i2l, 1) := by decide +kernel
theorem dX5_hashTransport_0 : decode cX5_hashTransport 0 = .ok (.lload_n 1, 1) := DX5_hashTransport_0.1
theorem dX5_hashTransport_1 : decode cX5_hashTransport 1 = .ok (.aload_n 0, 1) := DX5_hashTransport_0.2.1
theorem dX5_hashTransport_2 : decode cX5_hashTransport 2 = .ok (.getfield 59, 3) := DX5_hashTransport_0.2.2.1
theorem dX5_hashTransport_5 : decode cX5_hashTransport 5 = .ok (.i2l, 1) := DX5_hashTransport_0.2.2.2.1
theorem dX5_hashTransport_6 : decode cX5_hashTransport 6 = .ok (.invokestatic 172, 3) := DX5_hashTransport_0.2.2.2.2.1
theorem dX5_hashTransport_9 : decode cX5_hashTransport 9 = .ok (.lstore_n 3, 1) := DX5_hashTransport_0.2.2.2.2.2.1
theorem dX5_hashTransport_10 : decode cX5_hashTransport 10 = .ok (.lload_n 3, 1) := DX5_hashTransport_0.2.2.2.2.2.2.1
theorem dX5_hashTransport_11 : decode cX5_hashTransport 11 = .ok (.aload_n 0, 1) := DX5_hashTransport_0.2.2.2.2.2.2.2.1
theorem dX5_hashTransport_12 : decode cX5_hashTransport 12 = .ok (.getfield 62, 3) := DX5_hashTransport_0.2.2.2.2.2.2.2.2.1
theorem dX5_hashTransport_15 : decode cX5_hashTransport 15 = .ok (.i2l, 1) := DX5_hashTransport_0.2.2.2.2.2.2.2.2.2
set_option maxRecDepth 100000 in
theorem DX5_hashTransport_1 : decode cX5_hashTransport 16 = .ok (.invokestatic 172, 3) ∧ decode cX5_hashTransport 19 = .ok (.aload_n 0, 1) ∧ decode cX5_hashTransport 20 = .ok (.getfield 33, 3) ∧ decode cX5_hashTransport 23 = .ok (.i2l, 1) ∧ decode cX5_hashTransport 24 = .ok (.invokestatic 172, 3) ∧ decode cX5_hashTransport 27 = .ok (.lstore_n 3, 1) ∧ decode cX5_hashTransport 28 = .ok (.lload_n 3, 1) ∧ decode cX5_hashTransport 29 = .ok (.aload_n 0, 1) ∧ decode cX5_hashTransport 30 = .ok (.getfield 29, 3) ∧ decode cX5_hashTransport 33 = .ok (.i2l, 1) := by decide +kernel
theorem dX5_hashTransport_16 : decode cX5_hashTransport 16 = .ok (.invokestatic 172, 3) := DX5_hashTransport_1.1
theorem dX5_hashTransport_19 : decode cX5_hashTransport 19 = .ok (.aload_n 0, 1) := DX5_hashTransport_1.2.1
theorem dX5_hashTransport_20 : decode cX5_hashTransport 20 = .ok (.getfield 33, 3) := DX5_hashTransport_1.2.2.1
theorem dX5_hashTransport_23 : decode cX5_hashTransport 23 = .ok (.i2l, 1) := DX5_hashTransport_1.2.2.2.1
theorem dX5_hashTransport_24 : decode cX5_hashTransport 24 = .ok (.invokestatic 172, 3) := DX5_hashTransport_1.2.2.2.2.1
theorem dX5_hashTransport_27 : decode cX5_hashTransport 27 = .ok (.lstore_n 3, 1) := DX5_hashTransport_1.2.2.2.2.2.1
theorem dX5_hashTransport_28 : decode cX5_hashTransport 28 = .ok (.lload_n 3, 1) := DX5_hashTransport_1.2.2.2.2.2.2.1
theorem dX5_hashTransport_29 : decode cX5_hashTransport 29 = .ok (.aload_n 0, 1) := DX5_hashTransport_1.2.2.2.2.2.2.2.1
theorem dX5_hashTransport_30 : decode cX5_hashTransport 30 = .ok (.getfield 29, 3) := DX5_hashTransport_1.2.2.2.2.2.2.2.2.1
theorem dX5_hashTransport_33 : decode cX5_hashTransport 33 = .ok (.i2l, 1) := DX5_hashTransport_1.2.2.2.2.2.2.2.2.2
set_option maxRecDepth 100000 in
theorem DX5_hashTransport_2 : decode cX5_hashTransport 34 = .ok (.invokestatic 172, 3) ∧ decode cX5_hashTransport 37 = .ok (.lstore_n 3, 1) ∧ decode cX5_hashTransport 38 = .ok (.iconst 0, 1) ∧ decode cX5_hashTransport 39 = .ok (.istore 5, 2) ∧ decode cX5_hashTransport 41 = .ok (.iload 5, 2) ∧ decode cX5_hashTransport 43 = .ok (.iconst 4, 1) ∧ decode cX5_hashTransport 44 = .ok (.if_icmp .gt 23, 3) ∧ decode cX5_hashTransport 47 = .ok (.lload_n 3, 1) ∧ decode cX5_hashTransport 48 = .ok (.aload_n 0, 1) ∧ decode cX5_hashTransport 49 = .ok (.getfield 39, 3) := by decide +kernel
theorem dX5_hashTransport_34 : decode cX5_hashTransport 34 = .ok (.invokestatic 172, 3) := DX5_hashTransport_2.1
theorem dX5_hashTransport_37 : decode cX5_hashTransport 37 = .ok (.lstore_n 3, 1) := DX5_hashTransport_2.2.1
theorem dX5_hashTransport_38 : decode cX5_hashTransport 38 = .ok (.iconst 0, 1) := DX5_hashTransport_2.2.2.1
theorem dX5_hashTransport_39 : decode cX5_hashTransport 39 = .ok (.istore 5, 2) := DX5_hashTransport_2.2.2.2.1
theorem dX5_hashTransport_41 : decode cX5_hashTransport 41 = .ok (.iload 5, 2) := DX5_hashTransport_2.2.2.2.2.1
theorem dX5_hashTransport_43 : decode cX5_hashTransport 43 = .ok (.iconst 4, 1) := DX5_hashTransport_2.2.2.2.2.2.1
theorem dX5_hashTransport_44 : decode cX5_hashTransport 44 = .ok (.if_icmp .gt 23, 3) := DX5_hashTransport_2.2.2.2.2.2.2.1
theorem dX5_hashTransport_47 : decode cX5_hashTransport 47 = .ok (.lload_n 3, 1) := DX5_hashTransport_2.2.2.2.2.2.2.2.1
theorem dX5_hashTransport_48 : decode cX5_hashTransport 48 = .ok (.aload_n 0, 1) := DX5_hashTransport_2.2.2.2.2.2.2.2.2.1
theorem dX5_hashTransport_49 : decode cX5_hashTransport 49 = .ok (.getfield 39, 3) := DX5_hashTransport_2.2.2.2.2.2.2.2.2.2
set_option maxRecDepth 100000 in
theorem DX5_hashTransport_3 : decode cX5_hashTransport 52 = .ok (.iload 5, 2) ∧ decode cX5_hashTransport 54 = .ok (.invokevirtual 176, 3) ∧ decode cX5_hashTransport 57 = .ok (.invokestatic 172, 3) ∧ decode cX5_hashTransport 60 = .ok (.lstore_n 3, 1) ∧ decode cX5_hashTransport 61 = .ok (.iinc 5 1, 3) ∧ decode cX5_hashTransport 64 = .ok (.goto (-23), 3) ∧ decode cX5_hashTransport 67 = .ok (.lload_n 3, 1) ∧ decode cX5_hashTransport 68 = .ok (.lreturn, 1) := by decide +kernel
theorem dX5_hashTransport_52 : decode cX5_hashTransport 52 = .ok (.iload 5, 2) := DX5_hashTransport_3.1
theorem dX5_hashTransport_54 : decode cX5_hashTransport 54 = .ok (.invokevirtual 176, 3) := DX5_hashTransport_3.2.1
theorem dX5_hashTransport_57 : decode cX5_hashTransport 57 = .ok (.invokestatic 172, 3) := DX5_hashTransport_3.2.2.1
theorem dX5_hashTransport_60 : decode cX5_hashTransport 60 = .ok (.lstore_n 3, 1) := DX5_hashTransport_3.2.2.2.1
theorem dX5_hashTransport_61 : decode cX5_hashTransport 61 = .ok (.iinc 5 1, 3) := DX5_hashTransport_3.2.2.2.2.1
theorem dX5_hashTransport_64 : decode cX5_hashTransport 64 = .ok (.goto (-23), 3) := DX5_hashTransport_3.2.2.2.2.2.1
theorem dX5_hashTransport_67 : decode cX5_hashTransport 67 = .ok (.lload_n 3, 1) := DX5_hashTransport_3.2.2.2.2.2.2.1
theorem dX5_hashTransport_68 : decode cX5_hashTransport 68 = .ok (.lreturn, 1) := DX5_hashTransport_3.2.2.2.2.2.2.2
set_option maxRecDepth 100000 in
theorem DX5_hashSources_0 : decode cX5_hashSources 0 = .ok (.lload_n 1, 1) ∧ decode cX5_hashSources 1 = .ok (.lstore_n 3, 1) ∧ decode cX5_hashSources 2 = .ok (.aload_n 0, 1) ∧ decode cX5_hashSources 3 = .ok (.getfield 11, 3) ∧ decode cX5_hashSources 6 = .ok (.astore 5, 2) ∧ decode cX5_hashSources 8 = .ok (.aload 5, 2) ∧ decode cX5_hashSources 10 = .ok (.arraylength, 1) ∧ decode cX5_hashSources 11 = .ok (.istore 6, 2) ∧ decode cX5_hashSources 13 = .ok (.iconst 0, 1) ∧ decode cX5_hashSources 14 = .ok (.istore 7, 2) := by decide +kernel
theorem dX5_hashSources_0 : decode cX5_hashSources 0 = .ok (.lload_n 1, 1) := DX5_hashSources_0.1
theorem dX5_hashSources_1 : decode cX5_hashSources 1 = .ok (.lstore_n 3, 1) := DX5_hashSources_0.2.1
theorem dX5_hashSources_2 : decode cX5_hashSources 2 = .ok (.aload_n 0, 1) := DX5_hashSources_0.2.2.1
theorem dX5_hashSources_3 : decode cX5_hashSources 3 = .ok (.getfield 11, 3) := DX5_hashSources_0.2.2.2.1
theorem dX5_hashSources_6 : decode cX5_hashSources 6 = .ok (.astore 5, 2) := DX5_hashSources_0.2.2.2.2.1
theorem dX5_hashSources_8 : decode cX5_hashSources 8 = .ok (.aload 5, 2) := DX5_hashSources_0.2.2.2.2.2.1
theorem dX5_hashSources_10 : decode cX5_hashSources 10 = .ok (.arraylength, 1) := DX5_hashSources_0.2.2.2.2.2.2.1
theorem dX5_hashSources_11 : decode cX5_hashSources 11 = .ok (.istore 6, 2) := DX5_hashSources_0.2.2.2.2.2.2.2.1
theorem dX5_hashSources_13 : decode cX5_hashSources 13 = .ok (.iconst 0, 1) := DX5_hashSources_0.2.2.2.2.2.2.2.2.1
theorem dX5_hashSources_14 : decode cX5_hashSources 14 = .ok (.istore 7, 2) := DX5_hashSources_0.2.2.2.2.2.2.2.2.2
set_option maxRecDepth 100000 in
theorem DX5_hashSources_1 : decode cX5_hashSources 16 = .ok (.iload 7, 2) ∧ decode cX5_hashSources 18 = .ok (.iload 6, 2) ∧ decode cX5_hashSources 20 = .ok (.if_icmp .ge 56, 3) ∧ decode cX5_hashSources 23 = .ok (.aload 5, 2) ∧ decode cX5_hashSources 25 = .ok (.iload 7, 2) ∧ decode cX5_hashSources 27 = .ok (.aaload, 1) ∧ decode cX5_hashSources 28 = .ok (.astore 8, 2) ∧ decode cX5_hashSources 30 = .ok (.lload_n 3, 1) ∧ decode cX5_hashSources 31 = .ok (.aload 8, 2) ∧ decode cX5_hashSources 33 = .ok (.getfield 180, 3) := by decide +kernel
theorem dX5_hashSources_16 : decode cX5_hashSources 16 = .ok (.iload 7, 2) := DX5_hashSources_1.1
theorem dX5_hashSources_18 : decode cX5_hashSources 18 = .ok (.iload 6, 2) := DX5_hashSources_1.2.1
theorem dX5_hashSources_20 : decode cX5_hashSources 20 = .ok (.if_icmp .ge 56, 3) := DX5_hashSources_1.2.2.1
theorem dX5_hashSources_23 : decode cX5_hashSources 23 = .ok (.aload 5, 2) := DX5_hashSources_1.2.2.2.1
theorem dX5_hashSources_25 : decode cX5_hashSources 25 = .ok (.iload 7, 2) := DX5_hashSources_1.2.2.2.2.1
theorem dX5_hashSources_27 : decode cX5_hashSources 27 = .ok (.aaload, 1) := DX5_hashSources_1.2.2.2.2.2.1
theorem dX5_hashSources_28 : decode cX5_hashSources 28 = .ok (.astore 8, 2) := DX5_hashSources_1.2.2.2.2.2.2.1
theorem dX5_hashSources_30 : decode cX5_hashSources 30 = .ok (.lload_n 3, 1) := DX5_hashSources_1.2.2.2.2.2.2.2.1
theorem dX5_hashSources_31 : decode cX5_hashSources 31 = .ok (.aload 8, 2) := DX5_hashSources_1.2.2.2.2.2.2.2.2.1
theorem dX5_hashSources_33 : decode cX5_hashSources 33 = .ok (.getfield 180, 3) := DX5_hashSources_1.2.2.2.2.2.2.2.2.2
set_option maxRecDepth 100000 in
theorem DX5_hashSources_2 : decode cX5_hashSources 36 = .ok (.i2l, 1) ∧ decode cX5_hashSources 37 = .ok (.invokestatic 172, 3) ∧ decode cX5_hashSources 40 = .ok (.aload 8, 2) ∧ decode cX5_hashSources 42 = .ok (.getfield 183, 3) ∧ decode cX5_hashSources 45 = .ok (.i2l, 1) ∧ decode cX5_hashSources 46 = .ok (.invokestatic 172, 3) ∧ decode cX5_hashSources 49 = .ok (.lstore_n 3, 1) ∧ decode cX5_hashSources 50 = .ok (.lload_n 3, 1) ∧ decode cX5_hashSources 51 = .ok (.aload 8, 2) ∧ decode cX5_hashSources 53 = .ok (.getfield 186, 3) := by decide +kernel
theorem dX5_hashSources_36 : decode cX5_hashSources 36 = .ok (.i2l, 1) := DX5_hashSources_2.1
theorem dX5_hashSources_37 : decode cX5_hashSources 37 = .ok (.invokestatic 172, 3) := DX5_hashSources_2.2.1
theorem dX5_hashSources_40 : decode cX5_hashSources 40 = .ok (.aload 8, 2) := DX5_hashSources_2.2.2.1
theorem dX5_hashSources_42 : decode cX5_hashSources 42 = .ok (.getfield 183, 3) := DX5_hashSources_2.2.2.2.1
theorem dX5_hashSources_45 : decode cX5_hashSources 45 = .ok (.i2l, 1) := DX5_hashSources_2.2.2.2.2.1
theorem dX5_hashSources_46 : decode cX5_hashSources 46 = .ok (.invokestatic 172, 3) := DX5_hashSources_2.2.2.2.2.2.1
theorem dX5_hashSources_49 : decode cX5_hashSources 49 = .ok (.lstore_n 3, 1) := DX5_hashSources_2.2.2.2.2.2.2.1
theorem dX5_hashSources_50 : decode cX5_hashSources 50 = .ok (.lload_n 3, 1) := DX5_hashSources_2.2.2.2.2.2.2.2.1
theorem dX5_hashSources_51 : decode cX5_hashSources 51 = .ok (.aload 8, 2) := DX5_hashSources_2.2.2.2.2.2.2.2.2.1
theorem dX5_hashSources_53 : decode cX5_hashSources 53 = .ok (.getfield 186, 3) := DX5_hashSources_2.2.2.2.2.2.2.2.2.2
set_option maxRecDepth 100000 in
theorem DX5_hashSources_3 : decode cX5_hashSources 56 = .ok (.i2l, 1) ∧ decode cX5_hashSources 57 = .ok (.invokestatic 172, 3) ∧ decode cX5_hashSources 60 = .ok (.aload 8, 2) ∧ decode cX5_hashSources 62 = .ok (.getfield 189, 3) ∧ decode cX5_hashSources 65 = .ok (.i2l, 1) ∧ decode cX5_hashSources 66 = .ok (.invokestatic 172, 3) ∧ decode cX5_hashSources 69 = .ok (.lstore_n 3, 1) ∧ decode cX5_hashSources 70 = .ok (.iinc 7 1, 3) ∧ decode cX5_hashSources 73 = .ok (.goto (-57), 3) ∧ decode cX5_hashSources 76 = .ok (.lload_n 3, 1) := by decide +kernel
theorem dX5_hashSources_56 : decode cX5_hashSources 56 = .ok (.i2l, 1) := DX5_hashSources_3.1
theorem dX5_hashSources_57 : decode cX5_hashSources 57 = .ok (.invokestatic 172, 3) := DX5_hashSources_3.2.1
theorem dX5_hashSources_60 : decode cX5_hashSources 60 = .ok (.aload 8, 2) := DX5_hashSources_3.2.2.1
theorem dX5_hashSources_62 : decode cX5_hashSources 62 = .ok (.getfield 189, 3) := DX5_hashSources_3.2.2.2.1
theorem dX5_hashSources_65 : decode cX5_hashSources 65 = .ok (.i2l, 1) := DX5_hashSources_3.2.2.2.2.1
theorem dX5_hashSources_66 : decode cX5_hashSources 66 = .ok (.invokestatic 172, 3) := DX5_hashSources_3.2.2.2.2.2.1
theorem dX5_hashSources_69 : decode cX5_hashSources 69 = .ok (.lstore_n 3, 1) := DX5_hashSources_3.2.2.2.2.2.2.1
theorem dX5_hashSources_70 : decode cX5_hashSources 70 = .ok (.iinc 7 1, 3) := DX5_hashSources_3.2.2.2.2.2.2.2.1
theorem dX5_hashSources_73 : decode cX5_hashSources 73 = .ok (.goto (-57), 3) := DX5_hashSources_3.2.2.2.2.2.2.2.2.1
theorem dX5_hashSources_76 : decode cX5_hashSources 76 = .ok (.lload_n 3, 1) := DX5_hashSources_3.2.2.2.2.2.2.2.2.2
set_option maxRecDepth 100000 in
theorem DX5_hashSources_4 : decode cX5_hashSources 77 = .ok (.lreturn, 1) := by decide +kernel
theorem dX5_hashSources_77 : decode cX5_hashSources 77 = .ok (.lreturn, 1) := DX5_hashSources_4
set_option maxRecDepth 100000 in
theorem DX5_hashClips_0 : decode cX5_hashClips 0 = .ok (.lload_n 1, 1) ∧ decode cX5_hashClips 1 = .ok (.aload_n 0, 1) ∧ decode cX5_hashClips 2 = .ok (.getfield 50, 3) ∧ decode cX5_hashClips 5 = .ok (.i2l, 1) ∧ decode cX5_hashClips 6 = .ok (.invokestatic 172, 3) ∧ decode cX5_hashClips 9 = .ok (.lstore_n 3, 1) ∧ decode cX5_hashClips 10 = .ok (.iconst 0, 1) ∧ decode cX5_hashClips 11 = .ok (.istore 5, 2) ∧ decode cX5_hashClips 13 = .ok (.iload 5, 2) ∧ decode cX5_hashClips 15 = .ok (.aload_n 0, 1) := by decide +kernel
theorem dX5_hashClips_0 : decode cX5_hashClips 0 = .ok (.lload_n 1, 1) := DX5_hashClips_0.1
theorem dX5_hashClips_1 : decode cX5_hashClips 1 = .ok (.aload_n 0, 1) := DX5_hashClips_0.2.1
theorem dX5_hashClips_2 : decode cX5_hashClips 2 = .ok (.getfield 50, 3) := DX5_hashClips_0.2.2.1
theorem dX5_hashClips_5 : decode cX5_hashClips 5 = .ok (.i2l, 1) := DX5_hashClips_0.2.2.2.1
theorem dX5_hashClips_6 : decode cX5_hashClips 6 = .ok (.invokestatic 172, 3) := DX5_hashClips_0.2.2.2.2.1
theorem dX5_hashClips_9 : decode cX5_hashClips 9 = .ok (.lstore_n 3, 1) := DX5_hashClips_0.2.2.2.2.2.1
theorem dX5_hashClips_10 : decode cX5_hashClips 10 = .ok (.iconst 0, 1) := DX5_hashClips_0.2.2.2.2.2.2.1
theorem dX5_hashClips_11 : decode cX5_hashClips 11 = .ok (.istore 5, 2) := DX5_hashClips_0.2.2.2.2.2.2.2.1
theorem dX5_hashClips_13 : decode cX5_hashClips 13 = .ok (.iload 5, 2) := DX5_hashClips_0.2.2.2.2.2.2.2.2.1
theorem dX5_hashClips_15 : decode cX5_hashClips 15 = .ok (.aload_n 0, 1) := DX5_hashClips_0.2.2.2.2.2.2.2.2.2
set_option maxRecDepth 100000 in
theorem DX5_hashClips_1 : decode cX5_hashClips 16 = .ok (.getfield 50, 3) ∧ decode cX5_hashClips 19 = .ok (.if_icmp .ge 43, 3) ∧ decode cX5_hashClips 22 = .ok (.iconst 0, 1) ∧ decode cX5_hashClips 23 = .ok (.istore 6, 2) ∧ decode cX5_hashClips 25 = .ok (.iload 6, 2) ∧ decode cX5_hashClips 27 = .ok (.bipush 8, 2) ∧ decode cX5_hashClips 29 = .ok (.if_icmp .gt 27, 3) ∧ decode cX5_hashClips 32 = .ok (.lload_n 3, 1) ∧ decode cX5_hashClips 33 = .ok (.aload_n 0, 1) ∧ decode cX5_hashClips 34 = .ok (.getfield 19, 3) := by decide +kernel
theorem dX5_hashClips_16 : decode cX5_hashClips 16 = .ok (.getfield 50, 3) := DX5_hashClips_1.1
theorem dX5_hashClips_19 : decode cX5_hashClips 19 = .ok (.if_icmp .ge 43, 3) := DX5_hashClips_1.2.1
theorem dX5_hashClips_22 : decode cX5_hashClips 22 = .ok (.iconst 0, 1) := DX5_hashClips_1.2.2.1
theorem dX5_hashClips_23 : decode cX5_hashClips 23 = .ok (.istore 6, 2) := DX5_hashClips_1.2.2.2.1
theorem dX5_hashClips_25 : decode cX5_hashClips 25 = .ok (.iload 6, 2) := DX5_hashClips_1.2.2.2.2.1
theorem dX5_hashClips_27 : decode cX5_hashClips 27 = .ok (.bipush 8, 2) := DX5_hashClips_1.2.2.2.2.2.1
theorem dX5_hashClips_29 : decode cX5_hashClips 29 = .ok (.if_icmp .gt 27, 3) := DX5_hashClips_1.2.2.2.2.2.2.1
theorem dX5_hashClips_32 : decode cX5_hashClips 32 = .ok (.lload_n 3, 1) := DX5_hashClips_1.2.2.2.2.2.2.2.1
theorem dX5_hashClips_33 : decode cX5_hashClips 33 = .ok (.aload_n 0, 1) := DX5_hashClips_1.2.2.2.2.2.2.2.2.1
theorem dX5_hashClips_34 : decode cX5_hashClips 34 = .ok (.getfield 19, 3) := DX5_hashClips_1.2.2.2.2.2.2.2.2.2
set_option maxRecDepth 100000 in
theorem DX5_hashClips_2 : decode cX5_hashClips 37 = .ok (.iload 5, 2) ∧ decode cX5_hashClips 39 = .ok (.aaload, 1) ∧ decode cX5_hashClips 40 = .ok (.iload 6, 2) ∧ decode cX5_hashClips 42 = .ok (.invokevirtual 190, 3) ∧ decode cX5_hashClips 45 = .ok (.i2l, 1) ∧ decode cX5_hashClips 46 = .ok (.invokestatic 172, 3) ∧ decode cX5_hashClips 49 = .ok (.lstore_n 3, 1) ∧ decode cX5_hashClips 50 = .ok (.iinc 6 1, 3) ∧ decode cX5_hashClips 53 = .ok (.goto (-28), 3) ∧ decode cX5_hashClips 56 = .ok (.iinc 5 1, 3) := by decide +kernel
theorem dX5_hashClips_37 : decode cX5_hashClips 37 = .ok (.iload 5, 2) := DX5_hashClips_2.1
theorem dX5_hashClips_39 : decode cX5_hashClips 39 = .ok (.aaload, 1) := DX5_hashClips_2.2.1
theorem dX5_hashClips_40 : decode cX5_hashClips 40 = .ok (.iload 6, 2) := DX5_hashClips_2.2.2.1
theorem dX5_hashClips_42 : decode cX5_hashClips 42 = .ok (.invokevirtual 190, 3) := DX5_hashClips_2.2.2.2.1
theorem dX5_hashClips_45 : decode cX5_hashClips 45 = .ok (.i2l, 1) := DX5_hashClips_2.2.2.2.2.1
theorem dX5_hashClips_46 : decode cX5_hashClips 46 = .ok (.invokestatic 172, 3) := DX5_hashClips_2.2.2.2.2.2.1
theorem dX5_hashClips_49 : decode cX5_hashClips 49 = .ok (.lstore_n 3, 1) := DX5_hashClips_2.2.2.2.2.2.2.1
theorem dX5_hashClips_50 : decode cX5_hashClips 50 = .ok (.iinc 6 1, 3) := DX5_hashClips_2.2.2.2.2.2.2.2.1
theorem dX5_hashClips_53 : decode cX5_hashClips 53 = .ok (.goto (-28), 3) := DX5_hashClips_2.2.2.2.2.2.2.2.2.1
theorem dX5_hashClips_56 : decode cX5_hashClips 56 = .ok (.iinc 5 1, 3) := DX5_hashClips_2.2.2.2.2.2.2.2.2.2
set_option maxRecDepth 100000 in
theorem DX5_hashClips_3 : decode cX5_hashClips 59 = .ok (.goto (-46), 3) ∧ decode cX5_hashClips 62 = .ok (.lload_n 3, 1) ∧ decode cX5_hashClips 63 = .ok (.lreturn, 1) := by decide +kernel
theorem dX5_hashClips_59 : decode cX5_hashClips 59 = .ok (.goto (-46), 3) := DX5_hashClips_3.1
theorem dX5_hashClips_62 : decode cX5_hashClips 62 = .ok (.lload_n 3, 1) := DX5_hashClips_3.2.1
theorem dX5_hashClips_63 : decode cX5_hashClips 63 = .ok (.lreturn, 1) := DX5_hashClips_3.2.2
set_option maxRecDepth 100000 in
theorem DX6_init_0 : decode cX6_init 0 = .ok (.aload_n 0, 1) ∧ decode cX6_init 1 = .ok (.invokespecial 3, 3) ∧ decode cX6_init 4 = .ok (.aload_n 0, 1) ∧ decode cX6_init 5 = .ok (.sipush 1000, 3) ∧ decode cX6_init 8 = .ok (.putfield 9, 3) ∧ decode cX6_init 11 = .ok (.aload_n 0, 1) ∧ decode cX6_init 12 = .ok (.bipush 8, 2) ∧ decode cX6_init 14 = .ok (.newarray .int, 2) ∧ decode cX6_init 16 = .ok (.putfield 15, 3) ∧ decode cX6_init 19 = .ok (.aload_n 0, 1) := by decide +kernel
theorem dX6_init_0 : decode cX6_init 0 = .ok (.aload_n 0, 1) := DX6_init_0.1
theorem dX6_init_1 : decode cX6_init 1 = .ok (.invokespecial 3, 3) := DX6_init_0.2.1
theorem dX6_init_4 : decode cX6_init 4 = .ok (.aload_n 0, 1) := DX6_init_0.2.2.1
theorem dX6_init_5 : decode cX6_init 5 = .ok (.sipush 1000, 3) := DX6_init_0.2.2.2.1
theorem dX6_init_8 : decode cX6_init 8 = .ok (.putfield 9, 3) := DX6_init_0.2.2.2.2.1
theorem dX6_init_11 : decode cX6_init 11 = .ok (.aload_n 0, 1) := DX6_init_0.2.2.2.2.2.1
theorem dX6_init_12 : decode cX6_init 12 = .ok (.bipush 8, 2) := DX6_init_0.2.2.2.2.2.2.1
theorem dX6_init_14 : decode cX6_init 14 = .ok (.newarray .int, 2) := DX6_init_0.2.2.2.2.2.2.2.1
theorem dX6_init_16 : decode cX6_init 16 = .ok (.putfield 15, 3) := DX6_init_0.2.2.2.2.2.2.2.2.1
theorem dX6_init_19 : decode cX6_init 19 = .ok (.aload_n 0, 1) := DX6_init_0.2.2.2.2.2.2.2.2.2
set_option maxRecDepth 100000 in
theorem DX6_init_1 : decode cX6_init 20 = .ok (.bipush 8, 2) ∧ decode cX6_init 22 = .ok (.newarray .int, 2) ∧ decode cX6_init 24 = .ok (.putfield 19, 3) ∧ decode cX6_init 27 = .ok (.aload_n 0, 1) ∧ decode cX6_init 28 = .ok (.bipush 8, 2) ∧ decode cX6_init 30 = .ok (.newarray .boolean, 2) ∧ decode cX6_init 32 = .ok (.putfield 22, 3) ∧ decode cX6_init 35 = .ok (.aload_n 0, 1) ∧ decode cX6_init 36 = .ok (.iconst (-1), 1) ∧ decode cX6_init 37 = .ok (.putfield 26, 3) := by decide +kernel
theorem dX6_init_20 : decode cX6_init 20 = .ok (.bipush 8, 2) := DX6_init_1.1
theorem dX6_init_22 : decode cX6_init 22 = .ok (.newarray .int, 2) := DX6_init_1.2.1
theorem dX6_init_24 : decode cX6_init 24 = .ok (.putfield 19, 3) := DX6_init_1.2.2.1
theorem dX6_init_27 : decode cX6_init 27 = .ok (.aload_n 0, 1) := DX6_init_1.2.2.2.1
theorem dX6_init_28 : decode cX6_init 28 = .ok (.bipush 8, 2) := DX6_init_1.2.2.2.2.1
theorem dX6_init_30 : decode cX6_init 30 = .ok (.newarray .boolean, 2) := DX6_init_1.2.2.2.2.2.1
theorem dX6_init_32 : decode cX6_init 32 = .ok (.putfield 22, 3) := DX6_init_1.2.2.2.2.2.2.1
theorem dX6_init_35 : decode cX6_init 35 = .ok (.aload_n 0, 1) := DX6_init_1.2.2.2.2.2.2.2.1
theorem dX6_init_36 : decode cX6_init 36 = .ok (.iconst (-1), 1) := DX6_init_1.2.2.2.2.2.2.2.2.1
theorem dX6_init_37 : decode cX6_init 37 = .ok (.putfield 26, 3) := DX6_init_1.2.2.2.2.2.2.2.2.2
set_option maxRecDepth 100000 in
theorem DX6_init_2 : decode cX6_init 40 = .ok (.return_, 1) := by decide +kernel
theorem dX6_init_40 : decode cX6_init 40 = .ok (.return_, 1) := DX6_init_2
set_option maxRecDepth 100000 in
theorem DX6_takeFrom_0 : decode cX6_takeFrom 0 = .ok (.aload_n 0, 1) ∧ decode cX6_takeFrom 1 = .ok (.aload_n 1, 1) ∧ decode cX6_takeFrom 2 = .ok (.getfield 9, 3) ∧ decode cX6_takeFrom 5 = .ok (.putfield 9, 3) ∧ decode cX6_takeFrom 8 = .ok (.aload_n 0, 1) ∧ decode cX6_takeFrom 9 = .ok (.aload_n 1, 1) ∧ decode cX6_takeFrom 10 = .ok (.getfield 29, 3) ∧ decode cX6_takeFrom 13 = .ok (.putfield 29, 3) ∧ decode cX6_takeFrom 16 = .ok (.aload_n 0, 1) ∧ decode cX6_takeFrom 17 = .ok (.aload_n 1, 1) := by decide +kernel
theorem dX6_takeFrom_0 : decode cX6_takeFrom 0 = .ok (.aload_n 0, 1) := DX6_takeFrom_0.1
theorem dX6_takeFrom_1 : decode cX6_takeFrom 1 = .ok (.aload_n 1, 1) := DX6_takeFrom_0.2.1
theorem dX6_takeFrom_2 : decode cX6_takeFrom 2 = .ok (.getfield 9, 3) := DX6_takeFrom_0.2.2.1
theorem dX6_takeFrom_5 : decode cX6_takeFrom 5 = .ok (.putfield 9, 3) := DX6_takeFrom_0.2.2.2.1
theorem dX6_takeFrom_8 : decode cX6_takeFrom 8 = .ok (.aload_n 0, 1) := DX6_takeFrom_0.2.2.2.2.1
theorem dX6_takeFrom_9 : decode cX6_takeFrom 9 = .ok (.aload_n 1, 1) := DX6_takeFrom_0.2.2.2.2.2.1
theorem dX6_takeFrom_10 : decode cX6_takeFrom 10 = .ok (.getfield 29, 3) := DX6_takeFrom_0.2.2.2.2.2.2.1
theorem dX6_takeFrom_13 : decode cX6_takeFrom 13 = .ok (.putfield 29, 3) := DX6_takeFrom_0.2.2.2.2.2.2.2.1
theorem dX6_takeFrom_16 : decode cX6_takeFrom 16 = .ok (.aload_n 0, 1) := DX6_takeFrom_0.2.2.2.2.2.2.2.2.1
theorem dX6_takeFrom_17 : decode cX6_takeFrom 17 = .ok (.aload_n 1, 1) := DX6_takeFrom_0.2.2.2.2.2.2.2.2.2
set_option maxRecDepth 100000 in
theorem DX6_takeFrom_1 : decode cX6_takeFrom 18 = .ok (.getfield 32, 3) ∧ decode cX6_takeFrom 21 = .ok (.putfield 32, 3) ∧ decode cX6_takeFrom 24 = .ok (.aload_n 0, 1) ∧ decode cX6_takeFrom 25 = .ok (.aload_n 1, 1) ∧ decode cX6_takeFrom 26 = .ok (.getfield 36, 3) ∧ decode cX6_takeFrom 29 = .ok (.putfield 36, 3) ∧ decode cX6_takeFrom 32 = .ok (.aload_n 0, 1) ∧ decode cX6_takeFrom 33 = .ok (.aload_n 1, 1) ∧ decode cX6_takeFrom 34 = .ok (.getfield 39, 3) ∧ decode cX6_takeFrom 37 = .ok (.putfield 39, 3) := by decide +kernel
theorem dX6_takeFrom_18 : decode cX6_takeFrom 18 = .ok (.getfield 32, 3) := DX6_takeFrom_1.1
theorem dX6_takeFrom_21 : decode cX6_takeFrom 21 = .ok (.putfield 32, 3) := DX6_takeFrom_1.2.1
theorem dX6_takeFrom_24 : decode cX6_takeFrom 24 = .ok (.aload_n 0, 1) := DX6_takeFrom_1.2.2.1
theorem dX6_takeFrom_25 : decode cX6_takeFrom 25 = .ok (.aload_n 1, 1) := DX6_takeFrom_1.2.2.2.1
theorem dX6_takeFrom_26 : decode cX6_takeFrom 26 = .ok (.getfield 36, 3) := DX6_takeFrom_1.2.2.2.2.1
theorem dX6_takeFrom_29 : decode cX6_takeFrom 29 = .ok (.putfield 36, 3) := DX6_takeFrom_1.2.2.2.2.2.1
theorem dX6_takeFrom_32 : decode cX6_takeFrom 32 = .ok (.aload_n 0, 1) := DX6_takeFrom_1.2.2.2.2.2.2.1
theorem dX6_takeFrom_33 : decode cX6_takeFrom 33 = .ok (.aload_n 1, 1) := DX6_takeFrom_1.2.2.2.2.2.2.2.1
theorem dX6_takeFrom_34 : decode cX6_takeFrom 34 = .ok (.getfield 39, 3) := DX6_takeFrom_1.2.2.2.2.2.2.2.2.1
theorem dX6_takeFrom_37 : decode cX6_takeFrom 37 = .ok (.putfield 39, 3) := DX6_takeFrom_1.2.2.2.2.2.2.2.2.2
set_option maxRecDepth 100000 in
theorem DX6_takeFrom_2 : decode cX6_takeFrom 40 = .ok (.iconst 0, 1) ∧ decode cX6_takeFrom 41 = .ok (.istore_n 2, 1) ∧ decode cX6_takeFrom 42 = .ok (.iload_n 2, 1) ∧ decode cX6_takeFrom 43 = .ok (.aload_n 0, 1) ∧ decode cX6_takeFrom 44 = .ok (.getfield 39, 3) ∧ decode cX6_takeFrom 47 = .ok (.if_icmp .ge 32, 3) ∧ decode cX6_takeFrom 50 = .ok (.aload_n 0, 1) ∧ decode cX6_takeFrom 51 = .ok (.iload_n 2, 1) ∧ decode cX6_takeFrom 52 = .ok (.aload_n 1, 1) ∧ decode cX6_takeFrom 53 = .ok (.getfield 15, 3) := by decide +kernel
theorem dX6_takeFrom_40 : decode cX6_takeFrom 40 = .ok (.iconst 0, 1) := DX6_takeFrom_2.1
theorem dX6_takeFrom_41 : decode cX6_takeFrom 41 = .ok (.istore_n 2, 1) := DX6_takeFrom_2.2.1
theorem dX6_takeFrom_42 : decode cX6_takeFrom 42 = .ok (.iload_n 2, 1) := DX6_takeFrom_2.2.2.1
theorem dX6_takeFrom_43 : decode cX6_takeFrom 43 = .ok (.aload_n 0, 1) := DX6_takeFrom_2.2.2.2.1
theorem dX6_takeFrom_44 : decode cX6_takeFrom 44 = .ok (.getfield 39, 3) := DX6_takeFrom_2.2.2.2.2.1
theorem dX6_takeFrom_47 : decode cX6_takeFrom 47 = .ok (.if_icmp .ge 32, 3) := DX6_takeFrom_2.2.2.2.2.2.1
theorem dX6_takeFrom_50 : decode cX6_takeFrom 50 = .ok (.aload_n 0, 1) := DX6_takeFrom_2.2.2.2.2.2.2.1
theorem dX6_takeFrom_51 : decode cX6_takeFrom 51 = .ok (.iload_n 2, 1) := DX6_takeFrom_2.2.2.2.2.2.2.2.1
theorem dX6_takeFrom_52 : decode cX6_takeFrom 52 = .ok (.aload_n 1, 1) := DX6_takeFrom_2.2.2.2.2.2.2.2.2.1
theorem dX6_takeFrom_53 : decode cX6_takeFrom 53 = .ok (.getfield 15, 3) := DX6_takeFrom_2.2.2.2.2.2.2.2.2.2
set_option maxRecDepth 100000 in
theorem DX6_takeFrom_3 : decode cX6_takeFrom 56 = .ok (.iload_n 2, 1) ∧ decode cX6_takeFrom 57 = .ok (.iaload, 1) ∧ decode cX6_takeFrom 58 = .ok (.aload_n 1, 1) ∧ decode cX6_takeFrom 59 = .ok (.getfield 19, 3) ∧ decode cX6_takeFrom 62 = .ok (.iload_n 2, 1) ∧ decode cX6_takeFrom 63 = .ok (.iaload, 1) ∧ decode cX6_takeFrom 64 = .ok (.aload_n 1, 1) ∧ decode cX6_takeFrom 65 = .ok (.getfield 22, 3) ∧ decode cX6_takeFrom 68 = .ok (.iload_n 2, 1) ∧ decode cX6_takeFrom 69 = .ok (.baload, 1) := by decide +kernel
theorem dX6_takeFrom_56 : decode cX6_takeFrom 56 = .ok (.iload_n 2, 1) := DX6_takeFrom_3.1
theorem dX6_takeFrom_57 : decode cX6_takeFrom 57 = .ok (.iaload, 1) := DX6_takeFrom_3.2.1
theorem dX6_takeFrom_58 : decode cX6_takeFrom 58 = .ok (.aload_n 1, 1) := DX6_takeFrom_3.2.2.1
theorem dX6_takeFrom_59 : decode cX6_takeFrom 59 = .ok (.getfield 19, 3) := DX6_takeFrom_3.2.2.2.1
theorem dX6_takeFrom_62 : decode cX6_takeFrom 62 = .ok (.iload_n 2, 1) := DX6_takeFrom_3.2.2.2.2.1
theorem dX6_takeFrom_63 : decode cX6_takeFrom 63 = .ok (.iaload, 1) := DX6_takeFrom_3.2.2.2.2.2.1
theorem dX6_takeFrom_64 : decode cX6_takeFrom 64 = .ok (.aload_n 1, 1) := DX6_takeFrom_3.2.2.2.2.2.2.1
theorem dX6_takeFrom_65 : decode cX6_takeFrom 65 = .ok (.getfield 22, 3) := DX6_takeFrom_3.2.2.2.2.2.2.2.1
theorem dX6_takeFrom_68 : decode cX6_takeFrom 68 = .ok (.iload_n 2, 1) := DX6_takeFrom_3.2.2.2.2.2.2.2.2.1
theorem dX6_takeFrom_69 : decode cX6_takeFrom 69 = .ok (.baload, 1) := DX6_takeFrom_3.2.2.2.2.2.2.2.2.2
set_option maxRecDepth 100000 in
theorem DX6_takeFrom_4 : decode cX6_takeFrom 70 = .ok (.invokevirtual 42, 3) ∧ decode cX6_takeFrom 73 = .ok (.iinc 2 1, 3) ∧ decode cX6_takeFrom 76 = .ok (.goto (-34), 3) ∧ decode cX6_takeFrom 79 = .ok (.aload_n 0, 1) ∧ decode cX6_takeFrom 80 = .ok (.aload_n 1, 1) ∧ decode cX6_takeFrom 81 = .ok (.getfield 26, 3) ∧ decode cX6_takeFrom 84 = .ok (.putfield 26, 3) ∧ decode cX6_takeFrom 87 = .ok (.aload_n 0, 1) ∧ decode cX6_takeFrom 88 = .ok (.aload_n 1, 1) ∧ decode cX6_takeFrom 89 = .ok (.getfield 46, 3) := by decide +kernel
theorem dX6_takeFrom_70 : decode cX6_takeFrom 70 = .ok (.invokevirtual 42, 3) := DX6_takeFrom_4.1
theorem dX6_takeFrom_73 : decode cX6_takeFrom 73 = .ok (.iinc 2 1, 3) := DX6_takeFrom_4.2.1
theorem dX6_takeFrom_76 : decode cX6_takeFrom 76 = .ok (.goto (-34), 3) := DX6_takeFrom_4.2.2.1
theorem dX6_takeFrom_79 : decode cX6_takeFrom 79 = .ok (.aload_n 0, 1) := DX6_takeFrom_4.2.2.2.1
theorem dX6_takeFrom_80 : decode cX6_takeFrom 80 = .ok (.aload_n 1, 1) := DX6_takeFrom_4.2.2.2.2.1
theorem dX6_takeFrom_81 : decode cX6_takeFrom 81 = .ok (.getfield 26, 3) := DX6_takeFrom_4.2.2.2.2.2.1
theorem dX6_takeFrom_84 : decode cX6_takeFrom 84 = .ok (.putfield 26, 3) := DX6_takeFrom_4.2.2.2.2.2.2.1
theorem dX6_takeFrom_87 : decode cX6_takeFrom 87 = .ok (.aload_n 0, 1) := DX6_takeFrom_4.2.2.2.2.2.2.2.1
theorem dX6_takeFrom_88 : decode cX6_takeFrom 88 = .ok (.aload_n 1, 1) := DX6_takeFrom_4.2.2.2.2.2.2.2.2.1
theorem dX6_takeFrom_89 : decode cX6_takeFrom 89 = .ok (.getfield 46, 3) := DX6_takeFrom_4.2.2.2.2.2.2.2.2.2
set_option maxRecDepth 100000 in
theorem DX6_takeFrom_5 : decode cX6_takeFrom 92 = .ok (.putfield 46, 3) ∧ decode cX6_takeFrom 95 = .ok (.aload_n 0, 1) ∧ decode cX6_takeFrom 96 = .ok (.aload_n 1, 1) ∧ decode cX6_takeFrom 97 = .ok (.getfield 49, 3) ∧ decode cX6_takeFrom 100 = .ok (.putfield 49, 3) ∧ decode cX6_takeFrom 103 = .ok (.aload_n 0, 1) ∧ decode cX6_takeFrom 104 = .ok (.aload_n 1, 1) ∧ decode cX6_takeFrom 105 = .ok (.getfield 52, 3) ∧ decode cX6_takeFrom 108 = .ok (.putfield 52, 3) ∧ decode cX6_takeFrom 111 = .ok (.aload_n 0, 1) := by decide +kernel
theorem dX6_takeFrom_92 : decode cX6_takeFrom 92 = .ok (.putfield 46, 3) := DX6_takeFrom_5.1
theorem dX6_takeFrom_95 : decode cX6_takeFrom 95 = .ok (.aload_n 0, 1) := DX6_takeFrom_5.2.1
theorem dX6_takeFrom_96 : decode cX6_takeFrom 96 = .ok (.aload_n 1, 1) := DX6_takeFrom_5.2.2.1
theorem dX6_takeFrom_97 : decode cX6_takeFrom 97 = .ok (.getfield 49, 3) := DX6_takeFrom_5.2.2.2.1
theorem dX6_takeFrom_100 : decode cX6_takeFrom 100 = .ok (.putfield 49, 3) := DX6_takeFrom_5.2.2.2.2.1
theorem dX6_takeFrom_103 : decode cX6_takeFrom 103 = .ok (.aload_n 0, 1) := DX6_takeFrom_5.2.2.2.2.2.1
theorem dX6_takeFrom_104 : decode cX6_takeFrom 104 = .ok (.aload_n 1, 1) := DX6_takeFrom_5.2.2.2.2.2.2.1
theorem dX6_takeFrom_105 : decode cX6_takeFrom 105 = .ok (.getfield 52, 3) := DX6_takeFrom_5.2.2.2.2.2.2.2.1
theorem dX6_takeFrom_108 : decode cX6_takeFrom 108 = .ok (.putfield 52, 3) := DX6_takeFrom_5.2.2.2.2.2.2.2.2.1
theorem dX6_takeFrom_111 : decode cX6_takeFrom 111 = .ok (.aload_n 0, 1) := DX6_takeFrom_5.2.2.2.2.2.2.2.2.2
set_option maxRecDepth 100000 in
theorem DX6_takeFrom_6 : decode cX6_takeFrom 112 = .ok (.aload_n 1, 1) ∧ decode cX6_takeFrom 113 = .ok (.getfield 55, 3) ∧ decode cX6_takeFrom 116 = .ok (.putfield 55, 3) ∧ decode cX6_takeFrom 119 = .ok (.return_, 1) := by decide +kernel
theorem dX6_takeFrom_112 : decode cX6_takeFrom 112 = .ok (.aload_n 1, 1) := DX6_takeFrom_6.1
theorem dX6_takeFrom_113 : decode cX6_takeFrom 113 = .ok (.getfield 55, 3) := DX6_takeFrom_6.2.1
theorem dX6_takeFrom_116 : decode cX6_takeFrom 116 = .ok (.putfield 55, 3) := DX6_takeFrom_6.2.2.1
theorem dX6_takeFrom_119 : decode cX6_takeFrom 119 = .ok (.return_, 1) := DX6_takeFrom_6.2.2.2
set_option maxRecDepth 100000 in
theorem DX6_isHeard_0 : decode cX6_isHeard 0 = .ok (.aload_n 0, 1) ∧ decode cX6_isHeard 1 = .ok (.getfield 32, 3) ∧ decode cX6_isHeard 4 = .ok (.ifCond .ne 18, 3) ∧ decode cX6_isHeard 7 = .ok (.iload_n 1, 1) ∧ decode cX6_isHeard 8 = .ok (.ifCond .eq 10, 3) ∧ decode cX6_isHeard 11 = .ok (.aload_n 0, 1) ∧ decode cX6_isHeard 12 = .ok (.getfield 36, 3) ∧ decode cX6_isHeard 15 = .ok (.ifCond .eq 7, 3) ∧ decode cX6_isHeard 18 = .ok (.iconst 1, 1) ∧ decode cX6_isHeard 19 = .ok (.goto 4, 3) := by decide +kernel
theorem dX6_isHeard_0 : decode cX6_isHeard 0 = .ok (.aload_n 0, 1) := DX6_isHeard_0.1
theorem dX6_isHeard_1 : decode cX6_isHeard 1 = .ok (.getfield 32, 3) := DX6_isHeard_0.2.1
theorem dX6_isHeard_4 : decode cX6_isHeard 4 = .ok (.ifCond .ne 18, 3) := DX6_isHeard_0.2.2.1
theorem dX6_isHeard_7 : decode cX6_isHeard 7 = .ok (.iload_n 1, 1) := DX6_isHeard_0.2.2.2.1
theorem dX6_isHeard_8 : decode cX6_isHeard 8 = .ok (.ifCond .eq 10, 3) := DX6_isHeard_0.2.2.2.2.1
theorem dX6_isHeard_11 : decode cX6_isHeard 11 = .ok (.aload_n 0, 1) := DX6_isHeard_0.2.2.2.2.2.1
theorem dX6_isHeard_12 : decode cX6_isHeard 12 = .ok (.getfield 36, 3) := DX6_isHeard_0.2.2.2.2.2.2.1
theorem dX6_isHeard_15 : decode cX6_isHeard 15 = .ok (.ifCond .eq 7, 3) := DX6_isHeard_0.2.2.2.2.2.2.2.1
theorem dX6_isHeard_18 : decode cX6_isHeard 18 = .ok (.iconst 1, 1) := DX6_isHeard_0.2.2.2.2.2.2.2.2.1
theorem dX6_isHeard_19 : decode cX6_isHeard 19 = .ok (.goto 4, 3) := DX6_isHeard_0.2.2.2.2.2.2.2.2.2
set_option maxRecDepth 100000 in
theorem DX6_isHeard_1 : decode cX6_isHeard 22 = .ok (.iconst 0, 1) ∧ decode cX6_isHeard 23 = .ok (.ireturn, 1) := by decide +kernel
theorem dX6_isHeard_22 : decode cX6_isHeard 22 = .ok (.iconst 0, 1) := DX6_isHeard_1.1
theorem dX6_isHeard_23 : decode cX6_isHeard 23 = .ok (.ireturn, 1) := DX6_isHeard_1.2
set_option maxRecDepth 100000 in
theorem DX6_setPlace_0 : decode cX6_setPlace 0 = .ok (.aload_n 0, 1) ∧ decode cX6_setPlace 1 = .ok (.getfield 15, 3) ∧ decode cX6_setPlace 4 = .ok (.iload_n 1, 1) ∧ decode cX6_setPlace 5 = .ok (.iload_n 2, 1) ∧ decode cX6_setPlace 6 = .ok (.iastore, 1) ∧ decode cX6_setPlace 7 = .ok (.aload_n 0, 1) ∧ decode cX6_setPlace 8 = .ok (.getfield 19, 3) ∧ decode cX6_setPlace 11 = .ok (.iload_n 1, 1) ∧ decode cX6_setPlace 12 = .ok (.iload_n 3, 1) ∧ decode cX6_setPlace 13 = .ok (.iastore, 1) := by decide +kernel
theorem dX6_setPlace_0 : decode cX6_setPlace 0 = .ok (.aload_n 0, 1) := DX6_setPlace_0.1
theorem dX6_setPlace_1 : decode cX6_setPlace 1 = .ok (.getfield 15, 3) := DX6_setPlace_0.2.1
theorem dX6_setPlace_4 : decode cX6_setPlace 4 = .ok (.iload_n 1, 1) := DX6_setPlace_0.2.2.1
theorem dX6_setPlace_5 : decode cX6_setPlace 5 = .ok (.iload_n 2, 1) := DX6_setPlace_0.2.2.2.1
theorem dX6_setPlace_6 : decode cX6_setPlace 6 = .ok (.iastore, 1) := DX6_setPlace_0.2.2.2.2.1
theorem dX6_setPlace_7 : decode cX6_setPlace 7 = .ok (.aload_n 0, 1) := DX6_setPlace_0.2.2.2.2.2.1
theorem dX6_setPlace_8 : decode cX6_setPlace 8 = .ok (.getfield 19, 3) := DX6_setPlace_0.2.2.2.2.2.2.1
theorem dX6_setPlace_11 : decode cX6_setPlace 11 = .ok (.iload_n 1, 1) := DX6_setPlace_0.2.2.2.2.2.2.2.1
theorem dX6_setPlace_12 : decode cX6_setPlace 12 = .ok (.iload_n 3, 1) := DX6_setPlace_0.2.2.2.2.2.2.2.2.1
theorem dX6_setPlace_13 : decode cX6_setPlace 13 = .ok (.iastore, 1) := DX6_setPlace_0.2.2.2.2.2.2.2.2.2
set_option maxRecDepth 100000 in
theorem DX6_setPlace_1 : decode cX6_setPlace 14 = .ok (.aload_n 0, 1) ∧ decode cX6_setPlace 15 = .ok (.getfield 22, 3) ∧ decode cX6_setPlace 18 = .ok (.iload_n 1, 1) ∧ decode cX6_setPlace 19 = .ok (.iload 4, 2) ∧ decode cX6_setPlace 21 = .ok (.bastore, 1) ∧ decode cX6_setPlace 22 = .ok (.return_, 1) := by decide +kernel
theorem dX6_setPlace_14 : decode cX6_setPlace 14 = .ok (.aload_n 0, 1) := DX6_setPlace_1.1
theorem dX6_setPlace_15 : decode cX6_setPlace 15 = .ok (.getfield 22, 3) := DX6_setPlace_1.2.1
theorem dX6_setPlace_18 : decode cX6_setPlace 18 = .ok (.iload_n 1, 1) := DX6_setPlace_1.2.2.1
theorem dX6_setPlace_19 : decode cX6_setPlace 19 = .ok (.iload 4, 2) := DX6_setPlace_1.2.2.2.1
theorem dX6_setPlace_21 : decode cX6_setPlace 21 = .ok (.bastore, 1) := DX6_setPlace_1.2.2.2.2.1
theorem dX6_setPlace_22 : decode cX6_setPlace 22 = .ok (.return_, 1) := DX6_setPlace_1.2.2.2.2.2
set_option maxRecDepth 100000 in
theorem DX6_copyPlace_0 : decode cX6_copyPlace 0 = .ok (.aload_n 0, 1) ∧ decode cX6_copyPlace 1 = .ok (.iload_n 1, 1) ∧ decode cX6_copyPlace 2 = .ok (.aload_n 0, 1) ∧ decode cX6_copyPlace 3 = .ok (.getfield 15, 3) ∧ decode cX6_copyPlace 6 = .ok (.iload_n 2, 1) ∧ decode cX6_copyPlace 7 = .ok (.iaload, 1) ∧ decode cX6_copyPlace 8 = .ok (.aload_n 0, 1) ∧ decode cX6_copyPlace 9 = .ok (.getfield 19, 3) ∧ decode cX6_copyPlace 12 = .ok (.iload_n 2, 1) ∧ decode cX6_copyPlace 13 = .ok (.iaload, 1) := by decide +kernel
theorem dX6_copyPlace_0 : decode cX6_copyPlace 0 = .ok (.aload_n 0, 1) := DX6_copyPlace_0.1
theorem dX6_copyPlace_1 : decode cX6_copyPlace 1 = .ok (.iload_n 1, 1) := DX6_copyPlace_0.2.1
theorem dX6_copyPlace_2 : decode cX6_copyPlace 2 = .ok (.aload_n 0, 1) := DX6_copyPlace_0.2.2.1
theorem dX6_copyPlace_3 : decode cX6_copyPlace 3 = .ok (.getfield 15, 3) := DX6_copyPlace_0.2.2.2.1
theorem dX6_copyPlace_6 : decode cX6_copyPlace 6 = .ok (.iload_n 2, 1) := DX6_copyPlace_0.2.2.2.2.1
theorem dX6_copyPlace_7 : decode cX6_copyPlace 7 = .ok (.iaload, 1) := DX6_copyPlace_0.2.2.2.2.2.1
theorem dX6_copyPlace_8 : decode cX6_copyPlace 8 = .ok (.aload_n 0, 1) := DX6_copyPlace_0.2.2.2.2.2.2.1
theorem dX6_copyPlace_9 : decode cX6_copyPlace 9 = .ok (.getfield 19, 3) := DX6_copyPlace_0.2.2.2.2.2.2.2.1
theorem dX6_copyPlace_12 : decode cX6_copyPlace 12 = .ok (.iload_n 2, 1) := DX6_copyPlace_0.2.2.2.2.2.2.2.2.1
theorem dX6_copyPlace_13 : decode cX6_copyPlace 13 = .ok (.iaload, 1) := DX6_copyPlace_0.2.2.2.2.2.2.2.2.2
set_option maxRecDepth 100000 in
theorem DX6_copyPlace_1 : decode cX6_copyPlace 14 = .ok (.aload_n 0, 1) ∧ decode cX6_copyPlace 15 = .ok (.getfield 22, 3) ∧ decode cX6_copyPlace 18 = .ok (.iload_n 2, 1) ∧ decode cX6_copyPlace 19 = .ok (.baload, 1) ∧ decode cX6_copyPlace 20 = .ok (.invokevirtual 42, 3) ∧ decode cX6_copyPlace 23 = .ok (.return_, 1) := by decide +kernel
theorem dX6_copyPlace_14 : decode cX6_copyPlace 14 = .ok (.aload_n 0, 1) := DX6_copyPlace_1.1
theorem dX6_copyPlace_15 : decode cX6_copyPlace 15 = .ok (.getfield 22, 3) := DX6_copyPlace_1.2.1
theorem dX6_copyPlace_18 : decode cX6_copyPlace 18 = .ok (.iload_n 2, 1) := DX6_copyPlace_1.2.2.1
theorem dX6_copyPlace_19 : decode cX6_copyPlace 19 = .ok (.baload, 1) := DX6_copyPlace_1.2.2.2.1
theorem dX6_copyPlace_20 : decode cX6_copyPlace 20 = .ok (.invokevirtual 42, 3) := DX6_copyPlace_1.2.2.2.2.1
theorem dX6_copyPlace_23 : decode cX6_copyPlace 23 = .ok (.return_, 1) := DX6_copyPlace_1.2.2.2.2.2
set_option maxRecDepth 100000 in
theorem DX6_pointAt_0 : decode cX6_pointAt 0 = .ok (.aload_n 0, 1) ∧ decode cX6_pointAt 1 = .ok (.iload_n 1, 1) ∧ decode cX6_pointAt 2 = .ok (.invokevirtual 58, 3) ∧ decode cX6_pointAt 5 = .ok (.istore_n 2, 1) ∧ decode cX6_pointAt 6 = .ok (.iload_n 2, 1) ∧ decode cX6_pointAt 7 = .ok (.iconst (-1), 1) ∧ decode cX6_pointAt 8 = .ok (.if_icmp .eq 17, 3) ∧ decode cX6_pointAt 11 = .ok (.aload_n 0, 1) ∧ decode cX6_pointAt 12 = .ok (.getfield 15, 3) ∧ decode cX6_pointAt 15 = .ok (.iload_n 2, 1) := by decide +kernel
theorem dX6_pointAt_0 : decode cX6_pointAt 0 = .ok (.aload_n 0, 1) := DX6_pointAt_0.1
theorem dX6_pointAt_1 : decode cX6_pointAt 1 = .ok (.iload_n 1, 1) := DX6_pointAt_0.2.1
theorem dX6_pointAt_2 : decode cX6_pointAt 2 = .ok (.invokevirtual 58, 3) := DX6_pointAt_0.2.2.1
theorem dX6_pointAt_5 : decode cX6_pointAt 5 = .ok (.istore_n 2, 1) := DX6_pointAt_0.2.2.2.1
theorem dX6_pointAt_6 : decode cX6_pointAt 6 = .ok (.iload_n 2, 1) := DX6_pointAt_0.2.2.2.2.1
theorem dX6_pointAt_7 : decode cX6_pointAt 7 = .ok (.iconst (-1), 1) := DX6_pointAt_0.2.2.2.2.2.1
theorem dX6_pointAt_8 : decode cX6_pointAt 8 = .ok (.if_icmp .eq 17, 3) := DX6_pointAt_0.2.2.2.2.2.2.1
theorem dX6_pointAt_11 : decode cX6_pointAt 11 = .ok (.aload_n 0, 1) := DX6_pointAt_0.2.2.2.2.2.2.2.1
theorem dX6_pointAt_12 : decode cX6_pointAt 12 = .ok (.getfield 15, 3) := DX6_pointAt_0.2.2.2.2.2.2.2.2.1
theorem dX6_pointAt_15 : decode cX6_pointAt 15 = .ok (.iload_n 2, 1) := DX6_pointAt_0.2.2.2.2.2.2.2.2.2
set_option maxRecDepth 100000 in
theorem DX6_pointAt_1 : decode cX6_pointAt 16 = .ok (.iaload, 1) ∧ decode cX6_pointAt 17 = .ok (.iload_n 1, 1) ∧ decode cX6_pointAt 18 = .ok (.if_icmp .ne 7, 3) ∧ decode cX6_pointAt 21 = .ok (.iload_n 2, 1) ∧ decode cX6_pointAt 22 = .ok (.goto 4, 3) ∧ decode cX6_pointAt 25 = .ok (.iconst (-1), 1) ∧ decode cX6_pointAt 26 = .ok (.ireturn, 1) := by decide +kernel
theorem dX6_pointAt_16 : decode cX6_pointAt 16 = .ok (.iaload, 1) := DX6_pointAt_1.1
theorem dX6_pointAt_17 : decode cX6_pointAt 17 = .ok (.iload_n 1, 1) := DX6_pointAt_1.2.1
theorem dX6_pointAt_18 : decode cX6_pointAt 18 = .ok (.if_icmp .ne 7, 3) := DX6_pointAt_1.2.2.1
theorem dX6_pointAt_21 : decode cX6_pointAt 21 = .ok (.iload_n 2, 1) := DX6_pointAt_1.2.2.2.1
theorem dX6_pointAt_22 : decode cX6_pointAt 22 = .ok (.goto 4, 3) := DX6_pointAt_1.2.2.2.2.1
theorem dX6_pointAt_25 : decode cX6_pointAt 25 = .ok (.iconst (-1), 1) := DX6_pointAt_1.2.2.2.2.2.1
theorem dX6_pointAt_26 : decode cX6_pointAt 26 = .ok (.ireturn, 1) := DX6_pointAt_1.2.2.2.2.2.2
set_option maxRecDepth 100000 in
theorem DX6_lastPointUpTo_0 : decode cX6_lastPointUpTo 0 = .ok (.iconst (-1), 1) ∧ decode cX6_lastPointUpTo 1 = .ok (.istore_n 2, 1) ∧ decode cX6_lastPointUpTo 2 = .ok (.iconst 0, 1) ∧ decode cX6_lastPointUpTo 3 = .ok (.istore_n 3, 1) ∧ decode cX6_lastPointUpTo 4 = .ok (.iload_n 3, 1) ∧ decode cX6_lastPointUpTo 5 = .ok (.aload_n 0, 1) ∧ decode cX6_lastPointUpTo 6 = .ok (.getfield 39, 3) ∧ decode cX6_lastPointUpTo 9 = .ok (.if_icmp .ge 21, 3) ∧ decode cX6_lastPointUpTo 12 = .ok (.aload_n 0, 1) ∧ decode cX6_lastPointUpTo 13 = .ok (.getfield 15, 3) := by decide +kernel
theorem dX6_lastPointUpTo_0 : decode cX6_lastPointUpTo 0 = .ok (.iconst (-1), 1) := DX6_lastPointUpTo_0.1
theorem dX6_lastPointUpTo_1 : decode cX6_lastPointUpTo 1 = .ok (.istore_n 2, 1) := DX6_lastPointUpTo_0.2.1
theorem dX6_lastPointUpTo_2 : decode cX6_lastPointUpTo 2 = .ok (.iconst 0, 1) := DX6_lastPointUpTo_0.2.2.1
theorem dX6_lastPointUpTo_3 : decode cX6_lastPointUpTo 3 = .ok (.istore_n 3, 1) := DX6_lastPointUpTo_0.2.2.2.1
theorem dX6_lastPointUpTo_4 : decode cX6_lastPointUpTo 4 = .ok (.iload_n 3, 1) := DX6_lastPointUpTo_0.2.2.2.2.1
theorem dX6_lastPointUpTo_5 : decode cX6_lastPointUpTo 5 = .ok (.aload_n 0, 1) := DX6_lastPointUpTo_0.2.2.2.2.2.1
theorem dX6_lastPointUpTo_6 : decode cX6_lastPointUpTo 6 = .ok (.getfield 39, 3) := DX6_lastPointUpTo_0.2.2.2.2.2.2.1
theorem dX6_lastPointUpTo_9 : decode cX6_lastPointUpTo 9 = .ok (.if_icmp .ge 21, 3) := DX6_lastPointUpTo_0.2.2.2.2.2.2.2.1
theorem dX6_lastPointUpTo_12 : decode cX6_lastPointUpTo 12 = .ok (.aload_n 0, 1) := DX6_lastPointUpTo_0.2.2.2.2.2.2.2.2.1
theorem dX6_lastPointUpTo_13 : decode cX6_lastPointUpTo 13 = .ok (.getfield 15, 3) := DX6_lastPointUpTo_0.2.2.2.2.2.2.2.2.2
set_option maxRecDepth 100000 in
theorem DX6_lastPointUpTo_1 : decode cX6_lastPointUpTo 16 = .ok (.iload_n 3, 1) ∧ decode cX6_lastPointUpTo 17 = .ok (.iaload, 1) ∧ decode cX6_lastPointUpTo 18 = .ok (.iload_n 1, 1) ∧ decode cX6_lastPointUpTo 19 = .ok (.if_icmp .gt 11, 3) ∧ decode cX6_lastPointUpTo 22 = .ok (.iload_n 3, 1) ∧ decode cX6_lastPointUpTo 23 = .ok (.istore_n 2, 1) ∧ decode cX6_lastPointUpTo 24 = .ok (.iinc 3 1, 3) ∧ decode cX6_lastPointUpTo 27 = .ok (.goto (-23), 3) ∧ decode cX6_lastPointUpTo 30 = .ok (.iload_n 2, 1) ∧ decode cX6_lastPointUpTo 31 = .ok (.ireturn, 1) := by decide +kernel
theorem dX6_lastPointUpTo_16 : decode cX6_lastPointUpTo 16 = .ok (.iload_n 3, 1) := DX6_lastPointUpTo_1.1
theorem dX6_lastPointUpTo_17 : decode cX6_lastPointUpTo 17 = .ok (.iaload, 1) := DX6_lastPointUpTo_1.2.1
theorem dX6_lastPointUpTo_18 : decode cX6_lastPointUpTo 18 = .ok (.iload_n 1, 1) := DX6_lastPointUpTo_1.2.2.1
theorem dX6_lastPointUpTo_19 : decode cX6_lastPointUpTo 19 = .ok (.if_icmp .gt 11, 3) := DX6_lastPointUpTo_1.2.2.2.1
theorem dX6_lastPointUpTo_22 : decode cX6_lastPointUpTo 22 = .ok (.iload_n 3, 1) := DX6_lastPointUpTo_1.2.2.2.2.1
theorem dX6_lastPointUpTo_23 : decode cX6_lastPointUpTo 23 = .ok (.istore_n 2, 1) := DX6_lastPointUpTo_1.2.2.2.2.2.1
theorem dX6_lastPointUpTo_24 : decode cX6_lastPointUpTo 24 = .ok (.iinc 3 1, 3) := DX6_lastPointUpTo_1.2.2.2.2.2.2.1
theorem dX6_lastPointUpTo_27 : decode cX6_lastPointUpTo 27 = .ok (.goto (-23), 3) := DX6_lastPointUpTo_1.2.2.2.2.2.2.2.1
theorem dX6_lastPointUpTo_30 : decode cX6_lastPointUpTo 30 = .ok (.iload_n 2, 1) := DX6_lastPointUpTo_1.2.2.2.2.2.2.2.2.1
theorem dX6_lastPointUpTo_31 : decode cX6_lastPointUpTo 31 = .ok (.ireturn, 1) := DX6_lastPointUpTo_1.2.2.2.2.2.2.2.2.2
set_option maxRecDepth 100000 in
theorem DX6_putPoint_0 : decode cX6_putPoint 0 = .ok (.aload_n 0, 1) ∧ decode cX6_putPoint 1 = .ok (.iload_n 1, 1) ∧ decode cX6_putPoint 2 = .ok (.invokevirtual 58, 3) ∧ decode cX6_putPoint 5 = .ok (.istore 4, 2) ∧ decode cX6_putPoint 7 = .ok (.iload 4, 2) ∧ decode cX6_putPoint 9 = .ok (.iconst (-1), 1) ∧ decode cX6_putPoint 10 = .ok (.if_icmp .eq 14, 3) ∧ decode cX6_putPoint 13 = .ok (.aload_n 0, 1) ∧ decode cX6_putPoint 14 = .ok (.getfield 15, 3) ∧ decode cX6_putPoint 17 = .ok (.iload 4, 2) := by decide +kernel
theorem dX6_putPoint_0 : decode cX6_putPoint 0 = .ok (.aload_n 0, 1) := DX6_putPoint_0.1
theorem dX6_putPoint_1 : decode cX6_putPoint 1 = .ok (.iload_n 1, 1) := DX6_putPoint_0.2.1
theorem dX6_putPoint_2 : decode cX6_putPoint 2 = .ok (.invokevirtual 58, 3) := DX6_putPoint_0.2.2.1
theorem dX6_putPoint_5 : decode cX6_putPoint 5 = .ok (.istore 4, 2) := DX6_putPoint_0.2.2.2.1
theorem dX6_putPoint_7 : decode cX6_putPoint 7 = .ok (.iload 4, 2) := DX6_putPoint_0.2.2.2.2.1
theorem dX6_putPoint_9 : decode cX6_putPoint 9 = .ok (.iconst (-1), 1) := DX6_putPoint_0.2.2.2.2.2.1
theorem dX6_putPoint_10 : decode cX6_putPoint 10 = .ok (.if_icmp .eq 14, 3) := DX6_putPoint_0.2.2.2.2.2.2.1
theorem dX6_putPoint_13 : decode cX6_putPoint 13 = .ok (.aload_n 0, 1) := DX6_putPoint_0.2.2.2.2.2.2.2.1
theorem dX6_putPoint_14 : decode cX6_putPoint 14 = .ok (.getfield 15, 3) := DX6_putPoint_0.2.2.2.2.2.2.2.2.1
theorem dX6_putPoint_17 : decode cX6_putPoint 17 = .ok (.iload 4, 2) := DX6_putPoint_0.2.2.2.2.2.2.2.2.2
set_option maxRecDepth 100000 in
theorem DX6_putPoint_1 : decode cX6_putPoint 19 = .ok (.iaload, 1) ∧ decode cX6_putPoint 20 = .ok (.iload_n 1, 1) ∧ decode cX6_putPoint 21 = .ok (.if_icmp .eq 55, 3) ∧ decode cX6_putPoint 24 = .ok (.aload_n 0, 1) ∧ decode cX6_putPoint 25 = .ok (.getfield 39, 3) ∧ decode cX6_putPoint 28 = .ok (.bipush 8, 2) ∧ decode cX6_putPoint 30 = .ok (.if_icmp .lt 4, 3) ∧ decode cX6_putPoint 33 = .ok (.return_, 1) ∧ decode cX6_putPoint 34 = .ok (.iinc 4 1, 3) ∧ decode cX6_putPoint 37 = .ok (.aload_n 0, 1) := by decide +kernel
theorem dX6_putPoint_19 : decode cX6_putPoint 19 = .ok (.iaload, 1) := DX6_putPoint_1.1
theorem dX6_putPoint_20 : decode cX6_putPoint 20 = .ok (.iload_n 1, 1) := DX6_putPoint_1.2.1
theorem dX6_putPoint_21 : decode cX6_putPoint 21 = .ok (.if_icmp .eq 55, 3) := DX6_putPoint_1.2.2.1
theorem dX6_putPoint_24 : decode cX6_putPoint 24 = .ok (.aload_n 0, 1) := DX6_putPoint_1.2.2.2.1
theorem dX6_putPoint_25 : decode cX6_putPoint 25 = .ok (.getfield 39, 3) := DX6_putPoint_1.2.2.2.2.1
theorem dX6_putPoint_28 : decode cX6_putPoint 28 = .ok (.bipush 8, 2) := DX6_putPoint_1.2.2.2.2.2.1
theorem dX6_putPoint_30 : decode cX6_putPoint 30 = .ok (.if_icmp .lt 4, 3) := DX6_putPoint_1.2.2.2.2.2.2.1
theorem dX6_putPoint_33 : decode cX6_putPoint 33 = .ok (.return_, 1) := DX6_putPoint_1.2.2.2.2.2.2.2.1
theorem dX6_putPoint_34 : decode cX6_putPoint 34 = .ok (.iinc 4 1, 3) := DX6_putPoint_1.2.2.2.2.2.2.2.2.1
theorem dX6_putPoint_37 : decode cX6_putPoint 37 = .ok (.aload_n 0, 1) := DX6_putPoint_1.2.2.2.2.2.2.2.2.2
set_option maxRecDepth 100000 in
theorem DX6_putPoint_2 : decode cX6_putPoint 38 = .ok (.getfield 39, 3) ∧ decode cX6_putPoint 41 = .ok (.istore 5, 2) ∧ decode cX6_putPoint 43 = .ok (.iload 5, 2) ∧ decode cX6_putPoint 45 = .ok (.iload 4, 2) ∧ decode cX6_putPoint 47 = .ok (.if_icmp .le 19, 3) ∧ decode cX6_putPoint 50 = .ok (.aload_n 0, 1) ∧ decode cX6_putPoint 51 = .ok (.iload 5, 2) ∧ decode cX6_putPoint 53 = .ok (.iload 5, 2) ∧ decode cX6_putPoint 55 = .ok (.iconst 1, 1) ∧ decode cX6_putPoint 56 = .ok (.isub, 1) := by decide +kernel
theorem dX6_putPoint_38 : decode cX6_putPoint 38 = .ok (.getfield 39, 3) := DX6_putPoint_2.1
theorem dX6_putPoint_41 : decode cX6_putPoint 41 = .ok (.istore 5, 2) := DX6_putPoint_2.2.1
theorem dX6_putPoint_43 : decode cX6_putPoint 43 = .ok (.iload 5, 2) := DX6_putPoint_2.2.2.1
theorem dX6_putPoint_45 : decode cX6_putPoint 45 = .ok (.iload 4, 2) := DX6_putPoint_2.2.2.2.1
theorem dX6_putPoint_47 : decode cX6_putPoint 47 = .ok (.if_icmp .le 19, 3) := DX6_putPoint_2.2.2.2.2.1
theorem dX6_putPoint_50 : decode cX6_putPoint 50 = .ok (.aload_n 0, 1) := DX6_putPoint_2.2.2.2.2.2.1
theorem dX6_putPoint_51 : decode cX6_putPoint 51 = .ok (.iload 5, 2) := DX6_putPoint_2.2.2.2.2.2.2.1
theorem dX6_putPoint_53 : decode cX6_putPoint 53 = .ok (.iload 5, 2) := DX6_putPoint_2.2.2.2.2.2.2.2.1
theorem dX6_putPoint_55 : decode cX6_putPoint 55 = .ok (.iconst 1, 1) := DX6_putPoint_2.2.2.2.2.2.2.2.2.1
theorem dX6_putPoint_56 : decode cX6_putPoint 56 = .ok (.isub, 1) := DX6_putPoint_2.2.2.2.2.2.2.2.2.2
set_option maxRecDepth 100000 in
theorem DX6_putPoint_3 : decode cX6_putPoint 57 = .ok (.invokevirtual 62, 3) ∧ decode cX6_putPoint 60 = .ok (.iinc 5 (-1), 3) ∧ decode cX6_putPoint 63 = .ok (.goto (-20), 3) ∧ decode cX6_putPoint 66 = .ok (.aload_n 0, 1) ∧ decode cX6_putPoint 67 = .ok (.dup, 1) ∧ decode cX6_putPoint 68 = .ok (.getfield 39, 3) ∧ decode cX6_putPoint 71 = .ok (.iconst 1, 1) ∧ decode cX6_putPoint 72 = .ok (.iadd, 1) ∧ decode cX6_putPoint 73 = .ok (.putfield 39, 3) ∧ decode cX6_putPoint 76 = .ok (.aload_n 0, 1) := by decide +kernel
theorem dX6_putPoint_57 : decode cX6_putPoint 57 = .ok (.invokevirtual 62, 3) := DX6_putPoint_3.1
theorem dX6_putPoint_60 : decode cX6_putPoint 60 = .ok (.iinc 5 (-1), 3) := DX6_putPoint_3.2.1
theorem dX6_putPoint_63 : decode cX6_putPoint 63 = .ok (.goto (-20), 3) := DX6_putPoint_3.2.2.1
theorem dX6_putPoint_66 : decode cX6_putPoint 66 = .ok (.aload_n 0, 1) := DX6_putPoint_3.2.2.2.1
theorem dX6_putPoint_67 : decode cX6_putPoint 67 = .ok (.dup, 1) := DX6_putPoint_3.2.2.2.2.1
theorem dX6_putPoint_68 : decode cX6_putPoint 68 = .ok (.getfield 39, 3) := DX6_putPoint_3.2.2.2.2.2.1
theorem dX6_putPoint_71 : decode cX6_putPoint 71 = .ok (.iconst 1, 1) := DX6_putPoint_3.2.2.2.2.2.2.1
theorem dX6_putPoint_72 : decode cX6_putPoint 72 = .ok (.iadd, 1) := DX6_putPoint_3.2.2.2.2.2.2.2.1
theorem dX6_putPoint_73 : decode cX6_putPoint 73 = .ok (.putfield 39, 3) := DX6_putPoint_3.2.2.2.2.2.2.2.2.1
theorem dX6_putPoint_76 : decode cX6_putPoint 76 = .ok (.aload_n 0, 1) := DX6_putPoint_3.2.2.2.2.2.2.2.2.2
set_option maxRecDepth 100000 in
theorem DX6_putPoint_4 : decode cX6_putPoint 77 = .ok (.iload 4, 2) ∧ decode cX6_putPoint 79 = .ok (.iload_n 1, 1) ∧ decode cX6_putPoint 80 = .ok (.iload_n 2, 1) ∧ decode cX6_putPoint 81 = .ok (.iload_n 3, 1) ∧ decode cX6_putPoint 82 = .ok (.invokevirtual 42, 3) ∧ decode cX6_putPoint 85 = .ok (.return_, 1) := by decide +kernel
theorem dX6_putPoint_77 : decode cX6_putPoint 77 = .ok (.iload 4, 2) := DX6_putPoint_4.1
theorem dX6_putPoint_79 : decode cX6_putPoint 79 = .ok (.iload_n 1, 1) := DX6_putPoint_4.2.1
theorem dX6_putPoint_80 : decode cX6_putPoint 80 = .ok (.iload_n 2, 1) := DX6_putPoint_4.2.2.1
theorem dX6_putPoint_81 : decode cX6_putPoint 81 = .ok (.iload_n 3, 1) := DX6_putPoint_4.2.2.2.1
theorem dX6_putPoint_82 : decode cX6_putPoint 82 = .ok (.invokevirtual 42, 3) := DX6_putPoint_4.2.2.2.2.1
theorem dX6_putPoint_85 : decode cX6_putPoint 85 = .ok (.return_, 1) := DX6_putPoint_4.2.2.2.2.2
set_option maxRecDepth 100000 in
theorem DX6_dropPoint_0 : decode cX6_dropPoint 0 = .ok (.iload_n 1, 1) ∧ decode cX6_dropPoint 1 = .ok (.iconst 1, 1) ∧ decode cX6_dropPoint 2 = .ok (.iadd, 1) ∧ decode cX6_dropPoint 3 = .ok (.istore_n 2, 1) ∧ decode cX6_dropPoint 4 = .ok (.iload_n 2, 1) ∧ decode cX6_dropPoint 5 = .ok (.aload_n 0, 1) ∧ decode cX6_dropPoint 6 = .ok (.getfield 39, 3) ∧ decode cX6_dropPoint 9 = .ok (.if_icmp .ge 17, 3) ∧ decode cX6_dropPoint 12 = .ok (.aload_n 0, 1) ∧ decode cX6_dropPoint 13 = .ok (.iload_n 2, 1) := by decide +kernel
theorem dX6_dropPoint_0 : decode cX6_dropPoint 0 = .ok (.iload_n 1, 1) := DX6_dropPoint_0.1
theorem dX6_dropPoint_1 : decode cX6_dropPoint 1 = .ok (.iconst 1, 1) := DX6_dropPoint_0.2.1
theorem dX6_dropPoint_2 : decode cX6_dropPoint 2 = .ok (.iadd, 1) := DX6_dropPoint_0.2.2.1
theorem dX6_dropPoint_3 : decode cX6_dropPoint 3 = .ok (.istore_n 2, 1) := DX6_dropPoint_0.2.2.2.1
theorem dX6_dropPoint_4 : decode cX6_dropPoint 4 = .ok (.iload_n 2, 1) := DX6_dropPoint_0.2.2.2.2.1
theorem dX6_dropPoint_5 : decode cX6_dropPoint 5 = .ok (.aload_n 0, 1) := DX6_dropPoint_0.2.2.2.2.2.1
theorem dX6_dropPoint_6 : decode cX6_dropPoint 6 = .ok (.getfield 39, 3) := DX6_dropPoint_0.2.2.2.2.2.2.1
theorem dX6_dropPoint_9 : decode cX6_dropPoint 9 = .ok (.if_icmp .ge 17, 3) := DX6_dropPoint_0.2.2.2.2.2.2.2.1
theorem dX6_dropPoint_12 : decode cX6_dropPoint 12 = .ok (.aload_n 0, 1) := DX6_dropPoint_0.2.2.2.2.2.2.2.2.1
theorem dX6_dropPoint_13 : decode cX6_dropPoint 13 = .ok (.iload_n 2, 1) := DX6_dropPoint_0.2.2.2.2.2.2.2.2.2
set_option maxRecDepth 100000 in
theorem DX6_dropPoint_1 : decode cX6_dropPoint 14 = .ok (.iconst 1, 1) ∧ decode cX6_dropPoint 15 = .ok (.isub, 1) ∧ decode cX6_dropPoint 16 = .ok (.iload_n 2, 1) ∧ decode cX6_dropPoint 17 = .ok (.invokevirtual 62, 3) ∧ decode cX6_dropPoint 20 = .ok (.iinc 2 1, 3) ∧ decode cX6_dropPoint 23 = .ok (.goto (-19), 3) ∧ decode cX6_dropPoint 26 = .ok (.aload_n 0, 1) ∧ decode cX6_dropPoint 27 = .ok (.dup, 1) ∧ decode cX6_dropPoint 28 = .ok (.getfield 39, 3) ∧ decode cX6_dropPoint 31 = .ok (.iconst 1, 1) := by decide +kernel
theorem dX6_dropPoint_14 : decode cX6_dropPoint 14 = .ok (.iconst 1, 1) := DX6_dropPoint_1.1
theorem dX6_dropPoint_15 : decode cX6_dropPoint 15 = .ok (.isub, 1) := DX6_dropPoint_1.2.1
theorem dX6_dropPoint_16 : decode cX6_dropPoint 16 = .ok (.iload_n 2, 1) := DX6_dropPoint_1.2.2.1
theorem dX6_dropPoint_17 : decode cX6_dropPoint 17 = .ok (.invokevirtual 62, 3) := DX6_dropPoint_1.2.2.2.1
theorem dX6_dropPoint_20 : decode cX6_dropPoint 20 = .ok (.iinc 2 1, 3) := DX6_dropPoint_1.2.2.2.2.1
theorem dX6_dropPoint_23 : decode cX6_dropPoint 23 = .ok (.goto (-19), 3) := DX6_dropPoint_1.2.2.2.2.2.1
theorem dX6_dropPoint_26 : decode cX6_dropPoint 26 = .ok (.aload_n 0, 1) := DX6_dropPoint_1.2.2.2.2.2.2.1
theorem dX6_dropPoint_27 : decode cX6_dropPoint 27 = .ok (.dup, 1) := DX6_dropPoint_1.2.2.2.2.2.2.2.1
theorem dX6_dropPoint_28 : decode cX6_dropPoint 28 = .ok (.getfield 39, 3) := DX6_dropPoint_1.2.2.2.2.2.2.2.2.1
theorem dX6_dropPoint_31 : decode cX6_dropPoint 31 = .ok (.iconst 1, 1) := DX6_dropPoint_1.2.2.2.2.2.2.2.2.2
set_option maxRecDepth 100000 in
theorem DX6_dropPoint_2 : decode cX6_dropPoint 32 = .ok (.isub, 1) ∧ decode cX6_dropPoint 33 = .ok (.putfield 39, 3) ∧ decode cX6_dropPoint 36 = .ok (.return_, 1) := by decide +kernel
theorem dX6_dropPoint_32 : decode cX6_dropPoint 32 = .ok (.isub, 1) := DX6_dropPoint_2.1
theorem dX6_dropPoint_33 : decode cX6_dropPoint 33 = .ok (.putfield 39, 3) := DX6_dropPoint_2.2.1
theorem dX6_dropPoint_36 : decode cX6_dropPoint 36 = .ok (.return_, 1) := DX6_dropPoint_2.2.2
set_option maxRecDepth 100000 in
theorem DX6_laneGain_0 : decode cX6_laneGain 0 = .ok (.aload_n 0, 1) ∧ decode cX6_laneGain 1 = .ok (.getfield 39, 3) ∧ decode cX6_laneGain 4 = .ok (.ifCond .ne 7, 3) ∧ decode cX6_laneGain 7 = .ok (.sipush 1000, 3) ∧ decode cX6_laneGain 10 = .ok (.ireturn, 1) ∧ decode cX6_laneGain 11 = .ok (.aload_n 0, 1) ∧ decode cX6_laneGain 12 = .ok (.iload_n 1, 1) ∧ decode cX6_laneGain 13 = .ok (.invokevirtual 58, 3) ∧ decode cX6_laneGain 16 = .ok (.istore_n 2, 1) ∧ decode cX6_laneGain 17 = .ok (.iload_n 2, 1) := by decide +kernel
theorem dX6_laneGain_0 : decode cX6_laneGain 0 = .ok (.aload_n 0, 1) := DX6_laneGain_0.1
theorem dX6_laneGain_1 : decode cX6_laneGain 1 = .ok (.getfield 39, 3) := DX6_laneGain_0.2.1
theorem dX6_laneGain_4 : decode cX6_laneGain 4 = .ok (.ifCond .ne 7, 3) := DX6_laneGain_0.2.2.1
theorem dX6_laneGain_7 : decode cX6_laneGain 7 = .ok (.sipush 1000, 3) := DX6_laneGain_0.2.2.2.1
theorem dX6_laneGain_10 : decode cX6_laneGain 10 = .ok (.ireturn, 1) := DX6_laneGain_0.2.2.2.2.1
theorem dX6_laneGain_11 : decode cX6_laneGain 11 = .ok (.aload_n 0, 1) := DX6_laneGain_0.2.2.2.2.2.1
theorem dX6_laneGain_12 : decode cX6_laneGain 12 = .ok (.iload_n 1, 1) := DX6_laneGain_0.2.2.2.2.2.2.1
theorem dX6_laneGain_13 : decode cX6_laneGain 13 = .ok (.invokevirtual 58, 3) := DX6_laneGain_0.2.2.2.2.2.2.2.1
theorem dX6_laneGain_16 : decode cX6_laneGain 16 = .ok (.istore_n 2, 1) := DX6_laneGain_0.2.2.2.2.2.2.2.2.1
theorem dX6_laneGain_17 : decode cX6_laneGain 17 = .ok (.iload_n 2, 1) := DX6_laneGain_0.2.2.2.2.2.2.2.2.2
set_option maxRecDepth 100000 in
theorem DX6_laneGain_1 : decode cX6_laneGain 18 = .ok (.iconst (-1), 1) ∧ decode cX6_laneGain 19 = .ok (.if_icmp .ne 10, 3) ∧ decode cX6_laneGain 22 = .ok (.aload_n 0, 1) ∧ decode cX6_laneGain 23 = .ok (.getfield 19, 3) ∧ decode cX6_laneGain 26 = .ok (.iconst 0, 1) ∧ decode cX6_laneGain 27 = .ok (.iaload, 1) ∧ decode cX6_laneGain 28 = .ok (.ireturn, 1) ∧ decode cX6_laneGain 29 = .ok (.iload_n 2, 1) ∧ decode cX6_laneGain 30 = .ok (.iconst 1, 1) ∧ decode cX6_laneGain 31 = .ok (.iadd, 1) := by decide +kernel
theorem dX6_laneGain_18 : decode cX6_laneGain 18 = .ok (.iconst (-1), 1) := DX6_laneGain_1.1
theorem dX6_laneGain_19 : decode cX6_laneGain 19 = .ok (.if_icmp .ne 10, 3) := DX6_laneGain_1.2.1
theorem dX6_laneGain_22 : decode cX6_laneGain 22 = .ok (.aload_n 0, 1) := DX6_laneGain_1.2.2.1
theorem dX6_laneGain_23 : decode cX6_laneGain 23 = .ok (.getfield 19, 3) := DX6_laneGain_1.2.2.2.1
theorem dX6_laneGain_26 : decode cX6_laneGain 26 = .ok (.iconst 0, 1) := DX6_laneGain_1.2.2.2.2.1
theorem dX6_laneGain_27 : decode cX6_laneGain 27 = .ok (.iaload, 1) := DX6_laneGain_1.2.2.2.2.2.1
theorem dX6_laneGain_28 : decode cX6_laneGain 28 = .ok (.ireturn, 1) := DX6_laneGain_1.2.2.2.2.2.2.1
theorem dX6_laneGain_29 : decode cX6_laneGain 29 = .ok (.iload_n 2, 1) := DX6_laneGain_1.2.2.2.2.2.2.2.1
theorem dX6_laneGain_30 : decode cX6_laneGain 30 = .ok (.iconst 1, 1) := DX6_laneGain_1.2.2.2.2.2.2.2.2.1
theorem dX6_laneGain_31 : decode cX6_laneGain 31 = .ok (.iadd, 1) := DX6_laneGain_1.2.2.2.2.2.2.2.2.2
set_option maxRecDepth 100000 in
theorem DX6_laneGain_2 : decode cX6_laneGain 32 = .ok (.istore_n 3, 1) ∧ decode cX6_laneGain 33 = .ok (.aload_n 0, 1) ∧ decode cX6_laneGain 34 = .ok (.getfield 22, 3) ∧ decode cX6_laneGain 37 = .ok (.iload_n 2, 1) ∧ decode cX6_laneGain 38 = .ok (.baload, 1) ∧ decode cX6_laneGain 39 = .ok (.ifCond .ne 11, 3) ∧ decode cX6_laneGain 42 = .ok (.iload_n 3, 1) ∧ decode cX6_laneGain 43 = .ok (.aload_n 0, 1) ∧ decode cX6_laneGain 44 = .ok (.getfield 39, 3) ∧ decode cX6_laneGain 47 = .ok (.if_icmp .lt 10, 3) := by decide +kernel
theorem dX6_laneGain_32 : decode cX6_laneGain 32 = .ok (.istore_n 3, 1) := DX6_laneGain_2.1
theorem dX6_laneGain_33 : decode cX6_laneGain 33 = .ok (.aload_n 0, 1) := DX6_laneGain_2.2.1
theorem dX6_laneGain_34 : decode cX6_laneGain 34 = .ok (.getfield 22, 3) := DX6_laneGain_2.2.2.1
theorem dX6_laneGain_37 : decode cX6_laneGain 37 = .ok (.iload_n 2, 1) := DX6_laneGain_2.2.2.2.1
theorem dX6_laneGain_38 : decode cX6_laneGain 38 = .ok (.baload, 1) := DX6_laneGain_2.2.2.2.2.1
theorem dX6_laneGain_39 : decode cX6_laneGain 39 = .ok (.ifCond .ne 11, 3) := DX6_laneGain_2.2.2.2.2.2.1
theorem dX6_laneGain_42 : decode cX6_laneGain 42 = .ok (.iload_n 3, 1) := DX6_laneGain_2.2.2.2.2.2.2.1
theorem dX6_laneGain_43 : decode cX6_laneGain 43 = .ok (.aload_n 0, 1) := DX6_laneGain_2.2.2.2.2.2.2.2.1
theorem dX6_laneGain_44 : decode cX6_laneGain 44 = .ok (.getfield 39, 3) := DX6_laneGain_2.2.2.2.2.2.2.2.2.1
theorem dX6_laneGain_47 : decode cX6_laneGain 47 = .ok (.if_icmp .lt 10, 3) := DX6_laneGain_2.2.2.2.2.2.2.2.2.2
set_option maxRecDepth 100000 in
theorem DX6_laneGain_3 : decode cX6_laneGain 50 = .ok (.aload_n 0, 1) ∧ decode cX6_laneGain 51 = .ok (.getfield 19, 3) ∧ decode cX6_laneGain 54 = .ok (.iload_n 2, 1) ∧ decode cX6_laneGain 55 = .ok (.iaload, 1) ∧ decode cX6_laneGain 56 = .ok (.ireturn, 1) ∧ decode cX6_laneGain 57 = .ok (.aload_n 0, 1) ∧ decode cX6_laneGain 58 = .ok (.getfield 15, 3) ∧ decode cX6_laneGain 61 = .ok (.iload_n 3, 1) ∧ decode cX6_laneGain 62 = .ok (.iaload, 1) ∧ decode cX6_laneGain 63 = .ok (.aload_n 0, 1) := by decide +kernel
theorem dX6_laneGain_50 : decode cX6_laneGain 50 = .ok (.aload_n 0, 1) := DX6_laneGain_3.1
theorem dX6_laneGain_51 : decode cX6_laneGain 51 = .ok (.getfield 19, 3) := DX6_laneGain_3.2.1
theorem dX6_laneGain_54 : decode cX6_laneGain 54 = .ok (.iload_n 2, 1) := DX6_laneGain_3.2.2.1
theorem dX6_laneGain_55 : decode cX6_laneGain 55 = .ok (.iaload, 1) := DX6_laneGain_3.2.2.2.1
theorem dX6_laneGain_56 : decode cX6_laneGain 56 = .ok (.ireturn, 1) := DX6_laneGain_3.2.2.2.2.1
theorem dX6_laneGain_57 : decode cX6_laneGain 57 = .ok (.aload_n 0, 1) := DX6_laneGain_3.2.2.2.2.2.1
theorem dX6_laneGain_58 : decode cX6_laneGain 58 = .ok (.getfield 15, 3) := DX6_laneGain_3.2.2.2.2.2.2.1
theorem dX6_laneGain_61 : decode cX6_laneGain 61 = .ok (.iload_n 3, 1) := DX6_laneGain_3.2.2.2.2.2.2.2.1
theorem dX6_laneGain_62 : decode cX6_laneGain 62 = .ok (.iaload, 1) := DX6_laneGain_3.2.2.2.2.2.2.2.2.1
theorem dX6_laneGain_63 : decode cX6_laneGain 63 = .ok (.aload_n 0, 1) := DX6_laneGain_3.2.2.2.2.2.2.2.2.2
set_option maxRecDepth 100000 in
theorem DX6_laneGain_4 : decode cX6_laneGain 64 = .ok (.getfield 15, 3) ∧ decode cX6_laneGain 67 = .ok (.iload_n 2, 1) ∧ decode cX6_laneGain 68 = .ok (.iaload, 1) ∧ decode cX6_laneGain 69 = .ok (.isub, 1) ∧ decode cX6_laneGain 70 = .ok (.istore 4, 2) ∧ decode cX6_laneGain 72 = .ok (.iload 4, 2) ∧ decode cX6_laneGain 74 = .ok (.iconst 1, 1) ∧ decode cX6_laneGain 75 = .ok (.if_icmp .ge 10, 3) ∧ decode cX6_laneGain 78 = .ok (.aload_n 0, 1) ∧ decode cX6_laneGain 79 = .ok (.getfield 19, 3) := by decide +kernel
theorem dX6_laneGain_64 : decode cX6_laneGain 64 = .ok (.getfield 15, 3) := DX6_laneGain_4.1
theorem dX6_laneGain_67 : decode cX6_laneGain 67 = .ok (.iload_n 2, 1) := DX6_laneGain_4.2.1
theorem dX6_laneGain_68 : decode cX6_laneGain 68 = .ok (.iaload, 1) := DX6_laneGain_4.2.2.1
theorem dX6_laneGain_69 : decode cX6_laneGain 69 = .ok (.isub, 1) := DX6_laneGain_4.2.2.2.1
theorem dX6_laneGain_70 : decode cX6_laneGain 70 = .ok (.istore 4, 2) := DX6_laneGain_4.2.2.2.2.1
theorem dX6_laneGain_72 : decode cX6_laneGain 72 = .ok (.iload 4, 2) := DX6_laneGain_4.2.2.2.2.2.1
theorem dX6_laneGain_74 : decode cX6_laneGain 74 = .ok (.iconst 1, 1) := DX6_laneGain_4.2.2.2.2.2.2.1
theorem dX6_laneGain_75 : decode cX6_laneGain 75 = .ok (.if_icmp .ge 10, 3) := DX6_laneGain_4.2.2.2.2.2.2.2.1
theorem dX6_laneGain_78 : decode cX6_laneGain 78 = .ok (.aload_n 0, 1) := DX6_laneGain_4.2.2.2.2.2.2.2.2.1
theorem dX6_laneGain_79 : decode cX6_laneGain 79 = .ok (.getfield 19, 3) := DX6_laneGain_4.2.2.2.2.2.2.2.2.2
set_option maxRecDepth 100000 in
theorem DX6_laneGain_5 : decode cX6_laneGain 82 = .ok (.iload_n 2, 1) ∧ decode cX6_laneGain 83 = .ok (.iaload, 1) ∧ decode cX6_laneGain 84 = .ok (.ireturn, 1) ∧ decode cX6_laneGain 85 = .ok (.aload_n 0, 1) ∧ decode cX6_laneGain 86 = .ok (.getfield 19, 3) ∧ decode cX6_laneGain 89 = .ok (.iload_n 3, 1) ∧ decode cX6_laneGain 90 = .ok (.iaload, 1) ∧ decode cX6_laneGain 91 = .ok (.aload_n 0, 1) ∧ decode cX6_laneGain 92 = .ok (.getfield 19, 3) ∧ decode cX6_laneGain 95 = .ok (.iload_n 2, 1) := by decide +kernel
theorem dX6_laneGain_82 : decode cX6_laneGain 82 = .ok (.iload_n 2, 1) := DX6_laneGain_5.1
theorem dX6_laneGain_83 : decode cX6_laneGain 83 = .ok (.iaload, 1) := DX6_laneGain_5.2.1
theorem dX6_laneGain_84 : decode cX6_laneGain 84 = .ok (.ireturn, 1) := DX6_laneGain_5.2.2.1
theorem dX6_laneGain_85 : decode cX6_laneGain 85 = .ok (.aload_n 0, 1) := DX6_laneGain_5.2.2.2.1
theorem dX6_laneGain_86 : decode cX6_laneGain 86 = .ok (.getfield 19, 3) := DX6_laneGain_5.2.2.2.2.1
theorem dX6_laneGain_89 : decode cX6_laneGain 89 = .ok (.iload_n 3, 1) := DX6_laneGain_5.2.2.2.2.2.1
theorem dX6_laneGain_90 : decode cX6_laneGain 90 = .ok (.iaload, 1) := DX6_laneGain_5.2.2.2.2.2.2.1
theorem dX6_laneGain_91 : decode cX6_laneGain 91 = .ok (.aload_n 0, 1) := DX6_laneGain_5.2.2.2.2.2.2.2.1
theorem dX6_laneGain_92 : decode cX6_laneGain 92 = .ok (.getfield 19, 3) := DX6_laneGain_5.2.2.2.2.2.2.2.2.1
theorem dX6_laneGain_95 : decode cX6_laneGain 95 = .ok (.iload_n 2, 1) := DX6_laneGain_5.2.2.2.2.2.2.2.2.2
set_option maxRecDepth 100000 in
theorem DX6_laneGain_6 : decode cX6_laneGain 96 = .ok (.iaload, 1) ∧ decode cX6_laneGain 97 = .ok (.isub, 1) ∧ decode cX6_laneGain 98 = .ok (.istore 5, 2) ∧ decode cX6_laneGain 100 = .ok (.aload_n 0, 1) ∧ decode cX6_laneGain 101 = .ok (.getfield 19, 3) ∧ decode cX6_laneGain 104 = .ok (.iload_n 2, 1) ∧ decode cX6_laneGain 105 = .ok (.iaload, 1) ∧ decode cX6_laneGain 106 = .ok (.iload 5, 2) ∧ decode cX6_laneGain 108 = .ok (.iload_n 1, 1) ∧ decode cX6_laneGain 109 = .ok (.aload_n 0, 1) := by decide +kernel
theorem dX6_laneGain_96 : decode cX6_laneGain 96 = .ok (.iaload, 1) := DX6_laneGain_6.1
theorem dX6_laneGain_97 : decode cX6_laneGain 97 = .ok (.isub, 1) := DX6_laneGain_6.2.1
theorem dX6_laneGain_98 : decode cX6_laneGain 98 = .ok (.istore 5, 2) := DX6_laneGain_6.2.2.1
theorem dX6_laneGain_100 : decode cX6_laneGain 100 = .ok (.aload_n 0, 1) := DX6_laneGain_6.2.2.2.1
theorem dX6_laneGain_101 : decode cX6_laneGain 101 = .ok (.getfield 19, 3) := DX6_laneGain_6.2.2.2.2.1
theorem dX6_laneGain_104 : decode cX6_laneGain 104 = .ok (.iload_n 2, 1) := DX6_laneGain_6.2.2.2.2.2.1
theorem dX6_laneGain_105 : decode cX6_laneGain 105 = .ok (.iaload, 1) := DX6_laneGain_6.2.2.2.2.2.2.1
theorem dX6_laneGain_106 : decode cX6_laneGain 106 = .ok (.iload 5, 2) := DX6_laneGain_6.2.2.2.2.2.2.2.1
theorem dX6_laneGain_108 : decode cX6_laneGain 108 = .ok (.iload_n 1, 1) := DX6_laneGain_6.2.2.2.2.2.2.2.2.1
theorem dX6_laneGain_109 : decode cX6_laneGain 109 = .ok (.aload_n 0, 1) := DX6_laneGain_6.2.2.2.2.2.2.2.2.2
set_option maxRecDepth 100000 in
theorem DX6_laneGain_7 : decode cX6_laneGain 110 = .ok (.getfield 15, 3) ∧ decode cX6_laneGain 113 = .ok (.iload_n 2, 1) ∧ decode cX6_laneGain 114 = .ok (.iaload, 1) ∧ decode cX6_laneGain 115 = .ok (.isub, 1) ∧ decode cX6_laneGain 116 = .ok (.imul, 1) ∧ decode cX6_laneGain 117 = .ok (.iload 4, 2) ∧ decode cX6_laneGain 119 = .ok (.invokestatic 66, 3) ∧ decode cX6_laneGain 122 = .ok (.iadd, 1) ∧ decode cX6_laneGain 123 = .ok (.ireturn, 1) := by decide +kernel
theorem dX6_laneGain_110 : decode cX6_laneGain 110 = .ok (.getfield 15, 3) := DX6_laneGain_7.1
theorem dX6_laneGain_113 : decode cX6_laneGain 113 = .ok (.iload_n 2, 1) := DX6_laneGain_7.2.1
theorem dX6_laneGain_114 : decode cX6_laneGain 114 = .ok (.iaload, 1) := DX6_laneGain_7.2.2.1
theorem dX6_laneGain_115 : decode cX6_laneGain 115 = .ok (.isub, 1) := DX6_laneGain_7.2.2.2.1
theorem dX6_laneGain_116 : decode cX6_laneGain 116 = .ok (.imul, 1) := DX6_laneGain_7.2.2.2.2.1
theorem dX6_laneGain_117 : decode cX6_laneGain 117 = .ok (.iload 4, 2) := DX6_laneGain_7.2.2.2.2.2.1
theorem dX6_laneGain_119 : decode cX6_laneGain 119 = .ok (.invokestatic 66, 3) := DX6_laneGain_7.2.2.2.2.2.2.1
theorem dX6_laneGain_122 : decode cX6_laneGain 122 = .ok (.iadd, 1) := DX6_laneGain_7.2.2.2.2.2.2.2.1
theorem dX6_laneGain_123 : decode cX6_laneGain 123 = .ok (.ireturn, 1) := DX6_laneGain_7.2.2.2.2.2.2.2.2
set_option maxRecDepth 100000 in
theorem DX6_hashTrack_0 : decode cX6_hashTrack 0 = .ok (.lload_n 1, 1) ∧ decode cX6_hashTrack 1 = .ok (.aload_n 0, 1) ∧ decode cX6_hashTrack 2 = .ok (.getfield 9, 3) ∧ decode cX6_hashTrack 5 = .ok (.i2l, 1) ∧ decode cX6_hashTrack 6 = .ok (.invokestatic 72, 3) ∧ decode cX6_hashTrack 9 = .ok (.aload_n 0, 1) ∧ decode cX6_hashTrack 10 = .ok (.getfield 29, 3) ∧ decode cX6_hashTrack 13 = .ok (.i2l, 1) ∧ decode cX6_hashTrack 14 = .ok (.invokestatic 72, 3) ∧ decode cX6_hashTrack 17 = .ok (.lstore_n 3, 1) := by decide +kernel
theorem dX6_hashTrack_0 : decode cX6_hashTrack 0 = .ok (.lload_n 1, 1) := DX6_hashTrack_0.1
theorem dX6_hashTrack_1 : decode cX6_hashTrack 1 = .ok (.aload_n 0, 1) := DX6_hashTrack_0.2.1
theorem dX6_hashTrack_2 : decode cX6_hashTrack 2 = .ok (.getfield 9, 3) := DX6_hashTrack_0.2.2.1
theorem dX6_hashTrack_5 : decode cX6_hashTrack 5 = .ok (.i2l, 1) := DX6_hashTrack_0.2.2.2.1
theorem dX6_hashTrack_6 : decode cX6_hashTrack 6 = .ok (.invokestatic 72, 3) := DX6_hashTrack_0.2.2.2.2.1
theorem dX6_hashTrack_9 : decode cX6_hashTrack 9 = .ok (.aload_n 0, 1) := DX6_hashTrack_0.2.2.2.2.2.1
theorem dX6_hashTrack_10 : decode cX6_hashTrack 10 = .ok (.getfield 29, 3) := DX6_hashTrack_0.2.2.2.2.2.2.1
theorem dX6_hashTrack_13 : decode cX6_hashTrack 13 = .ok (.i2l, 1) := DX6_hashTrack_0.2.2.2.2.2.2.2.1
theorem dX6_hashTrack_14 : decode cX6_hashTrack 14 = .ok (.invokestatic 72, 3) := DX6_hashTrack_0.2.2.2.2.2.2.2.2.1
theorem dX6_hashTrack_17 : decode cX6_hashTrack 17 = .ok (.lstore_n 3, 1) := DX6_hashTrack_0.2.2.2.2.2.2.2.2.2
set_option maxRecDepth 100000 in
theorem DX6_hashTrack_1 : decode cX6_hashTrack 18 = .ok (.lload_n 3, 1) ∧ decode cX6_hashTrack 19 = .ok (.aload_n 0, 1) ∧ decode cX6_hashTrack 20 = .ok (.getfield 32, 3) ∧ decode cX6_hashTrack 23 = .ok (.ifCond .eq 7, 3) ∧ decode cX6_hashTrack 26 = .ok (.lconst 1, 1) ∧ decode cX6_hashTrack 27 = .ok (.goto 4, 3) ∧ decode cX6_hashTrack 30 = .ok (.lconst 0, 1) ∧ decode cX6_hashTrack 31 = .ok (.invokestatic 72, 3) ∧ decode cX6_hashTrack 34 = .ok (.aload_n 0, 1) ∧ decode cX6_hashTrack 35 = .ok (.getfield 36, 3) := by decide +kernel
theorem dX6_hashTrack_18 : decode cX6_hashTrack 18 = .ok (.lload_n 3, 1) := DX6_hashTrack_1.1
theorem dX6_hashTrack_19 : decode cX6_hashTrack 19 = .ok (.aload_n 0, 1) := DX6_hashTrack_1.2.1
theorem dX6_hashTrack_20 : decode cX6_hashTrack 20 = .ok (.getfield 32, 3) := DX6_hashTrack_1.2.2.1
theorem dX6_hashTrack_23 : decode cX6_hashTrack 23 = .ok (.ifCond .eq 7, 3) := DX6_hashTrack_1.2.2.2.1
theorem dX6_hashTrack_26 : decode cX6_hashTrack 26 = .ok (.lconst 1, 1) := DX6_hashTrack_1.2.2.2.2.1
theorem dX6_hashTrack_27 : decode cX6_hashTrack 27 = .ok (.goto 4, 3) := DX6_hashTrack_1.2.2.2.2.2.1
theorem dX6_hashTrack_30 : decode cX6_hashTrack 30 = .ok (.lconst 0, 1) := DX6_hashTrack_1.2.2.2.2.2.2.1
theorem dX6_hashTrack_31 : decode cX6_hashTrack 31 = .ok (.invokestatic 72, 3) := DX6_hashTrack_1.2.2.2.2.2.2.2.1
theorem dX6_hashTrack_34 : decode cX6_hashTrack 34 = .ok (.aload_n 0, 1) := DX6_hashTrack_1.2.2.2.2.2.2.2.2.1
theorem dX6_hashTrack_35 : decode cX6_hashTrack 35 = .ok (.getfield 36, 3) := DX6_hashTrack_1.2.2.2.2.2.2.2.2.2
set_option maxRecDepth 100000 in
theorem DX6_hashTrack_2 : decode cX6_hashTrack 38 = .ok (.ifCond .eq 7, 3) ∧ decode cX6_hashTrack 41 = .ok (.lconst 1, 1) ∧ decode cX6_hashTrack 42 = .ok (.goto 4, 3) ∧ decode cX6_hashTrack 45 = .ok (.lconst 0, 1) ∧ decode cX6_hashTrack 46 = .ok (.invokestatic 72, 3) ∧ decode cX6_hashTrack 49 = .ok (.lstore_n 3, 1) ∧ decode cX6_hashTrack 50 = .ok (.lload_n 3, 1) ∧ decode cX6_hashTrack 51 = .ok (.aload_n 0, 1) ∧ decode cX6_hashTrack 52 = .ok (.getfield 39, 3) ∧ decode cX6_hashTrack 55 = .ok (.i2l, 1) := by decide +kernel
theorem dX6_hashTrack_38 : decode cX6_hashTrack 38 = .ok (.ifCond .eq 7, 3) := DX6_hashTrack_2.1
theorem dX6_hashTrack_41 : decode cX6_hashTrack 41 = .ok (.lconst 1, 1) := DX6_hashTrack_2.2.1
theorem dX6_hashTrack_42 : decode cX6_hashTrack 42 = .ok (.goto 4, 3) := DX6_hashTrack_2.2.2.1
theorem dX6_hashTrack_45 : decode cX6_hashTrack 45 = .ok (.lconst 0, 1) := DX6_hashTrack_2.2.2.2.1
theorem dX6_hashTrack_46 : decode cX6_hashTrack 46 = .ok (.invokestatic 72, 3) := DX6_hashTrack_2.2.2.2.2.1
theorem dX6_hashTrack_49 : decode cX6_hashTrack 49 = .ok (.lstore_n 3, 1) := DX6_hashTrack_2.2.2.2.2.2.1
theorem dX6_hashTrack_50 : decode cX6_hashTrack 50 = .ok (.lload_n 3, 1) := DX6_hashTrack_2.2.2.2.2.2.2.1
theorem dX6_hashTrack_51 : decode cX6_hashTrack 51 = .ok (.aload_n 0, 1) := DX6_hashTrack_2.2.2.2.2.2.2.2.1
theorem dX6_hashTrack_52 : decode cX6_hashTrack 52 = .ok (.getfield 39, 3) := DX6_hashTrack_2.2.2.2.2.2.2.2.2.1
theorem dX6_hashTrack_55 : decode cX6_hashTrack 55 = .ok (.i2l, 1) := DX6_hashTrack_2.2.2.2.2.2.2.2.2.2
set_option maxRecDepth 100000 in
theorem DX6_hashTrack_3 : decode cX6_hashTrack 56 = .ok (.invokestatic 72, 3) ∧ decode cX6_hashTrack 59 = .ok (.lstore_n 3, 1) ∧ decode cX6_hashTrack 60 = .ok (.iconst 0, 1) ∧ decode cX6_hashTrack 61 = .ok (.istore 5, 2) ∧ decode cX6_hashTrack 63 = .ok (.iload 5, 2) ∧ decode cX6_hashTrack 65 = .ok (.aload_n 0, 1) ∧ decode cX6_hashTrack 66 = .ok (.getfield 39, 3) ∧ decode cX6_hashTrack 69 = .ok (.if_icmp .ge 53, 3) ∧ decode cX6_hashTrack 72 = .ok (.lload_n 3, 1) ∧ decode cX6_hashTrack 73 = .ok (.aload_n 0, 1) := by decide +kernel
theorem dX6_hashTrack_56 : decode cX6_hashTrack 56 = .ok (.invokestatic 72, 3) := DX6_hashTrack_3.1
theorem dX6_hashTrack_59 : decode cX6_hashTrack 59 = .ok (.lstore_n 3, 1) := DX6_hashTrack_3.2.1
theorem dX6_hashTrack_60 : decode cX6_hashTrack 60 = .ok (.iconst 0, 1) := DX6_hashTrack_3.2.2.1
theorem dX6_hashTrack_61 : decode cX6_hashTrack 61 = .ok (.istore 5, 2) := DX6_hashTrack_3.2.2.2.1
theorem dX6_hashTrack_63 : decode cX6_hashTrack 63 = .ok (.iload 5, 2) := DX6_hashTrack_3.2.2.2.2.1
theorem dX6_hashTrack_65 : decode cX6_hashTrack 65 = .ok (.aload_n 0, 1) := DX6_hashTrack_3.2.2.2.2.2.1
theorem dX6_hashTrack_66 : decode cX6_hashTrack 66 = .ok (.getfield 39, 3) := DX6_hashTrack_3.2.2.2.2.2.2.1
theorem dX6_hashTrack_69 : decode cX6_hashTrack 69 = .ok (.if_icmp .ge 53, 3) := DX6_hashTrack_3.2.2.2.2.2.2.2.1
theorem dX6_hashTrack_72 : decode cX6_hashTrack 72 = .ok (.lload_n 3, 1) := DX6_hashTrack_3.2.2.2.2.2.2.2.2.1
theorem dX6_hashTrack_73 : decode cX6_hashTrack 73 = .ok (.aload_n 0, 1) := DX6_hashTrack_3.2.2.2.2.2.2.2.2.2
set_option maxRecDepth 100000 in
theorem DX6_hashTrack_4 : decode cX6_hashTrack 74 = .ok (.getfield 15, 3) ∧ decode cX6_hashTrack 77 = .ok (.iload 5, 2) ∧ decode cX6_hashTrack 79 = .ok (.iaload, 1) ∧ decode cX6_hashTrack 80 = .ok (.i2l, 1) ∧ decode cX6_hashTrack 81 = .ok (.invokestatic 72, 3) ∧ decode cX6_hashTrack 84 = .ok (.aload_n 0, 1) ∧ decode cX6_hashTrack 85 = .ok (.getfield 19, 3) ∧ decode cX6_hashTrack 88 = .ok (.iload 5, 2) ∧ decode cX6_hashTrack 90 = .ok (.iaload, 1) ∧ decode cX6_hashTrack 91 = .ok (.i2l, 1) := by decide +kernel
theorem dX6_hashTrack_74 : decode cX6_hashTrack 74 = .ok (.getfield 15, 3) := DX6_hashTrack_4.1
theorem dX6_hashTrack_77 : decode cX6_hashTrack 77 = .ok (.iload 5, 2) := DX6_hashTrack_4.2.1
theorem dX6_hashTrack_79 : decode cX6_hashTrack 79 = .ok (.iaload, 1) := DX6_hashTrack_4.2.2.1
theorem dX6_hashTrack_80 : decode cX6_hashTrack 80 = .ok (.i2l, 1) := DX6_hashTrack_4.2.2.2.1
theorem dX6_hashTrack_81 : decode cX6_hashTrack 81 = .ok (.invokestatic 72, 3) := DX6_hashTrack_4.2.2.2.2.1
theorem dX6_hashTrack_84 : decode cX6_hashTrack 84 = .ok (.aload_n 0, 1) := DX6_hashTrack_4.2.2.2.2.2.1
theorem dX6_hashTrack_85 : decode cX6_hashTrack 85 = .ok (.getfield 19, 3) := DX6_hashTrack_4.2.2.2.2.2.2.1
theorem dX6_hashTrack_88 : decode cX6_hashTrack 88 = .ok (.iload 5, 2) := DX6_hashTrack_4.2.2.2.2.2.2.2.1
theorem dX6_hashTrack_90 : decode cX6_hashTrack 90 = .ok (.iaload, 1) := DX6_hashTrack_4.2.2.2.2.2.2.2.2.1
theorem dX6_hashTrack_91 : decode cX6_hashTrack 91 = .ok (.i2l, 1) := DX6_hashTrack_4.2.2.2.2.2.2.2.2.2
set_option maxRecDepth 100000 in
theorem DX6_hashTrack_5 : decode cX6_hashTrack 92 = .ok (.invokestatic 72, 3) ∧ decode cX6_hashTrack 95 = .ok (.lstore_n 3, 1) ∧ decode cX6_hashTrack 96 = .ok (.lload_n 3, 1) ∧ decode cX6_hashTrack 97 = .ok (.aload_n 0, 1) ∧ decode cX6_hashTrack 98 = .ok (.getfield 22, 3) ∧ decode cX6_hashTrack 101 = .ok (.iload 5, 2) ∧ decode cX6_hashTrack 103 = .ok (.baload, 1) ∧ decode cX6_hashTrack 104 = .ok (.ifCond .eq 7, 3) ∧ decode cX6_hashTrack 107 = .ok (.lconst 1, 1) ∧ decode cX6_hashTrack 108 = .ok (.goto 4, 3) := by decide +kernel
theorem dX6_hashTrack_92 : decode cX6_hashTrack 92 = .ok (.invokestatic 72, 3) := DX6_hashTrack_5.1
theorem dX6_hashTrack_95 : decode cX6_hashTrack 95 = .ok (.lstore_n 3, 1) := DX6_hashTrack_5.2.1
theorem dX6_hashTrack_96 : decode cX6_hashTrack 96 = .ok (.lload_n 3, 1) := DX6_hashTrack_5.2.2.1
theorem dX6_hashTrack_97 : decode cX6_hashTrack 97 = .ok (.aload_n 0, 1) := DX6_hashTrack_5.2.2.2.1
theorem dX6_hashTrack_98 : decode cX6_hashTrack 98 = .ok (.getfield 22, 3) := DX6_hashTrack_5.2.2.2.2.1
theorem dX6_hashTrack_101 : decode cX6_hashTrack 101 = .ok (.iload 5, 2) := DX6_hashTrack_5.2.2.2.2.2.1
theorem dX6_hashTrack_103 : decode cX6_hashTrack 103 = .ok (.baload, 1) := DX6_hashTrack_5.2.2.2.2.2.2.1
theorem dX6_hashTrack_104 : decode cX6_hashTrack 104 = .ok (.ifCond .eq 7, 3) := DX6_hashTrack_5.2.2.2.2.2.2.2.1
theorem dX6_hashTrack_107 : decode cX6_hashTrack 107 = .ok (.lconst 1, 1) := DX6_hashTrack_5.2.2.2.2.2.2.2.2.1
theorem dX6_hashTrack_108 : decode cX6_hashTrack 108 = .ok (.goto 4, 3) := DX6_hashTrack_5.2.2.2.2.2.2.2.2.2
set_option maxRecDepth 100000 in
theorem DX6_hashTrack_6 : decode cX6_hashTrack 111 = .ok (.lconst 0, 1) ∧ decode cX6_hashTrack 112 = .ok (.invokestatic 72, 3) ∧ decode cX6_hashTrack 115 = .ok (.lstore_n 3, 1) ∧ decode cX6_hashTrack 116 = .ok (.iinc 5 1, 3) ∧ decode cX6_hashTrack 119 = .ok (.goto (-56), 3) ∧ decode cX6_hashTrack 122 = .ok (.lload_n 3, 1) ∧ decode cX6_hashTrack 123 = .ok (.aload_n 0, 1) ∧ decode cX6_hashTrack 124 = .ok (.getfield 26, 3) ∧ decode cX6_hashTrack 127 = .ok (.i2l, 1) ∧ decode cX6_hashTrack 128 = .ok (.invokestatic 72, 3) := by decide +kernel
theorem dX6_hashTrack_111 : decode cX6_hashTrack 111 = .ok (.lconst 0, 1) := DX6_hashTrack_6.1
theorem dX6_hashTrack_112 : decode cX6_hashTrack 112 = .ok (.invokestatic 72, 3) := DX6_hashTrack_6.2.1
theorem dX6_hashTrack_115 : decode cX6_hashTrack 115 = .ok (.lstore_n 3, 1) := DX6_hashTrack_6.2.2.1
theorem dX6_hashTrack_116 : decode cX6_hashTrack 116 = .ok (.iinc 5 1, 3) := DX6_hashTrack_6.2.2.2.1
theorem dX6_hashTrack_119 : decode cX6_hashTrack 119 = .ok (.goto (-56), 3) := DX6_hashTrack_6.2.2.2.2.1
theorem dX6_hashTrack_122 : decode cX6_hashTrack 122 = .ok (.lload_n 3, 1) := DX6_hashTrack_6.2.2.2.2.2.1
theorem dX6_hashTrack_123 : decode cX6_hashTrack 123 = .ok (.aload_n 0, 1) := DX6_hashTrack_6.2.2.2.2.2.2.1
theorem dX6_hashTrack_124 : decode cX6_hashTrack 124 = .ok (.getfield 26, 3) := DX6_hashTrack_6.2.2.2.2.2.2.2.1
theorem dX6_hashTrack_127 : decode cX6_hashTrack 127 = .ok (.i2l, 1) := DX6_hashTrack_6.2.2.2.2.2.2.2.2.1
theorem dX6_hashTrack_128 : decode cX6_hashTrack 128 = .ok (.invokestatic 72, 3) := DX6_hashTrack_6.2.2.2.2.2.2.2.2.2
set_option maxRecDepth 100000 in
theorem DX6_hashTrack_7 : decode cX6_hashTrack 131 = .ok (.lstore_n 3, 1) ∧ decode cX6_hashTrack 132 = .ok (.aload_n 0, 1) ∧ decode cX6_hashTrack 133 = .ok (.getfield 26, 3) ∧ decode cX6_hashTrack 136 = .ok (.iconst (-1), 1) ∧ decode cX6_hashTrack 137 = .ok (.if_icmp .eq 39, 3) ∧ decode cX6_hashTrack 140 = .ok (.lload_n 3, 1) ∧ decode cX6_hashTrack 141 = .ok (.aload_n 0, 1) ∧ decode cX6_hashTrack 142 = .ok (.getfield 46, 3) ∧ decode cX6_hashTrack 145 = .ok (.i2l, 1) ∧ decode cX6_hashTrack 146 = .ok (.invokestatic 72, 3) := by decide +kernel
theorem dX6_hashTrack_131 : decode cX6_hashTrack 131 = .ok (.lstore_n 3, 1) := DX6_hashTrack_7.1
theorem dX6_hashTrack_132 : decode cX6_hashTrack 132 = .ok (.aload_n 0, 1) := DX6_hashTrack_7.2.1
theorem dX6_hashTrack_133 : decode cX6_hashTrack 133 = .ok (.getfield 26, 3) := DX6_hashTrack_7.2.2.1
theorem dX6_hashTrack_136 : decode cX6_hashTrack 136 = .ok (.iconst (-1), 1) := DX6_hashTrack_7.2.2.2.1
theorem dX6_hashTrack_137 : decode cX6_hashTrack 137 = .ok (.if_icmp .eq 39, 3) := DX6_hashTrack_7.2.2.2.2.1
theorem dX6_hashTrack_140 : decode cX6_hashTrack 140 = .ok (.lload_n 3, 1) := DX6_hashTrack_7.2.2.2.2.2.1
theorem dX6_hashTrack_141 : decode cX6_hashTrack 141 = .ok (.aload_n 0, 1) := DX6_hashTrack_7.2.2.2.2.2.2.1
theorem dX6_hashTrack_142 : decode cX6_hashTrack 142 = .ok (.getfield 46, 3) := DX6_hashTrack_7.2.2.2.2.2.2.2.1
theorem dX6_hashTrack_145 : decode cX6_hashTrack 145 = .ok (.i2l, 1) := DX6_hashTrack_7.2.2.2.2.2.2.2.2.1
theorem dX6_hashTrack_146 : decode cX6_hashTrack 146 = .ok (.invokestatic 72, 3) := DX6_hashTrack_7.2.2.2.2.2.2.2.2.2
set_option maxRecDepth 100000 in
theorem DX6_hashTrack_8 : decode cX6_hashTrack 149 = .ok (.aload_n 0, 1) ∧ decode cX6_hashTrack 150 = .ok (.getfield 49, 3) ∧ decode cX6_hashTrack 153 = .ok (.i2l, 1) ∧ decode cX6_hashTrack 154 = .ok (.invokestatic 72, 3) ∧ decode cX6_hashTrack 157 = .ok (.lstore_n 3, 1) ∧ decode cX6_hashTrack 158 = .ok (.lload_n 3, 1) ∧ decode cX6_hashTrack 159 = .ok (.aload_n 0, 1) ∧ decode cX6_hashTrack 160 = .ok (.getfield 52, 3) ∧ decode cX6_hashTrack 163 = .ok (.i2l, 1) ∧ decode cX6_hashTrack 164 = .ok (.invokestatic 72, 3) := by decide +kernel
theorem dX6_hashTrack_149 : decode cX6_hashTrack 149 = .ok (.aload_n 0, 1) := DX6_hashTrack_8.1
theorem dX6_hashTrack_150 : decode cX6_hashTrack 150 = .ok (.getfield 49, 3) := DX6_hashTrack_8.2.1
theorem dX6_hashTrack_153 : decode cX6_hashTrack 153 = .ok (.i2l, 1) := DX6_hashTrack_8.2.2.1
theorem dX6_hashTrack_154 : decode cX6_hashTrack 154 = .ok (.invokestatic 72, 3) := DX6_hashTrack_8.2.2.2.1
theorem dX6_hashTrack_157 : decode cX6_hashTrack 157 = .ok (.lstore_n 3, 1) := DX6_hashTrack_8.2.2.2.2.1
theorem dX6_hashTrack_158 : decode cX6_hashTrack 158 = .ok (.lload_n 3, 1) := DX6_hashTrack_8.2.2.2.2.2.1
theorem dX6_hashTrack_159 : decode cX6_hashTrack 159 = .ok (.aload_n 0, 1) := DX6_hashTrack_8.2.2.2.2.2.2.1
theorem dX6_hashTrack_160 : decode cX6_hashTrack 160 = .ok (.getfield 52, 3) := DX6_hashTrack_8.2.2.2.2.2.2.2.1
theorem dX6_hashTrack_163 : decode cX6_hashTrack 163 = .ok (.i2l, 1) := DX6_hashTrack_8.2.2.2.2.2.2.2.2.1
theorem dX6_hashTrack_164 : decode cX6_hashTrack 164 = .ok (.invokestatic 72, 3) := DX6_hashTrack_8.2.2.2.2.2.2.2.2.2
set_option maxRecDepth 100000 in
theorem DX6_hashTrack_9 : decode cX6_hashTrack 167 = .ok (.aload_n 0, 1) ∧ decode cX6_hashTrack 168 = .ok (.getfield 55, 3) ∧ decode cX6_hashTrack 171 = .ok (.i2l, 1) ∧ decode cX6_hashTrack 172 = .ok (.invokestatic 72, 3) ∧ decode cX6_hashTrack 175 = .ok (.lstore_n 3, 1) ∧ decode cX6_hashTrack 176 = .ok (.lload_n 3, 1) ∧ decode cX6_hashTrack 177 = .ok (.lreturn, 1) := by decide +kernel
theorem dX6_hashTrack_167 : decode cX6_hashTrack 167 = .ok (.aload_n 0, 1) := DX6_hashTrack_9.1
theorem dX6_hashTrack_168 : decode cX6_hashTrack 168 = .ok (.getfield 55, 3) := DX6_hashTrack_9.2.1
theorem dX6_hashTrack_171 : decode cX6_hashTrack 171 = .ok (.i2l, 1) := DX6_hashTrack_9.2.2.1
theorem dX6_hashTrack_172 : decode cX6_hashTrack 172 = .ok (.invokestatic 72, 3) := DX6_hashTrack_9.2.2.2.1
theorem dX6_hashTrack_175 : decode cX6_hashTrack 175 = .ok (.lstore_n 3, 1) := DX6_hashTrack_9.2.2.2.2.1
theorem dX6_hashTrack_176 : decode cX6_hashTrack 176 = .ok (.lload_n 3, 1) := DX6_hashTrack_9.2.2.2.2.2.1
theorem dX6_hashTrack_177 : decode cX6_hashTrack 177 = .ok (.lreturn, 1) := DX6_hashTrack_9.2.2.2.2.2.2
set_option maxRecDepth 100000 in
theorem DX7_init_0 : decode cX7_init 0 = .ok (.aload_n 0, 1) ∧ decode cX7_init 1 = .ok (.invokespecial 3, 3) ∧ decode cX7_init 4 = .ok (.aload_n 0, 1) ∧ decode cX7_init 5 = .ok (.new 9, 3) ∧ decode cX7_init 8 = .ok (.dup, 1) ∧ decode cX7_init 9 = .ok (.invokespecial 11, 3) ∧ decode cX7_init 12 = .ok (.putfield 12, 3) ∧ decode cX7_init 15 = .ok (.aload_n 0, 1) ∧ decode cX7_init 16 = .ok (.new 9, 3) ∧ decode cX7_init 19 = .ok (.dup, 1) := by decide +kernel
theorem dX7_init_0 : decode cX7_init 0 = .ok (.aload_n 0, 1) := DX7_init_0.1
theorem dX7_init_1 : decode cX7_init 1 = .ok (.invokespecial 3, 3) := DX7_init_0.2.1
theorem dX7_init_4 : decode cX7_init 4 = .ok (.aload_n 0, 1) := DX7_init_0.2.2.1
theorem dX7_init_5 : decode cX7_init 5 = .ok (.new 9, 3) := DX7_init_0.2.2.2.1
theorem dX7_init_8 : decode cX7_init 8 = .ok (.dup, 1) := DX7_init_0.2.2.2.2.1
theorem dX7_init_9 : decode cX7_init 9 = .ok (.invokespecial 11, 3) := DX7_init_0.2.2.2.2.2.1
theorem dX7_init_12 : decode cX7_init 12 = .ok (.putfield 12, 3) := DX7_init_0.2.2.2.2.2.2.1
theorem dX7_init_15 : decode cX7_init 15 = .ok (.aload_n 0, 1) := DX7_init_0.2.2.2.2.2.2.2.1
theorem dX7_init_16 : decode cX7_init 16 = .ok (.new 9, 3) := DX7_init_0.2.2.2.2.2.2.2.2.1
theorem dX7_init_19 : decode cX7_init 19 = .ok (.dup, 1) := DX7_init_0.2.2.2.2.2.2.2.2.2
set_option maxRecDepth 100000 in
theorem DX7_init_1 : decode cX7_init 20 = .ok (.invokespecial 11, 3) ∧ decode cX7_init 23 = .ok (.putfield 16, 3) ∧ decode cX7_init 26 = .ok (.aload_n 0, 1) ∧ decode cX7_init 27 = .ok (.iconst 4, 1) ∧ decode cX7_init 28 = .ok (.anewarray 9, 3) ∧ decode cX7_init 31 = .ok (.putfield 19, 3) ∧ decode cX7_init 34 = .ok (.aload_n 0, 1) ∧ decode cX7_init 35 = .ok (.iconst 4, 1) ∧ decode cX7_init 36 = .ok (.anewarray 23, 3) ∧ decode cX7_init 39 = .ok (.putfield 25, 3) := by decide +kernel
theorem dX7_init_20 : decode cX7_init 20 = .ok (.invokespecial 11, 3) := DX7_init_1.1
theorem dX7_init_23 : decode cX7_init 23 = .ok (.putfield 16, 3) := DX7_init_1.2.1
theorem dX7_init_26 : decode cX7_init 26 = .ok (.aload_n 0, 1) := DX7_init_1.2.2.1
theorem dX7_init_27 : decode cX7_init 27 = .ok (.iconst 4, 1) := DX7_init_1.2.2.2.1
theorem dX7_init_28 : decode cX7_init 28 = .ok (.anewarray 9, 3) := DX7_init_1.2.2.2.2.1
theorem dX7_init_31 : decode cX7_init 31 = .ok (.putfield 19, 3) := DX7_init_1.2.2.2.2.2.1
theorem dX7_init_34 : decode cX7_init 34 = .ok (.aload_n 0, 1) := DX7_init_1.2.2.2.2.2.2.1
theorem dX7_init_35 : decode cX7_init 35 = .ok (.iconst 4, 1) := DX7_init_1.2.2.2.2.2.2.2.1
theorem dX7_init_36 : decode cX7_init 36 = .ok (.anewarray 23, 3) := DX7_init_1.2.2.2.2.2.2.2.2.1
theorem dX7_init_39 : decode cX7_init 39 = .ok (.putfield 25, 3) := DX7_init_1.2.2.2.2.2.2.2.2.2
set_option maxRecDepth 100000 in
theorem DX7_init_2 : decode cX7_init 42 = .ok (.aload_n 0, 1) ∧ decode cX7_init 43 = .ok (.new 29, 3) ∧ decode cX7_init 46 = .ok (.dup, 1) ∧ decode cX7_init 47 = .ok (.invokespecial 31, 3) ∧ decode cX7_init 50 = .ok (.putfield 32, 3) ∧ decode cX7_init 53 = .ok (.iconst 0, 1) ∧ decode cX7_init 54 = .ok (.istore_n 1, 1) ∧ decode cX7_init 55 = .ok (.iload_n 1, 1) ∧ decode cX7_init 56 = .ok (.aload_n 0, 1) ∧ decode cX7_init 57 = .ok (.getfield 19, 3) := by decide +kernel
theorem dX7_init_42 : decode cX7_init 42 = .ok (.aload_n 0, 1) := DX7_init_2.1
theorem dX7_init_43 : decode cX7_init 43 = .ok (.new 29, 3) := DX7_init_2.2.1
theorem dX7_init_46 : decode cX7_init 46 = .ok (.dup, 1) := DX7_init_2.2.2.1
theorem dX7_init_47 : decode cX7_init 47 = .ok (.invokespecial 31, 3) := DX7_init_2.2.2.2.1
theorem dX7_init_50 : decode cX7_init 50 = .ok (.putfield 32, 3) := DX7_init_2.2.2.2.2.1
theorem dX7_init_53 : decode cX7_init 53 = .ok (.iconst 0, 1) := DX7_init_2.2.2.2.2.2.1
theorem dX7_init_54 : decode cX7_init 54 = .ok (.istore_n 1, 1) := DX7_init_2.2.2.2.2.2.2.1
theorem dX7_init_55 : decode cX7_init 55 = .ok (.iload_n 1, 1) := DX7_init_2.2.2.2.2.2.2.2.1
theorem dX7_init_56 : decode cX7_init 56 = .ok (.aload_n 0, 1) := DX7_init_2.2.2.2.2.2.2.2.2.1
theorem dX7_init_57 : decode cX7_init 57 = .ok (.getfield 19, 3) := DX7_init_2.2.2.2.2.2.2.2.2.2
set_option maxRecDepth 100000 in
theorem DX7_init_3 : decode cX7_init 60 = .ok (.arraylength, 1) ∧ decode cX7_init 61 = .ok (.if_icmp .ge 22, 3) ∧ decode cX7_init 64 = .ok (.aload_n 0, 1) ∧ decode cX7_init 65 = .ok (.getfield 19, 3) ∧ decode cX7_init 68 = .ok (.iload_n 1, 1) ∧ decode cX7_init 69 = .ok (.new 9, 3) ∧ decode cX7_init 72 = .ok (.dup, 1) ∧ decode cX7_init 73 = .ok (.invokespecial 11, 3) ∧ decode cX7_init 76 = .ok (.aastore, 1) ∧ decode cX7_init 77 = .ok (.iinc 1 1, 3) := by decide +kernel
theorem dX7_init_60 : decode cX7_init 60 = .ok (.arraylength, 1) := DX7_init_3.1
theorem dX7_init_61 : decode cX7_init 61 = .ok (.if_icmp .ge 22, 3) := DX7_init_3.2.1
theorem dX7_init_64 : decode cX7_init 64 = .ok (.aload_n 0, 1) := DX7_init_3.2.2.1
theorem dX7_init_65 : decode cX7_init 65 = .ok (.getfield 19, 3) := DX7_init_3.2.2.2.1
theorem dX7_init_68 : decode cX7_init 68 = .ok (.iload_n 1, 1) := DX7_init_3.2.2.2.2.1
theorem dX7_init_69 : decode cX7_init 69 = .ok (.new 9, 3) := DX7_init_3.2.2.2.2.2.1
theorem dX7_init_72 : decode cX7_init 72 = .ok (.dup, 1) := DX7_init_3.2.2.2.2.2.2.1
theorem dX7_init_73 : decode cX7_init 73 = .ok (.invokespecial 11, 3) := DX7_init_3.2.2.2.2.2.2.2.1
theorem dX7_init_76 : decode cX7_init 76 = .ok (.aastore, 1) := DX7_init_3.2.2.2.2.2.2.2.2.1
theorem dX7_init_77 : decode cX7_init 77 = .ok (.iinc 1 1, 3) := DX7_init_3.2.2.2.2.2.2.2.2.2
set_option maxRecDepth 100000 in
theorem DX7_init_4 : decode cX7_init 80 = .ok (.goto (-25), 3) ∧ decode cX7_init 83 = .ok (.iconst 0, 1) ∧ decode cX7_init 84 = .ok (.istore_n 1, 1) ∧ decode cX7_init 85 = .ok (.iload_n 1, 1) ∧ decode cX7_init 86 = .ok (.aload_n 0, 1) ∧ decode cX7_init 87 = .ok (.getfield 25, 3) ∧ decode cX7_init 90 = .ok (.arraylength, 1) ∧ decode cX7_init 91 = .ok (.if_icmp .ge 22, 3) ∧ decode cX7_init 94 = .ok (.aload_n 0, 1) ∧ decode cX7_init 95 = .ok (.getfield 25, 3) := by decide +kernel
theorem dX7_init_80 : decode cX7_init 80 = .ok (.goto (-25), 3) := DX7_init_4.1
theorem dX7_init_83 : decode cX7_init 83 = .ok (.iconst 0, 1) := DX7_init_4.2.1
theorem dX7_init_84 : decode cX7_init 84 = .ok (.istore_n 1, 1) := DX7_init_4.2.2.1
theorem dX7_init_85 : decode cX7_init 85 = .ok (.iload_n 1, 1) := DX7_init_4.2.2.2.1
theorem dX7_init_86 : decode cX7_init 86 = .ok (.aload_n 0, 1) := DX7_init_4.2.2.2.2.1
theorem dX7_init_87 : decode cX7_init 87 = .ok (.getfield 25, 3) := DX7_init_4.2.2.2.2.2.1
theorem dX7_init_90 : decode cX7_init 90 = .ok (.arraylength, 1) := DX7_init_4.2.2.2.2.2.2.1
theorem dX7_init_91 : decode cX7_init 91 = .ok (.if_icmp .ge 22, 3) := DX7_init_4.2.2.2.2.2.2.2.1
theorem dX7_init_94 : decode cX7_init 94 = .ok (.aload_n 0, 1) := DX7_init_4.2.2.2.2.2.2.2.2.1
theorem dX7_init_95 : decode cX7_init 95 = .ok (.getfield 25, 3) := DX7_init_4.2.2.2.2.2.2.2.2.2
set_option maxRecDepth 100000 in
theorem DX7_init_5 : decode cX7_init 98 = .ok (.iload_n 1, 1) ∧ decode cX7_init 99 = .ok (.new 23, 3) ∧ decode cX7_init 102 = .ok (.dup, 1) ∧ decode cX7_init 103 = .ok (.invokespecial 36, 3) ∧ decode cX7_init 106 = .ok (.aastore, 1) ∧ decode cX7_init 107 = .ok (.iinc 1 1, 3) ∧ decode cX7_init 110 = .ok (.goto (-25), 3) ∧ decode cX7_init 113 = .ok (.return_, 1) := by decide +kernel
theorem dX7_init_98 : decode cX7_init 98 = .ok (.iload_n 1, 1) := DX7_init_5.1
theorem dX7_init_99 : decode cX7_init 99 = .ok (.new 23, 3) := DX7_init_5.2.1
theorem dX7_init_102 : decode cX7_init 102 = .ok (.dup, 1) := DX7_init_5.2.2.1
theorem dX7_init_103 : decode cX7_init 103 = .ok (.invokespecial 36, 3) := DX7_init_5.2.2.2.1
theorem dX7_init_106 : decode cX7_init 106 = .ok (.aastore, 1) := DX7_init_5.2.2.2.2.1
theorem dX7_init_107 : decode cX7_init 107 = .ok (.iinc 1 1, 3) := DX7_init_5.2.2.2.2.2.1
theorem dX7_init_110 : decode cX7_init 110 = .ok (.goto (-25), 3) := DX7_init_5.2.2.2.2.2.2.1
theorem dX7_init_113 : decode cX7_init 113 = .ok (.return_, 1) := DX7_init_5.2.2.2.2.2.2.2
set_option maxRecDepth 100000 in
theorem DX7_setSource_0 : decode cX7_setSource 0 = .ok (.iload_n 1, 1) ∧ decode cX7_setSource 1 = .ok (.invokestatic 37, 3) ∧ decode cX7_setSource 4 = .ok (.iload_n 2, 1) ∧ decode cX7_setSource 5 = .ok (.iconst 0, 1) ∧ decode cX7_setSource 6 = .ok (.iconst 3, 1) ∧ decode cX7_setSource 7 = .ok (.invokestatic 41, 3) ∧ decode cX7_setSource 10 = .ok (.ifCond .ne 38, 3) ∧ decode cX7_setSource 13 = .ok (.iload_n 3, 1) ∧ decode cX7_setSource 14 = .ok (.iconst 0, 1) ∧ decode cX7_setSource 15 = .ok (.sipush 10000, 3) := by decide +kernel
theorem dX7_setSource_0 : decode cX7_setSource 0 = .ok (.iload_n 1, 1) := DX7_setSource_0.1
theorem dX7_setSource_1 : decode cX7_setSource 1 = .ok (.invokestatic 37, 3) := DX7_setSource_0.2.1
theorem dX7_setSource_4 : decode cX7_setSource 4 = .ok (.iload_n 2, 1) := DX7_setSource_0.2.2.1
theorem dX7_setSource_5 : decode cX7_setSource 5 = .ok (.iconst 0, 1) := DX7_setSource_0.2.2.2.1
theorem dX7_setSource_6 : decode cX7_setSource 6 = .ok (.iconst 3, 1) := DX7_setSource_0.2.2.2.2.1
theorem dX7_setSource_7 : decode cX7_setSource 7 = .ok (.invokestatic 41, 3) := DX7_setSource_0.2.2.2.2.2.1
theorem dX7_setSource_10 : decode cX7_setSource 10 = .ok (.ifCond .ne 38, 3) := DX7_setSource_0.2.2.2.2.2.2.1
theorem dX7_setSource_13 : decode cX7_setSource 13 = .ok (.iload_n 3, 1) := DX7_setSource_0.2.2.2.2.2.2.2.1
theorem dX7_setSource_14 : decode cX7_setSource 14 = .ok (.iconst 0, 1) := DX7_setSource_0.2.2.2.2.2.2.2.2.1
theorem dX7_setSource_15 : decode cX7_setSource 15 = .ok (.sipush 10000, 3) := DX7_setSource_0.2.2.2.2.2.2.2.2.2
set_option maxRecDepth 100000 in
theorem DX7_setSource_1 : decode cX7_setSource 18 = .ok (.invokestatic 41, 3) ∧ decode cX7_setSource 21 = .ok (.ifCond .ne 27, 3) ∧ decode cX7_setSource 24 = .ok (.iload 4, 2) ∧ decode cX7_setSource 26 = .ok (.iconst 1, 1) ∧ decode cX7_setSource 27 = .ok (.sipush 1000, 3) ∧ decode cX7_setSource 30 = .ok (.invokestatic 41, 3) ∧ decode cX7_setSource 33 = .ok (.ifCond .ne 15, 3) ∧ decode cX7_setSource 36 = .ok (.iload 5, 2) ∧ decode cX7_setSource 38 = .ok (.iconst 1, 1) ∧ decode cX7_setSource 39 = .ok (.sipush 4000, 3) := by decide +kernel
theorem dX7_setSource_18 : decode cX7_setSource 18 = .ok (.invokestatic 41, 3) := DX7_setSource_1.1
theorem dX7_setSource_21 : decode cX7_setSource 21 = .ok (.ifCond .ne 27, 3) := DX7_setSource_1.2.1
theorem dX7_setSource_24 : decode cX7_setSource 24 = .ok (.iload 4, 2) := DX7_setSource_1.2.2.1
theorem dX7_setSource_26 : decode cX7_setSource 26 = .ok (.iconst 1, 1) := DX7_setSource_1.2.2.2.1
theorem dX7_setSource_27 : decode cX7_setSource 27 = .ok (.sipush 1000, 3) := DX7_setSource_1.2.2.2.2.1
theorem dX7_setSource_30 : decode cX7_setSource 30 = .ok (.invokestatic 41, 3) := DX7_setSource_1.2.2.2.2.2.1
theorem dX7_setSource_33 : decode cX7_setSource 33 = .ok (.ifCond .ne 15, 3) := DX7_setSource_1.2.2.2.2.2.2.1
theorem dX7_setSource_36 : decode cX7_setSource 36 = .ok (.iload 5, 2) := DX7_setSource_1.2.2.2.2.2.2.2.1
theorem dX7_setSource_38 : decode cX7_setSource 38 = .ok (.iconst 1, 1) := DX7_setSource_1.2.2.2.2.2.2.2.2.1
theorem dX7_setSource_39 : decode cX7_setSource 39 = .ok (.sipush 4000, 3) := DX7_setSource_1.2.2.2.2.2.2.2.2.2
set_option maxRecDepth 100000 in
theorem DX7_setSource_2 : decode cX7_setSource 42 = .ok (.invokestatic 41, 3) ∧ decode cX7_setSource 45 = .ok (.ifCond .eq 13, 3) ∧ decode cX7_setSource 48 = .ok (.new 45, 3) ∧ decode cX7_setSource 51 = .ok (.dup, 1) ∧ decode cX7_setSource 52 = .ok (.ldc 47, 2) ∧ decode cX7_setSource 54 = .ok (.invokespecial 49, 3) ∧ decode cX7_setSource 57 = .ok (.athrow, 1) ∧ decode cX7_setSource 58 = .ok (.aload_n 0, 1) ∧ decode cX7_setSource 59 = .ok (.getfield 12, 3) ∧ decode cX7_setSource 62 = .ok (.getfield 52, 3) := by decide +kernel
theorem dX7_setSource_42 : decode cX7_setSource 42 = .ok (.invokestatic 41, 3) := DX7_setSource_2.1
theorem dX7_setSource_45 : decode cX7_setSource 45 = .ok (.ifCond .eq 13, 3) := DX7_setSource_2.2.1
theorem dX7_setSource_48 : decode cX7_setSource 48 = .ok (.new 45, 3) := DX7_setSource_2.2.2.1
theorem dX7_setSource_51 : decode cX7_setSource 51 = .ok (.dup, 1) := DX7_setSource_2.2.2.2.1
theorem dX7_setSource_52 : decode cX7_setSource 52 = .ok (.ldc 47, 2) := DX7_setSource_2.2.2.2.2.1
theorem dX7_setSource_54 : decode cX7_setSource 54 = .ok (.invokespecial 49, 3) := DX7_setSource_2.2.2.2.2.2.1
theorem dX7_setSource_57 : decode cX7_setSource 57 = .ok (.athrow, 1) := DX7_setSource_2.2.2.2.2.2.2.1
theorem dX7_setSource_58 : decode cX7_setSource 58 = .ok (.aload_n 0, 1) := DX7_setSource_2.2.2.2.2.2.2.2.1
theorem dX7_setSource_59 : decode cX7_setSource 59 = .ok (.getfield 12, 3) := DX7_setSource_2.2.2.2.2.2.2.2.2.1
theorem dX7_setSource_62 : decode cX7_setSource 62 = .ok (.getfield 52, 3) := DX7_setSource_2.2.2.2.2.2.2.2.2.2
set_option maxRecDepth 100000 in
theorem DX7_setSource_3 : decode cX7_setSource 65 = .ok (.iload_n 1, 1) ∧ decode cX7_setSource 66 = .ok (.aaload, 1) ∧ decode cX7_setSource 67 = .ok (.getfield 56, 3) ∧ decode cX7_setSource 70 = .ok (.istore 6, 2) ∧ decode cX7_setSource 72 = .ok (.aload_n 0, 1) ∧ decode cX7_setSource 73 = .ok (.invokevirtual 62, 3) ∧ decode cX7_setSource 76 = .ok (.getfield 52, 3) ∧ decode cX7_setSource 79 = .ok (.iload_n 1, 1) ∧ decode cX7_setSource 80 = .ok (.aaload, 1) ∧ decode cX7_setSource 81 = .ok (.iload_n 2, 1) := by decide +kernel
theorem dX7_setSource_65 : decode cX7_setSource 65 = .ok (.iload_n 1, 1) := DX7_setSource_3.1
theorem dX7_setSource_66 : decode cX7_setSource 66 = .ok (.aaload, 1) := DX7_setSource_3.2.1
theorem dX7_setSource_67 : decode cX7_setSource 67 = .ok (.getfield 56, 3) := DX7_setSource_3.2.2.1
theorem dX7_setSource_70 : decode cX7_setSource 70 = .ok (.istore 6, 2) := DX7_setSource_3.2.2.2.1
theorem dX7_setSource_72 : decode cX7_setSource 72 = .ok (.aload_n 0, 1) := DX7_setSource_3.2.2.2.2.1
theorem dX7_setSource_73 : decode cX7_setSource 73 = .ok (.invokevirtual 62, 3) := DX7_setSource_3.2.2.2.2.2.1
theorem dX7_setSource_76 : decode cX7_setSource 76 = .ok (.getfield 52, 3) := DX7_setSource_3.2.2.2.2.2.2.1
theorem dX7_setSource_79 : decode cX7_setSource 79 = .ok (.iload_n 1, 1) := DX7_setSource_3.2.2.2.2.2.2.2.1
theorem dX7_setSource_80 : decode cX7_setSource 80 = .ok (.aaload, 1) := DX7_setSource_3.2.2.2.2.2.2.2.2.1
theorem dX7_setSource_81 : decode cX7_setSource 81 = .ok (.iload_n 2, 1) := DX7_setSource_3.2.2.2.2.2.2.2.2.2
set_option maxRecDepth 100000 in
theorem DX7_setSource_4 : decode cX7_setSource 82 = .ok (.iload_n 3, 1) ∧ decode cX7_setSource 83 = .ok (.iload 4, 2) ∧ decode cX7_setSource 85 = .ok (.iload 5, 2) ∧ decode cX7_setSource 87 = .ok (.invokevirtual 66, 3) ∧ decode cX7_setSource 90 = .ok (.aload_n 0, 1) ∧ decode cX7_setSource 91 = .ok (.invokevirtual 70, 3) ∧ decode cX7_setSource 94 = .ok (.iload 6, 2) ∧ decode cX7_setSource 96 = .ok (.ireturn, 1) := by decide +kernel
theorem dX7_setSource_82 : decode cX7_setSource 82 = .ok (.iload_n 3, 1) := DX7_setSource_4.1
theorem dX7_setSource_83 : decode cX7_setSource 83 = .ok (.iload 4, 2) := DX7_setSource_4.2.1
theorem dX7_setSource_85 : decode cX7_setSource 85 = .ok (.iload 5, 2) := DX7_setSource_4.2.2.1
theorem dX7_setSource_87 : decode cX7_setSource 87 = .ok (.invokevirtual 66, 3) := DX7_setSource_4.2.2.2.1
theorem dX7_setSource_90 : decode cX7_setSource 90 = .ok (.aload_n 0, 1) := DX7_setSource_4.2.2.2.2.1
theorem dX7_setSource_91 : decode cX7_setSource 91 = .ok (.invokevirtual 70, 3) := DX7_setSource_4.2.2.2.2.2.1
theorem dX7_setSource_94 : decode cX7_setSource 94 = .ok (.iload 6, 2) := DX7_setSource_4.2.2.2.2.2.2.1
theorem dX7_setSource_96 : decode cX7_setSource 96 = .ok (.ireturn, 1) := DX7_setSource_4.2.2.2.2.2.2.2
set_option maxRecDepth 100000 in
theorem DX7_sample_0 : decode cX7_sample 0 = .ok (.iload_n 1, 1) ∧ decode cX7_sample 1 = .ok (.invokestatic 37, 3) ∧ decode cX7_sample 4 = .ok (.iload_n 2, 1) ∧ decode cX7_sample 5 = .ok (.iconst 0, 1) ∧ decode cX7_sample 6 = .ok (.aload_n 0, 1) ∧ decode cX7_sample 7 = .ok (.getfield 12, 3) ∧ decode cX7_sample 10 = .ok (.getfield 52, 3) ∧ decode cX7_sample 13 = .ok (.iload_n 1, 1) ∧ decode cX7_sample 14 = .ok (.aaload, 1) ∧ decode cX7_sample 15 = .ok (.getfield 56, 3) := by decide +kernel
theorem dX7_sample_0 : decode cX7_sample 0 = .ok (.iload_n 1, 1) := DX7_sample_0.1
theorem dX7_sample_1 : decode cX7_sample 1 = .ok (.invokestatic 37, 3) := DX7_sample_0.2.1
theorem dX7_sample_4 : decode cX7_sample 4 = .ok (.iload_n 2, 1) := DX7_sample_0.2.2.1
theorem dX7_sample_5 : decode cX7_sample 5 = .ok (.iconst 0, 1) := DX7_sample_0.2.2.2.1
theorem dX7_sample_6 : decode cX7_sample 6 = .ok (.aload_n 0, 1) := DX7_sample_0.2.2.2.2.1
theorem dX7_sample_7 : decode cX7_sample 7 = .ok (.getfield 12, 3) := DX7_sample_0.2.2.2.2.2.1
theorem dX7_sample_10 : decode cX7_sample 10 = .ok (.getfield 52, 3) := DX7_sample_0.2.2.2.2.2.2.1
theorem dX7_sample_13 : decode cX7_sample 13 = .ok (.iload_n 1, 1) := DX7_sample_0.2.2.2.2.2.2.2.1
theorem dX7_sample_14 : decode cX7_sample 14 = .ok (.aaload, 1) := DX7_sample_0.2.2.2.2.2.2.2.2.1
theorem dX7_sample_15 : decode cX7_sample 15 = .ok (.getfield 56, 3) := DX7_sample_0.2.2.2.2.2.2.2.2.2
set_option maxRecDepth 100000 in
theorem DX7_sample_1 : decode cX7_sample 18 = .ok (.iconst 1, 1) ∧ decode cX7_sample 19 = .ok (.isub, 1) ∧ decode cX7_sample 20 = .ok (.invokestatic 41, 3) ∧ decode cX7_sample 23 = .ok (.ifCond .eq 13, 3) ∧ decode cX7_sample 26 = .ok (.new 73, 3) ∧ decode cX7_sample 29 = .ok (.dup, 1) ∧ decode cX7_sample 30 = .ok (.ldc 75, 2) ∧ decode cX7_sample 32 = .ok (.invokespecial 77, 3) ∧ decode cX7_sample 35 = .ok (.athrow, 1) ∧ decode cX7_sample 36 = .ok (.aload_n 0, 1) := by decide +kernel
theorem dX7_sample_18 : decode cX7_sample 18 = .ok (.iconst 1, 1) := DX7_sample_1.1
theorem dX7_sample_19 : decode cX7_sample 19 = .ok (.isub, 1) := DX7_sample_1.2.1
theorem dX7_sample_20 : decode cX7_sample 20 = .ok (.invokestatic 41, 3) := DX7_sample_1.2.2.1
theorem dX7_sample_23 : decode cX7_sample 23 = .ok (.ifCond .eq 13, 3) := DX7_sample_1.2.2.2.1
theorem dX7_sample_26 : decode cX7_sample 26 = .ok (.new 73, 3) := DX7_sample_1.2.2.2.2.1
theorem dX7_sample_29 : decode cX7_sample 29 = .ok (.dup, 1) := DX7_sample_1.2.2.2.2.2.1
theorem dX7_sample_30 : decode cX7_sample 30 = .ok (.ldc 75, 2) := DX7_sample_1.2.2.2.2.2.2.1
theorem dX7_sample_32 : decode cX7_sample 32 = .ok (.invokespecial 77, 3) := DX7_sample_1.2.2.2.2.2.2.2.1
theorem dX7_sample_35 : decode cX7_sample 35 = .ok (.athrow, 1) := DX7_sample_1.2.2.2.2.2.2.2.2.1
theorem dX7_sample_36 : decode cX7_sample 36 = .ok (.aload_n 0, 1) := DX7_sample_1.2.2.2.2.2.2.2.2.2
set_option maxRecDepth 100000 in
theorem DX7_sample_2 : decode cX7_sample 37 = .ok (.getfield 12, 3) ∧ decode cX7_sample 40 = .ok (.getfield 52, 3) ∧ decode cX7_sample 43 = .ok (.iload_n 1, 1) ∧ decode cX7_sample 44 = .ok (.aaload, 1) ∧ decode cX7_sample 45 = .ok (.iload_n 2, 1) ∧ decode cX7_sample 46 = .ok (.invokevirtual 78, 3) ∧ decode cX7_sample 49 = .ok (.ireturn, 1) := by decide +kernel
theorem dX7_sample_37 : decode cX7_sample 37 = .ok (.getfield 12, 3) := DX7_sample_2.1
theorem dX7_sample_40 : decode cX7_sample 40 = .ok (.getfield 52, 3) := DX7_sample_2.2.1
theorem dX7_sample_43 : decode cX7_sample 43 = .ok (.iload_n 1, 1) := DX7_sample_2.2.2.1
theorem dX7_sample_44 : decode cX7_sample 44 = .ok (.aaload, 1) := DX7_sample_2.2.2.2.1
theorem dX7_sample_45 : decode cX7_sample 45 = .ok (.iload_n 2, 1) := DX7_sample_2.2.2.2.2.1
theorem dX7_sample_46 : decode cX7_sample 46 = .ok (.invokevirtual 78, 3) := DX7_sample_2.2.2.2.2.2.1
theorem dX7_sample_49 : decode cX7_sample 49 = .ok (.ireturn, 1) := DX7_sample_2.2.2.2.2.2.2
set_option maxRecDepth 100000 in
theorem DX7_addClip_0 : decode cX7_addClip 0 = .ok (.iload_n 1, 1) ∧ decode cX7_addClip 1 = .ok (.iconst 0, 1) ∧ decode cX7_addClip 2 = .ok (.iconst 3, 1) ∧ decode cX7_addClip 3 = .ok (.invokestatic 41, 3) ∧ decode cX7_addClip 6 = .ok (.ifCond .ne 61, 3) ∧ decode cX7_addClip 9 = .ok (.iload_n 2, 1) ∧ decode cX7_addClip 10 = .ok (.iconst 0, 1) ∧ decode cX7_addClip 11 = .ok (.iconst 5, 1) ∧ decode cX7_addClip 12 = .ok (.invokestatic 41, 3) ∧ decode cX7_addClip 15 = .ok (.ifCond .ne 52, 3) := by decide +kernel
theorem dX7_addClip_0 : decode cX7_addClip 0 = .ok (.iload_n 1, 1) := DX7_addClip_0.1
theorem dX7_addClip_1 : decode cX7_addClip 1 = .ok (.iconst 0, 1) := DX7_addClip_0.2.1
theorem dX7_addClip_2 : decode cX7_addClip 2 = .ok (.iconst 3, 1) := DX7_addClip_0.2.2.1
theorem dX7_addClip_3 : decode cX7_addClip 3 = .ok (.invokestatic 41, 3) := DX7_addClip_0.2.2.2.1
theorem dX7_addClip_6 : decode cX7_addClip 6 = .ok (.ifCond .ne 61, 3) := DX7_addClip_0.2.2.2.2.1
theorem dX7_addClip_9 : decode cX7_addClip 9 = .ok (.iload_n 2, 1) := DX7_addClip_0.2.2.2.2.2.1
theorem dX7_addClip_10 : decode cX7_addClip 10 = .ok (.iconst 0, 1) := DX7_addClip_0.2.2.2.2.2.2.1
theorem dX7_addClip_11 : decode cX7_addClip 11 = .ok (.iconst 5, 1) := DX7_addClip_0.2.2.2.2.2.2.2.1
theorem dX7_addClip_12 : decode cX7_addClip 12 = .ok (.invokestatic 41, 3) := DX7_addClip_0.2.2.2.2.2.2.2.2.1
theorem dX7_addClip_15 : decode cX7_addClip 15 = .ok (.ifCond .ne 52, 3) := DX7_addClip_0.2.2.2.2.2.2.2.2.2
set_option maxRecDepth 100000 in
theorem DX7_addClip_1 : decode cX7_addClip 18 = .ok (.iload_n 3, 1) ∧ decode cX7_addClip 19 = .ok (.iconst 0, 1) ∧ decode cX7_addClip 20 = .ok (.sipush 3999, 3) ∧ decode cX7_addClip 23 = .ok (.invokestatic 41, 3) ∧ decode cX7_addClip 26 = .ok (.ifCond .ne 41, 3) ∧ decode cX7_addClip 29 = .ok (.iload 4, 2) ∧ decode cX7_addClip 31 = .ok (.iconst 0, 1) ∧ decode cX7_addClip 32 = .ok (.sipush 3999, 3) ∧ decode cX7_addClip 35 = .ok (.invokestatic 41, 3) ∧ decode cX7_addClip 38 = .ok (.ifCond .ne 29, 3) := by decide +kernel
theorem dX7_addClip_18 : decode cX7_addClip 18 = .ok (.iload_n 3, 1) := DX7_addClip_1.1
theorem dX7_addClip_19 : decode cX7_addClip 19 = .ok (.iconst 0, 1) := DX7_addClip_1.2.1
theorem dX7_addClip_20 : decode cX7_addClip 20 = .ok (.sipush 3999, 3) := DX7_addClip_1.2.2.1
theorem dX7_addClip_23 : decode cX7_addClip 23 = .ok (.invokestatic 41, 3) := DX7_addClip_1.2.2.2.1
theorem dX7_addClip_26 : decode cX7_addClip 26 = .ok (.ifCond .ne 41, 3) := DX7_addClip_1.2.2.2.2.1
theorem dX7_addClip_29 : decode cX7_addClip 29 = .ok (.iload 4, 2) := DX7_addClip_1.2.2.2.2.2.1
theorem dX7_addClip_31 : decode cX7_addClip 31 = .ok (.iconst 0, 1) := DX7_addClip_1.2.2.2.2.2.2.1
theorem dX7_addClip_32 : decode cX7_addClip 32 = .ok (.sipush 3999, 3) := DX7_addClip_1.2.2.2.2.2.2.2.1
theorem dX7_addClip_35 : decode cX7_addClip 35 = .ok (.invokestatic 41, 3) := DX7_addClip_1.2.2.2.2.2.2.2.2.1
theorem dX7_addClip_38 : decode cX7_addClip 38 = .ok (.ifCond .ne 29, 3) := DX7_addClip_1.2.2.2.2.2.2.2.2.2
set_option maxRecDepth 100000 in
theorem DX7_addClip_2 : decode cX7_addClip 41 = .ok (.iload 5, 2) ∧ decode cX7_addClip 43 = .ok (.iconst 1, 1) ∧ decode cX7_addClip 44 = .ok (.sipush 4000, 3) ∧ decode cX7_addClip 47 = .ok (.iload_n 3, 1) ∧ decode cX7_addClip 48 = .ok (.isub, 1) ∧ decode cX7_addClip 49 = .ok (.invokestatic 41, 3) ∧ decode cX7_addClip 52 = .ok (.ifCond .ne 15, 3) ∧ decode cX7_addClip 55 = .ok (.iload 6, 2) ∧ decode cX7_addClip 57 = .ok (.iconst 0, 1) ∧ decode cX7_addClip 58 = .ok (.sipush 2000, 3) := by decide +kernel
theorem dX7_addClip_41 : decode cX7_addClip 41 = .ok (.iload 5, 2) := DX7_addClip_2.1
theorem dX7_addClip_43 : decode cX7_addClip 43 = .ok (.iconst 1, 1) := DX7_addClip_2.2.1
theorem dX7_addClip_44 : decode cX7_addClip 44 = .ok (.sipush 4000, 3) := DX7_addClip_2.2.2.1
theorem dX7_addClip_47 : decode cX7_addClip 47 = .ok (.iload_n 3, 1) := DX7_addClip_2.2.2.2.1
theorem dX7_addClip_48 : decode cX7_addClip 48 = .ok (.isub, 1) := DX7_addClip_2.2.2.2.2.1
theorem dX7_addClip_49 : decode cX7_addClip 49 = .ok (.invokestatic 41, 3) := DX7_addClip_2.2.2.2.2.2.1
theorem dX7_addClip_52 : decode cX7_addClip 52 = .ok (.ifCond .ne 15, 3) := DX7_addClip_2.2.2.2.2.2.2.1
theorem dX7_addClip_55 : decode cX7_addClip 55 = .ok (.iload 6, 2) := DX7_addClip_2.2.2.2.2.2.2.2.1
theorem dX7_addClip_57 : decode cX7_addClip 57 = .ok (.iconst 0, 1) := DX7_addClip_2.2.2.2.2.2.2.2.2.1
theorem dX7_addClip_58 : decode cX7_addClip 58 = .ok (.sipush 2000, 3) := DX7_addClip_2.2.2.2.2.2.2.2.2.2
set_option maxRecDepth 100000 in
theorem DX7_addClip_3 : decode cX7_addClip 61 = .ok (.invokestatic 41, 3) ∧ decode cX7_addClip 64 = .ok (.ifCond .eq 13, 3) ∧ decode cX7_addClip 67 = .ok (.new 45, 3) ∧ decode cX7_addClip 70 = .ok (.dup, 1) ∧ decode cX7_addClip 71 = .ok (.ldc 82, 2) ∧ decode cX7_addClip 73 = .ok (.invokespecial 49, 3) ∧ decode cX7_addClip 76 = .ok (.athrow, 1) ∧ decode cX7_addClip 77 = .ok (.aload_n 0, 1) ∧ decode cX7_addClip 78 = .ok (.invokevirtual 84, 3) ∧ decode cX7_addClip 81 = .ok (.aload_n 0, 1) := by decide +kernel
theorem dX7_addClip_61 : decode cX7_addClip 61 = .ok (.invokestatic 41, 3) := DX7_addClip_3.1
theorem dX7_addClip_64 : decode cX7_addClip 64 = .ok (.ifCond .eq 13, 3) := DX7_addClip_3.2.1
theorem dX7_addClip_67 : decode cX7_addClip 67 = .ok (.new 45, 3) := DX7_addClip_3.2.2.1
theorem dX7_addClip_70 : decode cX7_addClip 70 = .ok (.dup, 1) := DX7_addClip_3.2.2.2.1
theorem dX7_addClip_71 : decode cX7_addClip 71 = .ok (.ldc 82, 2) := DX7_addClip_3.2.2.2.2.1
theorem dX7_addClip_73 : decode cX7_addClip 73 = .ok (.invokespecial 49, 3) := DX7_addClip_3.2.2.2.2.2.1
theorem dX7_addClip_76 : decode cX7_addClip 76 = .ok (.athrow, 1) := DX7_addClip_3.2.2.2.2.2.2.1
theorem dX7_addClip_77 : decode cX7_addClip 77 = .ok (.aload_n 0, 1) := DX7_addClip_3.2.2.2.2.2.2.2.1
theorem dX7_addClip_78 : decode cX7_addClip 78 = .ok (.invokevirtual 84, 3) := DX7_addClip_3.2.2.2.2.2.2.2.2.1
theorem dX7_addClip_81 : decode cX7_addClip 81 = .ok (.aload_n 0, 1) := DX7_addClip_3.2.2.2.2.2.2.2.2.2
set_option maxRecDepth 100000 in
theorem DX7_addClip_4 : decode cX7_addClip 82 = .ok (.invokevirtual 62, 3) ∧ decode cX7_addClip 85 = .ok (.astore 7, 2) ∧ decode cX7_addClip 87 = .ok (.aload 7, 2) ∧ decode cX7_addClip 89 = .ok (.iload_n 1, 1) ∧ decode cX7_addClip 90 = .ok (.iload_n 2, 1) ∧ decode cX7_addClip 91 = .ok (.iload_n 3, 1) ∧ decode cX7_addClip 92 = .ok (.iload 4, 2) ∧ decode cX7_addClip 94 = .ok (.iload 5, 2) ∧ decode cX7_addClip 96 = .ok (.iload 6, 2) ∧ decode cX7_addClip 98 = .ok (.invokevirtual 87, 3) := by decide +kernel
theorem dX7_addClip_82 : decode cX7_addClip 82 = .ok (.invokevirtual 62, 3) := DX7_addClip_4.1
theorem dX7_addClip_85 : decode cX7_addClip 85 = .ok (.astore 7, 2) := DX7_addClip_4.2.1
theorem dX7_addClip_87 : decode cX7_addClip 87 = .ok (.aload 7, 2) := DX7_addClip_4.2.2.1
theorem dX7_addClip_89 : decode cX7_addClip 89 = .ok (.iload_n 1, 1) := DX7_addClip_4.2.2.2.1
theorem dX7_addClip_90 : decode cX7_addClip 90 = .ok (.iload_n 2, 1) := DX7_addClip_4.2.2.2.2.1
theorem dX7_addClip_91 : decode cX7_addClip 91 = .ok (.iload_n 3, 1) := DX7_addClip_4.2.2.2.2.2.1
theorem dX7_addClip_92 : decode cX7_addClip 92 = .ok (.iload 4, 2) := DX7_addClip_4.2.2.2.2.2.2.1
theorem dX7_addClip_94 : decode cX7_addClip 94 = .ok (.iload 5, 2) := DX7_addClip_4.2.2.2.2.2.2.2.1
theorem dX7_addClip_96 : decode cX7_addClip 96 = .ok (.iload 6, 2) := DX7_addClip_4.2.2.2.2.2.2.2.2.1
theorem dX7_addClip_98 : decode cX7_addClip 98 = .ok (.invokevirtual 87, 3) := DX7_addClip_4.2.2.2.2.2.2.2.2.2
set_option maxRecDepth 100000 in
theorem DX7_addClip_5 : decode cX7_addClip 101 = .ok (.istore 8, 2) ∧ decode cX7_addClip 103 = .ok (.aload 7, 2) ∧ decode cX7_addClip 105 = .ok (.invokestatic 91, 3) ∧ decode cX7_addClip 108 = .ok (.aload_n 0, 1) ∧ decode cX7_addClip 109 = .ok (.invokevirtual 70, 3) ∧ decode cX7_addClip 112 = .ok (.iload 8, 2) ∧ decode cX7_addClip 114 = .ok (.ireturn, 1) := by decide +kernel
theorem dX7_addClip_101 : decode cX7_addClip 101 = .ok (.istore 8, 2) := DX7_addClip_5.1
theorem dX7_addClip_103 : decode cX7_addClip 103 = .ok (.aload 7, 2) := DX7_addClip_5.2.1
theorem dX7_addClip_105 : decode cX7_addClip 105 = .ok (.invokestatic 91, 3) := DX7_addClip_5.2.2.1
theorem dX7_addClip_108 : decode cX7_addClip 108 = .ok (.aload_n 0, 1) := DX7_addClip_5.2.2.2.1
theorem dX7_addClip_109 : decode cX7_addClip 109 = .ok (.invokevirtual 70, 3) := DX7_addClip_5.2.2.2.2.1
theorem dX7_addClip_112 : decode cX7_addClip 112 = .ok (.iload 8, 2) := DX7_addClip_5.2.2.2.2.2.1
theorem dX7_addClip_114 : decode cX7_addClip 114 = .ok (.ireturn, 1) := DX7_addClip_5.2.2.2.2.2.2
set_option maxRecDepth 100000 in
theorem DX7_setFades_0 : decode cX7_setFades 0 = .ok (.aload_n 0, 1) ∧ decode cX7_setFades 1 = .ok (.iload_n 1, 1) ∧ decode cX7_setFades 2 = .ok (.invokevirtual 95, 3) ∧ decode cX7_setFades 5 = .ok (.iload_n 2, 1) ∧ decode cX7_setFades 6 = .ok (.iconst 0, 1) ∧ decode cX7_setFades 7 = .ok (.sipush 4000, 3) ∧ decode cX7_setFades 10 = .ok (.invokestatic 41, 3) ∧ decode cX7_setFades 13 = .ok (.ifCond .ne 24, 3) ∧ decode cX7_setFades 16 = .ok (.iload_n 3, 1) ∧ decode cX7_setFades 17 = .ok (.iconst 0, 1) := by decide +kernel
theorem dX7_setFades_0 : decode cX7_setFades 0 = .ok (.aload_n 0, 1) := DX7_setFades_0.1
theorem dX7_setFades_1 : decode cX7_setFades 1 = .ok (.iload_n 1, 1) := DX7_setFades_0.2.1
theorem dX7_setFades_2 : decode cX7_setFades 2 = .ok (.invokevirtual 95, 3) := DX7_setFades_0.2.2.1
theorem dX7_setFades_5 : decode cX7_setFades 5 = .ok (.iload_n 2, 1) := DX7_setFades_0.2.2.2.1
theorem dX7_setFades_6 : decode cX7_setFades 6 = .ok (.iconst 0, 1) := DX7_setFades_0.2.2.2.2.1
theorem dX7_setFades_7 : decode cX7_setFades 7 = .ok (.sipush 4000, 3) := DX7_setFades_0.2.2.2.2.2.1
theorem dX7_setFades_10 : decode cX7_setFades 10 = .ok (.invokestatic 41, 3) := DX7_setFades_0.2.2.2.2.2.2.1
theorem dX7_setFades_13 : decode cX7_setFades 13 = .ok (.ifCond .ne 24, 3) := DX7_setFades_0.2.2.2.2.2.2.2.1
theorem dX7_setFades_16 : decode cX7_setFades 16 = .ok (.iload_n 3, 1) := DX7_setFades_0.2.2.2.2.2.2.2.2.1
theorem dX7_setFades_17 : decode cX7_setFades 17 = .ok (.iconst 0, 1) := DX7_setFades_0.2.2.2.2.2.2.2.2.2
set_option maxRecDepth 100000 in
theorem DX7_setFades_1 : decode cX7_setFades 18 = .ok (.sipush 4000, 3) ∧ decode cX7_setFades 21 = .ok (.invokestatic 41, 3) ∧ decode cX7_setFades 24 = .ok (.ifCond .ne 13, 3) ∧ decode cX7_setFades 27 = .ok (.iload 4, 2) ∧ decode cX7_setFades 29 = .ok (.iconst 0, 1) ∧ decode cX7_setFades 30 = .ok (.iconst 1, 1) ∧ decode cX7_setFades 31 = .ok (.invokestatic 41, 3) ∧ decode cX7_setFades 34 = .ok (.ifCond .eq 13, 3) ∧ decode cX7_setFades 37 = .ok (.new 45, 3) ∧ decode cX7_setFades 40 = .ok (.dup, 1) := by decide +kernel
theorem dX7_setFades_18 : decode cX7_setFades 18 = .ok (.sipush 4000, 3) := DX7_setFades_1.1
theorem dX7_setFades_21 : decode cX7_setFades 21 = .ok (.invokestatic 41, 3) := DX7_setFades_1.2.1
theorem dX7_setFades_24 : decode cX7_setFades 24 = .ok (.ifCond .ne 13, 3) := DX7_setFades_1.2.2.1
theorem dX7_setFades_27 : decode cX7_setFades 27 = .ok (.iload 4, 2) := DX7_setFades_1.2.2.2.1
theorem dX7_setFades_29 : decode cX7_setFades 29 = .ok (.iconst 0, 1) := DX7_setFades_1.2.2.2.2.1
theorem dX7_setFades_30 : decode cX7_setFades 30 = .ok (.iconst 1, 1) := DX7_setFades_1.2.2.2.2.2.1
theorem dX7_setFades_31 : decode cX7_setFades 31 = .ok (.invokestatic 41, 3) := DX7_setFades_1.2.2.2.2.2.2.1
theorem dX7_setFades_34 : decode cX7_setFades 34 = .ok (.ifCond .eq 13, 3) := DX7_setFades_1.2.2.2.2.2.2.2.1
theorem dX7_setFades_37 : decode cX7_setFades 37 = .ok (.new 45, 3) := DX7_setFades_1.2.2.2.2.2.2.2.2.1
theorem dX7_setFades_40 : decode cX7_setFades 40 = .ok (.dup, 1) := DX7_setFades_1.2.2.2.2.2.2.2.2.2
set_option maxRecDepth 100000 in
theorem DX7_setFades_2 : decode cX7_setFades 41 = .ok (.ldc 98, 2) ∧ decode cX7_setFades 43 = .ok (.invokespecial 49, 3) ∧ decode cX7_setFades 46 = .ok (.athrow, 1) ∧ decode cX7_setFades 47 = .ok (.aload_n 0, 1) ∧ decode cX7_setFades 48 = .ok (.getfield 12, 3) ∧ decode cX7_setFades 51 = .ok (.getfield 100, 3) ∧ decode cX7_setFades 54 = .ok (.iload_n 1, 1) ∧ decode cX7_setFades 55 = .ok (.aaload, 1) ∧ decode cX7_setFades 56 = .ok (.getfield 104, 3) ∧ decode cX7_setFades 59 = .ok (.istore 5, 2) := by decide +kernel
theorem dX7_setFades_41 : decode cX7_setFades 41 = .ok (.ldc 98, 2) := DX7_setFades_2.1
theorem dX7_setFades_43 : decode cX7_setFades 43 = .ok (.invokespecial 49, 3) := DX7_setFades_2.2.1
theorem dX7_setFades_46 : decode cX7_setFades 46 = .ok (.athrow, 1) := DX7_setFades_2.2.2.1
theorem dX7_setFades_47 : decode cX7_setFades 47 = .ok (.aload_n 0, 1) := DX7_setFades_2.2.2.2.1
theorem dX7_setFades_48 : decode cX7_setFades 48 = .ok (.getfield 12, 3) := DX7_setFades_2.2.2.2.2.1
theorem dX7_setFades_51 : decode cX7_setFades 51 = .ok (.getfield 100, 3) := DX7_setFades_2.2.2.2.2.2.1
theorem dX7_setFades_54 : decode cX7_setFades 54 = .ok (.iload_n 1, 1) := DX7_setFades_2.2.2.2.2.2.2.1
theorem dX7_setFades_55 : decode cX7_setFades 55 = .ok (.aaload, 1) := DX7_setFades_2.2.2.2.2.2.2.2.1
theorem dX7_setFades_56 : decode cX7_setFades 56 = .ok (.getfield 104, 3) := DX7_setFades_2.2.2.2.2.2.2.2.2.1
theorem dX7_setFades_59 : decode cX7_setFades 59 = .ok (.istore 5, 2) := DX7_setFades_2.2.2.2.2.2.2.2.2.2
set_option maxRecDepth 100000 in
theorem DX7_setFades_3 : decode cX7_setFades 61 = .ok (.aload_n 0, 1) ∧ decode cX7_setFades 62 = .ok (.invokevirtual 62, 3) ∧ decode cX7_setFades 65 = .ok (.getfield 100, 3) ∧ decode cX7_setFades 68 = .ok (.iload_n 1, 1) ∧ decode cX7_setFades 69 = .ok (.aaload, 1) ∧ decode cX7_setFades 70 = .ok (.iload_n 2, 1) ∧ decode cX7_setFades 71 = .ok (.iload_n 3, 1) ∧ decode cX7_setFades 72 = .ok (.iload 4, 2) ∧ decode cX7_setFades 74 = .ok (.invokevirtual 109, 3) ∧ decode cX7_setFades 77 = .ok (.aload_n 0, 1) := by decide +kernel
theorem dX7_setFades_61 : decode cX7_setFades 61 = .ok (.aload_n 0, 1) := DX7_setFades_3.1
theorem dX7_setFades_62 : decode cX7_setFades 62 = .ok (.invokevirtual 62, 3) := DX7_setFades_3.2.1
theorem dX7_setFades_65 : decode cX7_setFades 65 = .ok (.getfield 100, 3) := DX7_setFades_3.2.2.1
theorem dX7_setFades_68 : decode cX7_setFades 68 = .ok (.iload_n 1, 1) := DX7_setFades_3.2.2.2.1
theorem dX7_setFades_69 : decode cX7_setFades 69 = .ok (.aaload, 1) := DX7_setFades_3.2.2.2.2.1
theorem dX7_setFades_70 : decode cX7_setFades 70 = .ok (.iload_n 2, 1) := DX7_setFades_3.2.2.2.2.2.1
theorem dX7_setFades_71 : decode cX7_setFades 71 = .ok (.iload_n 3, 1) := DX7_setFades_3.2.2.2.2.2.2.1
theorem dX7_setFades_72 : decode cX7_setFades 72 = .ok (.iload 4, 2) := DX7_setFades_3.2.2.2.2.2.2.2.1
theorem dX7_setFades_74 : decode cX7_setFades 74 = .ok (.invokevirtual 109, 3) := DX7_setFades_3.2.2.2.2.2.2.2.2.1
theorem dX7_setFades_77 : decode cX7_setFades 77 = .ok (.aload_n 0, 1) := DX7_setFades_3.2.2.2.2.2.2.2.2.2
set_option maxRecDepth 100000 in
theorem DX7_setFades_4 : decode cX7_setFades 78 = .ok (.invokevirtual 70, 3) ∧ decode cX7_setFades 81 = .ok (.iload 5, 2) ∧ decode cX7_setFades 83 = .ok (.ireturn, 1) := by decide +kernel
theorem dX7_setFades_78 : decode cX7_setFades 78 = .ok (.invokevirtual 70, 3) := DX7_setFades_4.1
theorem dX7_setFades_81 : decode cX7_setFades 81 = .ok (.iload 5, 2) := DX7_setFades_4.2.1
theorem dX7_setFades_83 : decode cX7_setFades 83 = .ok (.ireturn, 1) := DX7_setFades_4.2.2
set_option maxRecDepth 100000 in
theorem DX7_moveClip_0 : decode cX7_moveClip 0 = .ok (.aload_n 0, 1) ∧ decode cX7_moveClip 1 = .ok (.iload_n 1, 1) ∧ decode cX7_moveClip 2 = .ok (.invokevirtual 95, 3) ∧ decode cX7_moveClip 5 = .ok (.iload_n 2, 1) ∧ decode cX7_moveClip 6 = .ok (.iconst 0, 1) ∧ decode cX7_moveClip 7 = .ok (.sipush 4000, 3) ∧ decode cX7_moveClip 10 = .ok (.aload_n 0, 1) ∧ decode cX7_moveClip 11 = .ok (.getfield 12, 3) ∧ decode cX7_moveClip 14 = .ok (.getfield 100, 3) ∧ decode cX7_moveClip 17 = .ok (.iload_n 1, 1) := by decide +kernel
theorem dX7_moveClip_0 : decode cX7_moveClip 0 = .ok (.aload_n 0, 1) := DX7_moveClip_0.1
theorem dX7_moveClip_1 : decode cX7_moveClip 1 = .ok (.iload_n 1, 1) := DX7_moveClip_0.2.1
theorem dX7_moveClip_2 : decode cX7_moveClip 2 = .ok (.invokevirtual 95, 3) := DX7_moveClip_0.2.2.1
theorem dX7_moveClip_5 : decode cX7_moveClip 5 = .ok (.iload_n 2, 1) := DX7_moveClip_0.2.2.2.1
theorem dX7_moveClip_6 : decode cX7_moveClip 6 = .ok (.iconst 0, 1) := DX7_moveClip_0.2.2.2.2.1
theorem dX7_moveClip_7 : decode cX7_moveClip 7 = .ok (.sipush 4000, 3) := DX7_moveClip_0.2.2.2.2.2.1
theorem dX7_moveClip_10 : decode cX7_moveClip 10 = .ok (.aload_n 0, 1) := DX7_moveClip_0.2.2.2.2.2.2.1
theorem dX7_moveClip_11 : decode cX7_moveClip 11 = .ok (.getfield 12, 3) := DX7_moveClip_0.2.2.2.2.2.2.2.1
theorem dX7_moveClip_14 : decode cX7_moveClip 14 = .ok (.getfield 100, 3) := DX7_moveClip_0.2.2.2.2.2.2.2.2.1
theorem dX7_moveClip_17 : decode cX7_moveClip 17 = .ok (.iload_n 1, 1) := DX7_moveClip_0.2.2.2.2.2.2.2.2.2
set_option maxRecDepth 100000 in
theorem DX7_moveClip_1 : decode cX7_moveClip 18 = .ok (.aaload, 1) ∧ decode cX7_moveClip 19 = .ok (.getfield 113, 3) ∧ decode cX7_moveClip 22 = .ok (.isub, 1) ∧ decode cX7_moveClip 23 = .ok (.invokestatic 41, 3) ∧ decode cX7_moveClip 26 = .ok (.ifCond .eq 13, 3) ∧ decode cX7_moveClip 29 = .ok (.new 45, 3) ∧ decode cX7_moveClip 32 = .ok (.dup, 1) ∧ decode cX7_moveClip 33 = .ok (.ldc 114, 2) ∧ decode cX7_moveClip 35 = .ok (.invokespecial 49, 3) ∧ decode cX7_moveClip 38 = .ok (.athrow, 1) := by decide +kernel
theorem dX7_moveClip_18 : decode cX7_moveClip 18 = .ok (.aaload, 1) := DX7_moveClip_1.1
theorem dX7_moveClip_19 : decode cX7_moveClip 19 = .ok (.getfield 113, 3) := DX7_moveClip_1.2.1
theorem dX7_moveClip_22 : decode cX7_moveClip 22 = .ok (.isub, 1) := DX7_moveClip_1.2.2.1
theorem dX7_moveClip_23 : decode cX7_moveClip 23 = .ok (.invokestatic 41, 3) := DX7_moveClip_1.2.2.2.1
theorem dX7_moveClip_26 : decode cX7_moveClip 26 = .ok (.ifCond .eq 13, 3) := DX7_moveClip_1.2.2.2.2.1
theorem dX7_moveClip_29 : decode cX7_moveClip 29 = .ok (.new 45, 3) := DX7_moveClip_1.2.2.2.2.2.1
theorem dX7_moveClip_32 : decode cX7_moveClip 32 = .ok (.dup, 1) := DX7_moveClip_1.2.2.2.2.2.2.1
theorem dX7_moveClip_33 : decode cX7_moveClip 33 = .ok (.ldc 114, 2) := DX7_moveClip_1.2.2.2.2.2.2.2.1
theorem dX7_moveClip_35 : decode cX7_moveClip 35 = .ok (.invokespecial 49, 3) := DX7_moveClip_1.2.2.2.2.2.2.2.2.1
theorem dX7_moveClip_38 : decode cX7_moveClip 38 = .ok (.athrow, 1) := DX7_moveClip_1.2.2.2.2.2.2.2.2.2
set_option maxRecDepth 100000 in
theorem DX7_moveClip_2 : decode cX7_moveClip 39 = .ok (.aload_n 0, 1) ∧ decode cX7_moveClip 40 = .ok (.invokevirtual 62, 3) ∧ decode cX7_moveClip 43 = .ok (.astore_n 3, 1) ∧ decode cX7_moveClip 44 = .ok (.aload_n 3, 1) ∧ decode cX7_moveClip 45 = .ok (.getfield 100, 3) ∧ decode cX7_moveClip 48 = .ok (.iload_n 1, 1) ∧ decode cX7_moveClip 49 = .ok (.aaload, 1) ∧ decode cX7_moveClip 50 = .ok (.iload_n 2, 1) ∧ decode cX7_moveClip 51 = .ok (.putfield 116, 3) ∧ decode cX7_moveClip 54 = .ok (.aload_n 3, 1) := by decide +kernel
theorem dX7_moveClip_39 : decode cX7_moveClip 39 = .ok (.aload_n 0, 1) := DX7_moveClip_2.1
theorem dX7_moveClip_40 : decode cX7_moveClip 40 = .ok (.invokevirtual 62, 3) := DX7_moveClip_2.2.1
theorem dX7_moveClip_43 : decode cX7_moveClip 43 = .ok (.astore_n 3, 1) := DX7_moveClip_2.2.2.1
theorem dX7_moveClip_44 : decode cX7_moveClip 44 = .ok (.aload_n 3, 1) := DX7_moveClip_2.2.2.2.1
theorem dX7_moveClip_45 : decode cX7_moveClip 45 = .ok (.getfield 100, 3) := DX7_moveClip_2.2.2.2.2.1
theorem dX7_moveClip_48 : decode cX7_moveClip 48 = .ok (.iload_n 1, 1) := DX7_moveClip_2.2.2.2.2.2.1
theorem dX7_moveClip_49 : decode cX7_moveClip 49 = .ok (.aaload, 1) := DX7_moveClip_2.2.2.2.2.2.2.1
theorem dX7_moveClip_50 : decode cX7_moveClip 50 = .ok (.iload_n 2, 1) := DX7_moveClip_2.2.2.2.2.2.2.2.1
theorem dX7_moveClip_51 : decode cX7_moveClip 51 = .ok (.putfield 116, 3) := DX7_moveClip_2.2.2.2.2.2.2.2.2.1
theorem dX7_moveClip_54 : decode cX7_moveClip 54 = .ok (.aload_n 3, 1) := DX7_moveClip_2.2.2.2.2.2.2.2.2.2
set_option maxRecDepth 100000 in
theorem DX7_moveClip_3 : decode cX7_moveClip 55 = .ok (.iload_n 1, 1) ∧ decode cX7_moveClip 56 = .ok (.invokevirtual 119, 3) ∧ decode cX7_moveClip 59 = .ok (.istore 4, 2) ∧ decode cX7_moveClip 61 = .ok (.aload_n 3, 1) ∧ decode cX7_moveClip 62 = .ok (.invokestatic 91, 3) ∧ decode cX7_moveClip 65 = .ok (.aload_n 0, 1) ∧ decode cX7_moveClip 66 = .ok (.invokevirtual 70, 3) ∧ decode cX7_moveClip 69 = .ok (.iload 4, 2) ∧ decode cX7_moveClip 71 = .ok (.ireturn, 1) := by decide +kernel
theorem dX7_moveClip_55 : decode cX7_moveClip 55 = .ok (.iload_n 1, 1) := DX7_moveClip_3.1
theorem dX7_moveClip_56 : decode cX7_moveClip 56 = .ok (.invokevirtual 119, 3) := DX7_moveClip_3.2.1
theorem dX7_moveClip_59 : decode cX7_moveClip 59 = .ok (.istore 4, 2) := DX7_moveClip_3.2.2.1
theorem dX7_moveClip_61 : decode cX7_moveClip 61 = .ok (.aload_n 3, 1) := DX7_moveClip_3.2.2.2.1
theorem dX7_moveClip_62 : decode cX7_moveClip 62 = .ok (.invokestatic 91, 3) := DX7_moveClip_3.2.2.2.2.1
theorem dX7_moveClip_65 : decode cX7_moveClip 65 = .ok (.aload_n 0, 1) := DX7_moveClip_3.2.2.2.2.2.1
theorem dX7_moveClip_66 : decode cX7_moveClip 66 = .ok (.invokevirtual 70, 3) := DX7_moveClip_3.2.2.2.2.2.2.1
theorem dX7_moveClip_69 : decode cX7_moveClip 69 = .ok (.iload 4, 2) := DX7_moveClip_3.2.2.2.2.2.2.2.1
theorem dX7_moveClip_71 : decode cX7_moveClip 71 = .ok (.ireturn, 1) := DX7_moveClip_3.2.2.2.2.2.2.2.2
set_option maxRecDepth 100000 in
theorem DX7_trimClip_0 : decode cX7_trimClip 0 = .ok (.aload_n 0, 1) ∧ decode cX7_trimClip 1 = .ok (.iload_n 1, 1) ∧ decode cX7_trimClip 2 = .ok (.invokevirtual 95, 3) ∧ decode cX7_trimClip 5 = .ok (.aload_n 0, 1) ∧ decode cX7_trimClip 6 = .ok (.getfield 12, 3) ∧ decode cX7_trimClip 9 = .ok (.getfield 100, 3) ∧ decode cX7_trimClip 12 = .ok (.iload_n 1, 1) ∧ decode cX7_trimClip 13 = .ok (.aaload, 1) ∧ decode cX7_trimClip 14 = .ok (.astore 4, 2) ∧ decode cX7_trimClip 16 = .ok (.iload_n 2, 1) := by decide +kernel
theorem dX7_trimClip_0 : decode cX7_trimClip 0 = .ok (.aload_n 0, 1) := DX7_trimClip_0.1
theorem dX7_trimClip_1 : decode cX7_trimClip 1 = .ok (.iload_n 1, 1) := DX7_trimClip_0.2.1
theorem dX7_trimClip_2 : decode cX7_trimClip 2 = .ok (.invokevirtual 95, 3) := DX7_trimClip_0.2.2.1
theorem dX7_trimClip_5 : decode cX7_trimClip 5 = .ok (.aload_n 0, 1) := DX7_trimClip_0.2.2.2.1
theorem dX7_trimClip_6 : decode cX7_trimClip 6 = .ok (.getfield 12, 3) := DX7_trimClip_0.2.2.2.2.1
theorem dX7_trimClip_9 : decode cX7_trimClip 9 = .ok (.getfield 100, 3) := DX7_trimClip_0.2.2.2.2.2.1
theorem dX7_trimClip_12 : decode cX7_trimClip 12 = .ok (.iload_n 1, 1) := DX7_trimClip_0.2.2.2.2.2.2.1
theorem dX7_trimClip_13 : decode cX7_trimClip 13 = .ok (.aaload, 1) := DX7_trimClip_0.2.2.2.2.2.2.2.1
theorem dX7_trimClip_14 : decode cX7_trimClip 14 = .ok (.astore 4, 2) := DX7_trimClip_0.2.2.2.2.2.2.2.2.1
theorem dX7_trimClip_16 : decode cX7_trimClip 16 = .ok (.iload_n 2, 1) := DX7_trimClip_0.2.2.2.2.2.2.2.2.2
set_option maxRecDepth 100000 in
theorem DX7_trimClip_1 : decode cX7_trimClip 17 = .ok (.iconst 0, 1) ∧ decode cX7_trimClip 18 = .ok (.aload 4, 2) ∧ decode cX7_trimClip 20 = .ok (.getfield 113, 3) ∧ decode cX7_trimClip 23 = .ok (.iconst 1, 1) ∧ decode cX7_trimClip 24 = .ok (.isub, 1) ∧ decode cX7_trimClip 25 = .ok (.invokestatic 41, 3) ∧ decode cX7_trimClip 28 = .ok (.ifCond .ne 33, 3) ∧ decode cX7_trimClip 31 = .ok (.iload_n 3, 1) ∧ decode cX7_trimClip 32 = .ok (.iconst 0, 1) ∧ decode cX7_trimClip 33 = .ok (.aload 4, 2) := by decide +kernel
theorem dX7_trimClip_17 : decode cX7_trimClip 17 = .ok (.iconst 0, 1) := DX7_trimClip_1.1
theorem dX7_trimClip_18 : decode cX7_trimClip 18 = .ok (.aload 4, 2) := DX7_trimClip_1.2.1
theorem dX7_trimClip_20 : decode cX7_trimClip 20 = .ok (.getfield 113, 3) := DX7_trimClip_1.2.2.1
theorem dX7_trimClip_23 : decode cX7_trimClip 23 = .ok (.iconst 1, 1) := DX7_trimClip_1.2.2.2.1
theorem dX7_trimClip_24 : decode cX7_trimClip 24 = .ok (.isub, 1) := DX7_trimClip_1.2.2.2.2.1
theorem dX7_trimClip_25 : decode cX7_trimClip 25 = .ok (.invokestatic 41, 3) := DX7_trimClip_1.2.2.2.2.2.1
theorem dX7_trimClip_28 : decode cX7_trimClip 28 = .ok (.ifCond .ne 33, 3) := DX7_trimClip_1.2.2.2.2.2.2.1
theorem dX7_trimClip_31 : decode cX7_trimClip 31 = .ok (.iload_n 3, 1) := DX7_trimClip_1.2.2.2.2.2.2.2.1
theorem dX7_trimClip_32 : decode cX7_trimClip 32 = .ok (.iconst 0, 1) := DX7_trimClip_1.2.2.2.2.2.2.2.2.1
theorem dX7_trimClip_33 : decode cX7_trimClip 33 = .ok (.aload 4, 2) := DX7_trimClip_1.2.2.2.2.2.2.2.2.2
set_option maxRecDepth 100000 in
theorem DX7_trimClip_2 : decode cX7_trimClip 35 = .ok (.getfield 113, 3) ∧ decode cX7_trimClip 38 = .ok (.iconst 1, 1) ∧ decode cX7_trimClip 39 = .ok (.isub, 1) ∧ decode cX7_trimClip 40 = .ok (.iload_n 2, 1) ∧ decode cX7_trimClip 41 = .ok (.isub, 1) ∧ decode cX7_trimClip 42 = .ok (.invokestatic 41, 3) ∧ decode cX7_trimClip 45 = .ok (.ifCond .ne 16, 3) ∧ decode cX7_trimClip 48 = .ok (.aload 4, 2) ∧ decode cX7_trimClip 50 = .ok (.getfield 122, 3) ∧ decode cX7_trimClip 53 = .ok (.iload_n 2, 1) := by decide +kernel
theorem dX7_trimClip_35 : decode cX7_trimClip 35 = .ok (.getfield 113, 3) := DX7_trimClip_2.1
theorem dX7_trimClip_38 : decode cX7_trimClip 38 = .ok (.iconst 1, 1) := DX7_trimClip_2.2.1
theorem dX7_trimClip_39 : decode cX7_trimClip 39 = .ok (.isub, 1) := DX7_trimClip_2.2.2.1
theorem dX7_trimClip_40 : decode cX7_trimClip 40 = .ok (.iload_n 2, 1) := DX7_trimClip_2.2.2.2.1
theorem dX7_trimClip_41 : decode cX7_trimClip 41 = .ok (.isub, 1) := DX7_trimClip_2.2.2.2.2.1
theorem dX7_trimClip_42 : decode cX7_trimClip 42 = .ok (.invokestatic 41, 3) := DX7_trimClip_2.2.2.2.2.2.1
theorem dX7_trimClip_45 : decode cX7_trimClip 45 = .ok (.ifCond .ne 16, 3) := DX7_trimClip_2.2.2.2.2.2.2.1
theorem dX7_trimClip_48 : decode cX7_trimClip 48 = .ok (.aload 4, 2) := DX7_trimClip_2.2.2.2.2.2.2.2.1
theorem dX7_trimClip_50 : decode cX7_trimClip 50 = .ok (.getfield 122, 3) := DX7_trimClip_2.2.2.2.2.2.2.2.2.1
theorem dX7_trimClip_53 : decode cX7_trimClip 53 = .ok (.iload_n 2, 1) := DX7_trimClip_2.2.2.2.2.2.2.2.2.2
set_option maxRecDepth 100000 in
theorem DX7_trimClip_3 : decode cX7_trimClip 54 = .ok (.iadd, 1) ∧ decode cX7_trimClip 55 = .ok (.sipush 3999, 3) ∧ decode cX7_trimClip 58 = .ok (.if_icmp .le 13, 3) ∧ decode cX7_trimClip 61 = .ok (.new 45, 3) ∧ decode cX7_trimClip 64 = .ok (.dup, 1) ∧ decode cX7_trimClip 65 = .ok (.ldc 125, 2) ∧ decode cX7_trimClip 67 = .ok (.invokespecial 49, 3) ∧ decode cX7_trimClip 70 = .ok (.athrow, 1) ∧ decode cX7_trimClip 71 = .ok (.aload_n 0, 1) ∧ decode cX7_trimClip 72 = .ok (.invokevirtual 62, 3) := by decide +kernel
theorem dX7_trimClip_54 : decode cX7_trimClip 54 = .ok (.iadd, 1) := DX7_trimClip_3.1
theorem dX7_trimClip_55 : decode cX7_trimClip 55 = .ok (.sipush 3999, 3) := DX7_trimClip_3.2.1
theorem dX7_trimClip_58 : decode cX7_trimClip 58 = .ok (.if_icmp .le 13, 3) := DX7_trimClip_3.2.2.1
theorem dX7_trimClip_61 : decode cX7_trimClip 61 = .ok (.new 45, 3) := DX7_trimClip_3.2.2.2.1
theorem dX7_trimClip_64 : decode cX7_trimClip 64 = .ok (.dup, 1) := DX7_trimClip_3.2.2.2.2.1
theorem dX7_trimClip_65 : decode cX7_trimClip 65 = .ok (.ldc 125, 2) := DX7_trimClip_3.2.2.2.2.2.1
theorem dX7_trimClip_67 : decode cX7_trimClip 67 = .ok (.invokespecial 49, 3) := DX7_trimClip_3.2.2.2.2.2.2.1
theorem dX7_trimClip_70 : decode cX7_trimClip 70 = .ok (.athrow, 1) := DX7_trimClip_3.2.2.2.2.2.2.2.1
theorem dX7_trimClip_71 : decode cX7_trimClip 71 = .ok (.aload_n 0, 1) := DX7_trimClip_3.2.2.2.2.2.2.2.2.1
theorem dX7_trimClip_72 : decode cX7_trimClip 72 = .ok (.invokevirtual 62, 3) := DX7_trimClip_3.2.2.2.2.2.2.2.2.2
set_option maxRecDepth 100000 in
theorem DX7_trimClip_4 : decode cX7_trimClip 75 = .ok (.astore 5, 2) ∧ decode cX7_trimClip 77 = .ok (.aload 5, 2) ∧ decode cX7_trimClip 79 = .ok (.getfield 100, 3) ∧ decode cX7_trimClip 82 = .ok (.iload_n 1, 1) ∧ decode cX7_trimClip 83 = .ok (.aaload, 1) ∧ decode cX7_trimClip 84 = .ok (.iload_n 2, 1) ∧ decode cX7_trimClip 85 = .ok (.iload_n 3, 1) ∧ decode cX7_trimClip 86 = .ok (.invokevirtual 127, 3) ∧ decode cX7_trimClip 89 = .ok (.aload 5, 2) ∧ decode cX7_trimClip 91 = .ok (.invokestatic 91, 3) := by decide +kernel
theorem dX7_trimClip_75 : decode cX7_trimClip 75 = .ok (.astore 5, 2) := DX7_trimClip_4.1
theorem dX7_trimClip_77 : decode cX7_trimClip 77 = .ok (.aload 5, 2) := DX7_trimClip_4.2.1
theorem dX7_trimClip_79 : decode cX7_trimClip 79 = .ok (.getfield 100, 3) := DX7_trimClip_4.2.2.1
theorem dX7_trimClip_82 : decode cX7_trimClip 82 = .ok (.iload_n 1, 1) := DX7_trimClip_4.2.2.2.1
theorem dX7_trimClip_83 : decode cX7_trimClip 83 = .ok (.aaload, 1) := DX7_trimClip_4.2.2.2.2.1
theorem dX7_trimClip_84 : decode cX7_trimClip 84 = .ok (.iload_n 2, 1) := DX7_trimClip_4.2.2.2.2.2.1
theorem dX7_trimClip_85 : decode cX7_trimClip 85 = .ok (.iload_n 3, 1) := DX7_trimClip_4.2.2.2.2.2.2.1
theorem dX7_trimClip_86 : decode cX7_trimClip 86 = .ok (.invokevirtual 127, 3) := DX7_trimClip_4.2.2.2.2.2.2.2.1
theorem dX7_trimClip_89 : decode cX7_trimClip 89 = .ok (.aload 5, 2) := DX7_trimClip_4.2.2.2.2.2.2.2.2.1
theorem dX7_trimClip_91 : decode cX7_trimClip 91 = .ok (.invokestatic 91, 3) := DX7_trimClip_4.2.2.2.2.2.2.2.2.2
set_option maxRecDepth 100000 in
theorem DX7_trimClip_5 : decode cX7_trimClip 94 = .ok (.aload_n 0, 1) ∧ decode cX7_trimClip 95 = .ok (.invokevirtual 70, 3) ∧ decode cX7_trimClip 98 = .ok (.aload_n 0, 1) ∧ decode cX7_trimClip 99 = .ok (.getfield 12, 3) ∧ decode cX7_trimClip 102 = .ok (.getfield 100, 3) ∧ decode cX7_trimClip 105 = .ok (.iload_n 1, 1) ∧ decode cX7_trimClip 106 = .ok (.aaload, 1) ∧ decode cX7_trimClip 107 = .ok (.getfield 113, 3) ∧ decode cX7_trimClip 110 = .ok (.ireturn, 1) := by decide +kernel
theorem dX7_trimClip_94 : decode cX7_trimClip 94 = .ok (.aload_n 0, 1) := DX7_trimClip_5.1
theorem dX7_trimClip_95 : decode cX7_trimClip 95 = .ok (.invokevirtual 70, 3) := DX7_trimClip_5.2.1
theorem dX7_trimClip_98 : decode cX7_trimClip 98 = .ok (.aload_n 0, 1) := DX7_trimClip_5.2.2.1
theorem dX7_trimClip_99 : decode cX7_trimClip 99 = .ok (.getfield 12, 3) := DX7_trimClip_5.2.2.2.1
theorem dX7_trimClip_102 : decode cX7_trimClip 102 = .ok (.getfield 100, 3) := DX7_trimClip_5.2.2.2.2.1
theorem dX7_trimClip_105 : decode cX7_trimClip 105 = .ok (.iload_n 1, 1) := DX7_trimClip_5.2.2.2.2.2.1
theorem dX7_trimClip_106 : decode cX7_trimClip 106 = .ok (.aaload, 1) := DX7_trimClip_5.2.2.2.2.2.2.1
theorem dX7_trimClip_107 : decode cX7_trimClip 107 = .ok (.getfield 113, 3) := DX7_trimClip_5.2.2.2.2.2.2.2.1
theorem dX7_trimClip_110 : decode cX7_trimClip 110 = .ok (.ireturn, 1) := DX7_trimClip_5.2.2.2.2.2.2.2.2
set_option maxRecDepth 100000 in
theorem DX7_splitClip_0 : decode cX7_splitClip 0 = .ok (.aload_n 0, 1) ∧ decode cX7_splitClip 1 = .ok (.iload_n 1, 1) ∧ decode cX7_splitClip 2 = .ok (.invokevirtual 95, 3) ∧ decode cX7_splitClip 5 = .ok (.aload_n 0, 1) ∧ decode cX7_splitClip 6 = .ok (.getfield 12, 3) ∧ decode cX7_splitClip 9 = .ok (.getfield 100, 3) ∧ decode cX7_splitClip 12 = .ok (.iload_n 1, 1) ∧ decode cX7_splitClip 13 = .ok (.aaload, 1) ∧ decode cX7_splitClip 14 = .ok (.astore_n 3, 1) ∧ decode cX7_splitClip 15 = .ok (.iload_n 2, 1) := by decide +kernel
theorem dX7_splitClip_0 : decode cX7_splitClip 0 = .ok (.aload_n 0, 1) := DX7_splitClip_0.1
theorem dX7_splitClip_1 : decode cX7_splitClip 1 = .ok (.iload_n 1, 1) := DX7_splitClip_0.2.1
theorem dX7_splitClip_2 : decode cX7_splitClip 2 = .ok (.invokevirtual 95, 3) := DX7_splitClip_0.2.2.1
theorem dX7_splitClip_5 : decode cX7_splitClip 5 = .ok (.aload_n 0, 1) := DX7_splitClip_0.2.2.2.1
theorem dX7_splitClip_6 : decode cX7_splitClip 6 = .ok (.getfield 12, 3) := DX7_splitClip_0.2.2.2.2.1
theorem dX7_splitClip_9 : decode cX7_splitClip 9 = .ok (.getfield 100, 3) := DX7_splitClip_0.2.2.2.2.2.1
theorem dX7_splitClip_12 : decode cX7_splitClip 12 = .ok (.iload_n 1, 1) := DX7_splitClip_0.2.2.2.2.2.2.1
theorem dX7_splitClip_13 : decode cX7_splitClip 13 = .ok (.aaload, 1) := DX7_splitClip_0.2.2.2.2.2.2.2.1
theorem dX7_splitClip_14 : decode cX7_splitClip 14 = .ok (.astore_n 3, 1) := DX7_splitClip_0.2.2.2.2.2.2.2.2.1
theorem dX7_splitClip_15 : decode cX7_splitClip 15 = .ok (.iload_n 2, 1) := DX7_splitClip_0.2.2.2.2.2.2.2.2.2
set_option maxRecDepth 100000 in
theorem DX7_splitClip_1 : decode cX7_splitClip 16 = .ok (.aload_n 3, 1) ∧ decode cX7_splitClip 17 = .ok (.getfield 116, 3) ∧ decode cX7_splitClip 20 = .ok (.iconst 1, 1) ∧ decode cX7_splitClip 21 = .ok (.iadd, 1) ∧ decode cX7_splitClip 22 = .ok (.aload_n 3, 1) ∧ decode cX7_splitClip 23 = .ok (.invokevirtual 131, 3) ∧ decode cX7_splitClip 26 = .ok (.iconst 1, 1) ∧ decode cX7_splitClip 27 = .ok (.isub, 1) ∧ decode cX7_splitClip 28 = .ok (.invokestatic 41, 3) ∧ decode cX7_splitClip 31 = .ok (.ifCond .ne 20, 3) := by decide +kernel
theorem dX7_splitClip_16 : decode cX7_splitClip 16 = .ok (.aload_n 3, 1) := DX7_splitClip_1.1
theorem dX7_splitClip_17 : decode cX7_splitClip 17 = .ok (.getfield 116, 3) := DX7_splitClip_1.2.1
theorem dX7_splitClip_20 : decode cX7_splitClip 20 = .ok (.iconst 1, 1) := DX7_splitClip_1.2.2.1
theorem dX7_splitClip_21 : decode cX7_splitClip 21 = .ok (.iadd, 1) := DX7_splitClip_1.2.2.2.1
theorem dX7_splitClip_22 : decode cX7_splitClip 22 = .ok (.aload_n 3, 1) := DX7_splitClip_1.2.2.2.2.1
theorem dX7_splitClip_23 : decode cX7_splitClip 23 = .ok (.invokevirtual 131, 3) := DX7_splitClip_1.2.2.2.2.2.1
theorem dX7_splitClip_26 : decode cX7_splitClip 26 = .ok (.iconst 1, 1) := DX7_splitClip_1.2.2.2.2.2.2.1
theorem dX7_splitClip_27 : decode cX7_splitClip 27 = .ok (.isub, 1) := DX7_splitClip_1.2.2.2.2.2.2.2.1
theorem dX7_splitClip_28 : decode cX7_splitClip 28 = .ok (.invokestatic 41, 3) := DX7_splitClip_1.2.2.2.2.2.2.2.2.1
theorem dX7_splitClip_31 : decode cX7_splitClip 31 = .ok (.ifCond .ne 20, 3) := DX7_splitClip_1.2.2.2.2.2.2.2.2.2
set_option maxRecDepth 100000 in
theorem DX7_splitClip_2 : decode cX7_splitClip 34 = .ok (.aload_n 3, 1) ∧ decode cX7_splitClip 35 = .ok (.getfield 122, 3) ∧ decode cX7_splitClip 38 = .ok (.iload_n 2, 1) ∧ decode cX7_splitClip 39 = .ok (.iadd, 1) ∧ decode cX7_splitClip 40 = .ok (.aload_n 3, 1) ∧ decode cX7_splitClip 41 = .ok (.getfield 116, 3) ∧ decode cX7_splitClip 44 = .ok (.isub, 1) ∧ decode cX7_splitClip 45 = .ok (.sipush 3999, 3) ∧ decode cX7_splitClip 48 = .ok (.if_icmp .le 13, 3) ∧ decode cX7_splitClip 51 = .ok (.new 45, 3) := by decide +kernel
theorem dX7_splitClip_34 : decode cX7_splitClip 34 = .ok (.aload_n 3, 1) := DX7_splitClip_2.1
theorem dX7_splitClip_35 : decode cX7_splitClip 35 = .ok (.getfield 122, 3) := DX7_splitClip_2.2.1
theorem dX7_splitClip_38 : decode cX7_splitClip 38 = .ok (.iload_n 2, 1) := DX7_splitClip_2.2.2.1
theorem dX7_splitClip_39 : decode cX7_splitClip 39 = .ok (.iadd, 1) := DX7_splitClip_2.2.2.2.1
theorem dX7_splitClip_40 : decode cX7_splitClip 40 = .ok (.aload_n 3, 1) := DX7_splitClip_2.2.2.2.2.1
theorem dX7_splitClip_41 : decode cX7_splitClip 41 = .ok (.getfield 116, 3) := DX7_splitClip_2.2.2.2.2.2.1
theorem dX7_splitClip_44 : decode cX7_splitClip 44 = .ok (.isub, 1) := DX7_splitClip_2.2.2.2.2.2.2.1
theorem dX7_splitClip_45 : decode cX7_splitClip 45 = .ok (.sipush 3999, 3) := DX7_splitClip_2.2.2.2.2.2.2.2.1
theorem dX7_splitClip_48 : decode cX7_splitClip 48 = .ok (.if_icmp .le 13, 3) := DX7_splitClip_2.2.2.2.2.2.2.2.2.1
theorem dX7_splitClip_51 : decode cX7_splitClip 51 = .ok (.new 45, 3) := DX7_splitClip_2.2.2.2.2.2.2.2.2.2
set_option maxRecDepth 100000 in
theorem DX7_splitClip_3 : decode cX7_splitClip 54 = .ok (.dup, 1) ∧ decode cX7_splitClip 55 = .ok (.ldc 135, 2) ∧ decode cX7_splitClip 57 = .ok (.invokespecial 49, 3) ∧ decode cX7_splitClip 60 = .ok (.athrow, 1) ∧ decode cX7_splitClip 61 = .ok (.aload_n 0, 1) ∧ decode cX7_splitClip 62 = .ok (.invokevirtual 84, 3) ∧ decode cX7_splitClip 65 = .ok (.aload_n 0, 1) ∧ decode cX7_splitClip 66 = .ok (.invokevirtual 62, 3) ∧ decode cX7_splitClip 69 = .ok (.astore 4, 2) ∧ decode cX7_splitClip 71 = .ok (.aload 4, 2) := by decide +kernel
theorem dX7_splitClip_54 : decode cX7_splitClip 54 = .ok (.dup, 1) := DX7_splitClip_3.1
theorem dX7_splitClip_55 : decode cX7_splitClip 55 = .ok (.ldc 135, 2) := DX7_splitClip_3.2.1
theorem dX7_splitClip_57 : decode cX7_splitClip 57 = .ok (.invokespecial 49, 3) := DX7_splitClip_3.2.2.1
theorem dX7_splitClip_60 : decode cX7_splitClip 60 = .ok (.athrow, 1) := DX7_splitClip_3.2.2.2.1
theorem dX7_splitClip_61 : decode cX7_splitClip 61 = .ok (.aload_n 0, 1) := DX7_splitClip_3.2.2.2.2.1
theorem dX7_splitClip_62 : decode cX7_splitClip 62 = .ok (.invokevirtual 84, 3) := DX7_splitClip_3.2.2.2.2.2.1
theorem dX7_splitClip_65 : decode cX7_splitClip 65 = .ok (.aload_n 0, 1) := DX7_splitClip_3.2.2.2.2.2.2.1
theorem dX7_splitClip_66 : decode cX7_splitClip 66 = .ok (.invokevirtual 62, 3) := DX7_splitClip_3.2.2.2.2.2.2.2.1
theorem dX7_splitClip_69 : decode cX7_splitClip 69 = .ok (.astore 4, 2) := DX7_splitClip_3.2.2.2.2.2.2.2.2.1
theorem dX7_splitClip_71 : decode cX7_splitClip 71 = .ok (.aload 4, 2) := DX7_splitClip_3.2.2.2.2.2.2.2.2.2
set_option maxRecDepth 100000 in
theorem DX7_splitClip_4 : decode cX7_splitClip 73 = .ok (.iload_n 1, 1) ∧ decode cX7_splitClip 74 = .ok (.iload_n 2, 1) ∧ decode cX7_splitClip 75 = .ok (.invokevirtual 137, 3) ∧ decode cX7_splitClip 78 = .ok (.istore 5, 2) ∧ decode cX7_splitClip 80 = .ok (.aload 4, 2) ∧ decode cX7_splitClip 82 = .ok (.invokestatic 91, 3) ∧ decode cX7_splitClip 85 = .ok (.aload_n 0, 1) ∧ decode cX7_splitClip 86 = .ok (.invokevirtual 70, 3) ∧ decode cX7_splitClip 89 = .ok (.iload 5, 2) ∧ decode cX7_splitClip 91 = .ok (.ireturn, 1) := by decide +kernel
theorem dX7_splitClip_73 : decode cX7_splitClip 73 = .ok (.iload_n 1, 1) := DX7_splitClip_4.1
theorem dX7_splitClip_74 : decode cX7_splitClip 74 = .ok (.iload_n 2, 1) := DX7_splitClip_4.2.1
theorem dX7_splitClip_75 : decode cX7_splitClip 75 = .ok (.invokevirtual 137, 3) := DX7_splitClip_4.2.2.1
theorem dX7_splitClip_78 : decode cX7_splitClip 78 = .ok (.istore 5, 2) := DX7_splitClip_4.2.2.2.1
theorem dX7_splitClip_80 : decode cX7_splitClip 80 = .ok (.aload 4, 2) := DX7_splitClip_4.2.2.2.2.1
theorem dX7_splitClip_82 : decode cX7_splitClip 82 = .ok (.invokestatic 91, 3) := DX7_splitClip_4.2.2.2.2.2.1
theorem dX7_splitClip_85 : decode cX7_splitClip 85 = .ok (.aload_n 0, 1) := DX7_splitClip_4.2.2.2.2.2.2.1
theorem dX7_splitClip_86 : decode cX7_splitClip 86 = .ok (.invokevirtual 70, 3) := DX7_splitClip_4.2.2.2.2.2.2.2.1
theorem dX7_splitClip_89 : decode cX7_splitClip 89 = .ok (.iload 5, 2) := DX7_splitClip_4.2.2.2.2.2.2.2.2.1
theorem dX7_splitClip_91 : decode cX7_splitClip 91 = .ok (.ireturn, 1) := DX7_splitClip_4.2.2.2.2.2.2.2.2.2
set_option maxRecDepth 100000 in
theorem DX7_removeClip_0 : decode cX7_removeClip 0 = .ok (.aload_n 0, 1) ∧ decode cX7_removeClip 1 = .ok (.iload_n 1, 1) ∧ decode cX7_removeClip 2 = .ok (.invokevirtual 95, 3) ∧ decode cX7_removeClip 5 = .ok (.aload_n 0, 1) ∧ decode cX7_removeClip 6 = .ok (.invokevirtual 62, 3) ∧ decode cX7_removeClip 9 = .ok (.iload_n 1, 1) ∧ decode cX7_removeClip 10 = .ok (.invokevirtual 141, 3) ∧ decode cX7_removeClip 13 = .ok (.aload_n 0, 1) ∧ decode cX7_removeClip 14 = .ok (.invokevirtual 70, 3) ∧ decode cX7_removeClip 17 = .ok (.aload_n 0, 1) := by decide +kernel
theorem dX7_removeClip_0 : decode cX7_removeClip 0 = .ok (.aload_n 0, 1) := DX7_removeClip_0.1
theorem dX7_removeClip_1 : decode cX7_removeClip 1 = .ok (.iload_n 1, 1) := DX7_removeClip_0.2.1
theorem dX7_removeClip_2 : decode cX7_removeClip 2 = .ok (.invokevirtual 95, 3) := DX7_removeClip_0.2.2.1
theorem dX7_removeClip_5 : decode cX7_removeClip 5 = .ok (.aload_n 0, 1) := DX7_removeClip_0.2.2.2.1
theorem dX7_removeClip_6 : decode cX7_removeClip 6 = .ok (.invokevirtual 62, 3) := DX7_removeClip_0.2.2.2.2.1
theorem dX7_removeClip_9 : decode cX7_removeClip 9 = .ok (.iload_n 1, 1) := DX7_removeClip_0.2.2.2.2.2.1
theorem dX7_removeClip_10 : decode cX7_removeClip 10 = .ok (.invokevirtual 141, 3) := DX7_removeClip_0.2.2.2.2.2.2.1
theorem dX7_removeClip_13 : decode cX7_removeClip 13 = .ok (.aload_n 0, 1) := DX7_removeClip_0.2.2.2.2.2.2.2.1
theorem dX7_removeClip_14 : decode cX7_removeClip 14 = .ok (.invokevirtual 70, 3) := DX7_removeClip_0.2.2.2.2.2.2.2.2.1
theorem dX7_removeClip_17 : decode cX7_removeClip 17 = .ok (.aload_n 0, 1) := DX7_removeClip_0.2.2.2.2.2.2.2.2.2
set_option maxRecDepth 100000 in
theorem DX7_removeClip_1 : decode cX7_removeClip 18 = .ok (.getfield 12, 3) ∧ decode cX7_removeClip 21 = .ok (.getfield 144, 3) ∧ decode cX7_removeClip 24 = .ok (.ireturn, 1) := by decide +kernel
theorem dX7_removeClip_18 : decode cX7_removeClip 18 = .ok (.getfield 12, 3) := DX7_removeClip_1.1
theorem dX7_removeClip_21 : decode cX7_removeClip 21 = .ok (.getfield 144, 3) := DX7_removeClip_1.2.1
theorem dX7_removeClip_24 : decode cX7_removeClip 24 = .ok (.ireturn, 1) := DX7_removeClip_1.2.2
set_option maxRecDepth 100000 in
theorem DX7_deleteTime_0 : decode cX7_deleteTime 0 = .ok (.iload_n 1, 1) ∧ decode cX7_deleteTime 1 = .ok (.invokestatic 147, 3) ∧ decode cX7_deleteTime 4 = .ok (.iload_n 3, 1) ∧ decode cX7_deleteTime 5 = .ok (.iconst 1, 1) ∧ decode cX7_deleteTime 6 = .ok (.sipush 4000, 3) ∧ decode cX7_deleteTime 9 = .ok (.invokestatic 41, 3) ∧ decode cX7_deleteTime 12 = .ok (.ifCond .ne 14, 3) ∧ decode cX7_deleteTime 15 = .ok (.iload_n 2, 1) ∧ decode cX7_deleteTime 16 = .ok (.iconst 0, 1) ∧ decode cX7_deleteTime 17 = .ok (.iload_n 3, 1) := by decide +kernel
theorem dX7_deleteTime_0 : decode cX7_deleteTime 0 = .ok (.iload_n 1, 1) := DX7_deleteTime_0.1
theorem dX7_deleteTime_1 : decode cX7_deleteTime 1 = .ok (.invokestatic 147, 3) := DX7_deleteTime_0.2.1
theorem dX7_deleteTime_4 : decode cX7_deleteTime 4 = .ok (.iload_n 3, 1) := DX7_deleteTime_0.2.2.1
theorem dX7_deleteTime_5 : decode cX7_deleteTime 5 = .ok (.iconst 1, 1) := DX7_deleteTime_0.2.2.2.1
theorem dX7_deleteTime_6 : decode cX7_deleteTime 6 = .ok (.sipush 4000, 3) := DX7_deleteTime_0.2.2.2.2.1
theorem dX7_deleteTime_9 : decode cX7_deleteTime 9 = .ok (.invokestatic 41, 3) := DX7_deleteTime_0.2.2.2.2.2.1
theorem dX7_deleteTime_12 : decode cX7_deleteTime 12 = .ok (.ifCond .ne 14, 3) := DX7_deleteTime_0.2.2.2.2.2.2.1
theorem dX7_deleteTime_15 : decode cX7_deleteTime 15 = .ok (.iload_n 2, 1) := DX7_deleteTime_0.2.2.2.2.2.2.2.1
theorem dX7_deleteTime_16 : decode cX7_deleteTime 16 = .ok (.iconst 0, 1) := DX7_deleteTime_0.2.2.2.2.2.2.2.2.1
theorem dX7_deleteTime_17 : decode cX7_deleteTime 17 = .ok (.iload_n 3, 1) := DX7_deleteTime_0.2.2.2.2.2.2.2.2.2
set_option maxRecDepth 100000 in
theorem DX7_deleteTime_1 : decode cX7_deleteTime 18 = .ok (.iconst 1, 1) ∧ decode cX7_deleteTime 19 = .ok (.isub, 1) ∧ decode cX7_deleteTime 20 = .ok (.invokestatic 41, 3) ∧ decode cX7_deleteTime 23 = .ok (.ifCond .eq 13, 3) ∧ decode cX7_deleteTime 26 = .ok (.new 45, 3) ∧ decode cX7_deleteTime 29 = .ok (.dup, 1) ∧ decode cX7_deleteTime 30 = .ok (.ldc 150, 2) ∧ decode cX7_deleteTime 32 = .ok (.invokespecial 49, 3) ∧ decode cX7_deleteTime 35 = .ok (.athrow, 1) ∧ decode cX7_deleteTime 36 = .ok (.aload_n 0, 1) := by decide +kernel
theorem dX7_deleteTime_18 : decode cX7_deleteTime 18 = .ok (.iconst 1, 1) := DX7_deleteTime_1.1
theorem dX7_deleteTime_19 : decode cX7_deleteTime 19 = .ok (.isub, 1) := DX7_deleteTime_1.2.1
theorem dX7_deleteTime_20 : decode cX7_deleteTime 20 = .ok (.invokestatic 41, 3) := DX7_deleteTime_1.2.2.1
theorem dX7_deleteTime_23 : decode cX7_deleteTime 23 = .ok (.ifCond .eq 13, 3) := DX7_deleteTime_1.2.2.2.1
theorem dX7_deleteTime_26 : decode cX7_deleteTime 26 = .ok (.new 45, 3) := DX7_deleteTime_1.2.2.2.2.1
theorem dX7_deleteTime_29 : decode cX7_deleteTime 29 = .ok (.dup, 1) := DX7_deleteTime_1.2.2.2.2.2.1
theorem dX7_deleteTime_30 : decode cX7_deleteTime 30 = .ok (.ldc 150, 2) := DX7_deleteTime_1.2.2.2.2.2.2.1
theorem dX7_deleteTime_32 : decode cX7_deleteTime 32 = .ok (.invokespecial 49, 3) := DX7_deleteTime_1.2.2.2.2.2.2.2.1
theorem dX7_deleteTime_35 : decode cX7_deleteTime 35 = .ok (.athrow, 1) := DX7_deleteTime_1.2.2.2.2.2.2.2.2.1
theorem dX7_deleteTime_36 : decode cX7_deleteTime 36 = .ok (.aload_n 0, 1) := DX7_deleteTime_1.2.2.2.2.2.2.2.2.2
set_option maxRecDepth 100000 in
theorem DX7_deleteTime_2 : decode cX7_deleteTime 37 = .ok (.invokevirtual 62, 3) ∧ decode cX7_deleteTime 40 = .ok (.astore 4, 2) ∧ decode cX7_deleteTime 42 = .ok (.aload 4, 2) ∧ decode cX7_deleteTime 44 = .ok (.iload_n 1, 1) ∧ decode cX7_deleteTime 45 = .ok (.iload_n 2, 1) ∧ decode cX7_deleteTime 46 = .ok (.iload_n 3, 1) ∧ decode cX7_deleteTime 47 = .ok (.invokevirtual 152, 3) ∧ decode cX7_deleteTime 50 = .ok (.istore 5, 2) ∧ decode cX7_deleteTime 52 = .ok (.aload 4, 2) ∧ decode cX7_deleteTime 54 = .ok (.invokevirtual 156, 3) := by decide +kernel
theorem dX7_deleteTime_37 : decode cX7_deleteTime 37 = .ok (.invokevirtual 62, 3) := DX7_deleteTime_2.1
theorem dX7_deleteTime_40 : decode cX7_deleteTime 40 = .ok (.astore 4, 2) := DX7_deleteTime_2.2.1
theorem dX7_deleteTime_42 : decode cX7_deleteTime 42 = .ok (.aload 4, 2) := DX7_deleteTime_2.2.2.1
theorem dX7_deleteTime_44 : decode cX7_deleteTime 44 = .ok (.iload_n 1, 1) := DX7_deleteTime_2.2.2.2.1
theorem dX7_deleteTime_45 : decode cX7_deleteTime 45 = .ok (.iload_n 2, 1) := DX7_deleteTime_2.2.2.2.2.1
theorem dX7_deleteTime_46 : decode cX7_deleteTime 46 = .ok (.iload_n 3, 1) := DX7_deleteTime_2.2.2.2.2.2.1
theorem dX7_deleteTime_47 : decode cX7_deleteTime 47 = .ok (.invokevirtual 152, 3) := DX7_deleteTime_2.2.2.2.2.2.2.1
theorem dX7_deleteTime_50 : decode cX7_deleteTime 50 = .ok (.istore 5, 2) := DX7_deleteTime_2.2.2.2.2.2.2.2.1
theorem dX7_deleteTime_52 : decode cX7_deleteTime 52 = .ok (.aload 4, 2) := DX7_deleteTime_2.2.2.2.2.2.2.2.2.1
theorem dX7_deleteTime_54 : decode cX7_deleteTime 54 = .ok (.invokevirtual 156, 3) := DX7_deleteTime_2.2.2.2.2.2.2.2.2.2
set_option maxRecDepth 100000 in
theorem DX7_deleteTime_3 : decode cX7_deleteTime 57 = .ok (.ifCond .ne 13, 3) ∧ decode cX7_deleteTime 60 = .ok (.new 45, 3) ∧ decode cX7_deleteTime 63 = .ok (.dup, 1) ∧ decode cX7_deleteTime 64 = .ok (.ldc 160, 2) ∧ decode cX7_deleteTime 66 = .ok (.invokespecial 49, 3) ∧ decode cX7_deleteTime 69 = .ok (.athrow, 1) ∧ decode cX7_deleteTime 70 = .ok (.aload 4, 2) ∧ decode cX7_deleteTime 72 = .ok (.invokestatic 91, 3) ∧ decode cX7_deleteTime 75 = .ok (.aload_n 0, 1) ∧ decode cX7_deleteTime 76 = .ok (.invokevirtual 70, 3) := by decide +kernel
theorem dX7_deleteTime_57 : decode cX7_deleteTime 57 = .ok (.ifCond .ne 13, 3) := DX7_deleteTime_3.1
theorem dX7_deleteTime_60 : decode cX7_deleteTime 60 = .ok (.new 45, 3) := DX7_deleteTime_3.2.1
theorem dX7_deleteTime_63 : decode cX7_deleteTime 63 = .ok (.dup, 1) := DX7_deleteTime_3.2.2.1
theorem dX7_deleteTime_64 : decode cX7_deleteTime 64 = .ok (.ldc 160, 2) := DX7_deleteTime_3.2.2.2.1
theorem dX7_deleteTime_66 : decode cX7_deleteTime 66 = .ok (.invokespecial 49, 3) := DX7_deleteTime_3.2.2.2.2.1
theorem dX7_deleteTime_69 : decode cX7_deleteTime 69 = .ok (.athrow, 1) := DX7_deleteTime_3.2.2.2.2.2.1
theorem dX7_deleteTime_70 : decode cX7_deleteTime 70 = .ok (.aload 4, 2) := DX7_deleteTime_3.2.2.2.2.2.2.1
theorem dX7_deleteTime_72 : decode cX7_deleteTime 72 = .ok (.invokestatic 91, 3) := DX7_deleteTime_3.2.2.2.2.2.2.2.1
theorem dX7_deleteTime_75 : decode cX7_deleteTime 75 = .ok (.aload_n 0, 1) := DX7_deleteTime_3.2.2.2.2.2.2.2.2.1
theorem dX7_deleteTime_76 : decode cX7_deleteTime 76 = .ok (.invokevirtual 70, 3) := DX7_deleteTime_3.2.2.2.2.2.2.2.2.2
set_option maxRecDepth 100000 in
theorem DX7_deleteTime_4 : decode cX7_deleteTime 79 = .ok (.iload 5, 2) ∧ decode cX7_deleteTime 81 = .ok (.ireturn, 1) := by decide +kernel
theorem dX7_deleteTime_79 : decode cX7_deleteTime 79 = .ok (.iload 5, 2) := DX7_deleteTime_4.1
theorem dX7_deleteTime_81 : decode cX7_deleteTime 81 = .ok (.ireturn, 1) := DX7_deleteTime_4.2
set_option maxRecDepth 100000 in
theorem DX7_clips_0 : decode cX7_clips 0 = .ok (.aload_n 0, 1) ∧ decode cX7_clips 1 = .ok (.getfield 12, 3) ∧ decode cX7_clips 4 = .ok (.getfield 144, 3) ∧ decode cX7_clips 7 = .ok (.ireturn, 1) := by decide +kernel
theorem dX7_clips_0 : decode cX7_clips 0 = .ok (.aload_n 0, 1) := DX7_clips_0.1
theorem dX7_clips_1 : decode cX7_clips 1 = .ok (.getfield 12, 3) := DX7_clips_0.2.1
theorem dX7_clips_4 : decode cX7_clips 4 = .ok (.getfield 144, 3) := DX7_clips_0.2.2.1
theorem dX7_clips_7 : decode cX7_clips 7 = .ok (.ireturn, 1) := DX7_clips_0.2.2.2
set_option maxRecDepth 100000 in
theorem DX7_clip_0 : decode cX7_clip 0 = .ok (.aload_n 0, 1) ∧ decode cX7_clip 1 = .ok (.iload_n 1, 1) ∧ decode cX7_clip 2 = .ok (.invokevirtual 95, 3) ∧ decode cX7_clip 5 = .ok (.iload_n 2, 1) ∧ decode cX7_clip 6 = .ok (.iconst 0, 1) ∧ decode cX7_clip 7 = .ok (.bipush 8, 2) ∧ decode cX7_clip 9 = .ok (.invokestatic 41, 3) ∧ decode cX7_clip 12 = .ok (.ifCond .eq 13, 3) ∧ decode cX7_clip 15 = .ok (.new 45, 3) ∧ decode cX7_clip 18 = .ok (.dup, 1) := by decide +kernel
theorem dX7_clip_0 : decode cX7_clip 0 = .ok (.aload_n 0, 1) := DX7_clip_0.1
theorem dX7_clip_1 : decode cX7_clip 1 = .ok (.iload_n 1, 1) := DX7_clip_0.2.1
theorem dX7_clip_2 : decode cX7_clip 2 = .ok (.invokevirtual 95, 3) := DX7_clip_0.2.2.1
theorem dX7_clip_5 : decode cX7_clip 5 = .ok (.iload_n 2, 1) := DX7_clip_0.2.2.2.1
theorem dX7_clip_6 : decode cX7_clip 6 = .ok (.iconst 0, 1) := DX7_clip_0.2.2.2.2.1
theorem dX7_clip_7 : decode cX7_clip 7 = .ok (.bipush 8, 2) := DX7_clip_0.2.2.2.2.2.1
theorem dX7_clip_9 : decode cX7_clip 9 = .ok (.invokestatic 41, 3) := DX7_clip_0.2.2.2.2.2.2.1
theorem dX7_clip_12 : decode cX7_clip 12 = .ok (.ifCond .eq 13, 3) := DX7_clip_0.2.2.2.2.2.2.2.1
theorem dX7_clip_15 : decode cX7_clip 15 = .ok (.new 45, 3) := DX7_clip_0.2.2.2.2.2.2.2.2.1
theorem dX7_clip_18 : decode cX7_clip 18 = .ok (.dup, 1) := DX7_clip_0.2.2.2.2.2.2.2.2.2
set_option maxRecDepth 100000 in
theorem DX7_clip_1 : decode cX7_clip 19 = .ok (.ldc 162, 2) ∧ decode cX7_clip 21 = .ok (.invokespecial 49, 3) ∧ decode cX7_clip 24 = .ok (.athrow, 1) ∧ decode cX7_clip 25 = .ok (.aload_n 0, 1) ∧ decode cX7_clip 26 = .ok (.getfield 12, 3) ∧ decode cX7_clip 29 = .ok (.getfield 100, 3) ∧ decode cX7_clip 32 = .ok (.iload_n 1, 1) ∧ decode cX7_clip 33 = .ok (.aaload, 1) ∧ decode cX7_clip 34 = .ok (.iload_n 2, 1) ∧ decode cX7_clip 35 = .ok (.invokevirtual 164, 3) := by decide +kernel
theorem dX7_clip_19 : decode cX7_clip 19 = .ok (.ldc 162, 2) := DX7_clip_1.1
theorem dX7_clip_21 : decode cX7_clip 21 = .ok (.invokespecial 49, 3) := DX7_clip_1.2.1
theorem dX7_clip_24 : decode cX7_clip 24 = .ok (.athrow, 1) := DX7_clip_1.2.2.1
theorem dX7_clip_25 : decode cX7_clip 25 = .ok (.aload_n 0, 1) := DX7_clip_1.2.2.2.1
theorem dX7_clip_26 : decode cX7_clip 26 = .ok (.getfield 12, 3) := DX7_clip_1.2.2.2.2.1
theorem dX7_clip_29 : decode cX7_clip 29 = .ok (.getfield 100, 3) := DX7_clip_1.2.2.2.2.2.1
theorem dX7_clip_32 : decode cX7_clip 32 = .ok (.iload_n 1, 1) := DX7_clip_1.2.2.2.2.2.2.1
theorem dX7_clip_33 : decode cX7_clip 33 = .ok (.aaload, 1) := DX7_clip_1.2.2.2.2.2.2.2.1
theorem dX7_clip_34 : decode cX7_clip 34 = .ok (.iload_n 2, 1) := DX7_clip_1.2.2.2.2.2.2.2.2.1
theorem dX7_clip_35 : decode cX7_clip 35 = .ok (.invokevirtual 164, 3) := DX7_clip_1.2.2.2.2.2.2.2.2.2
set_option maxRecDepth 100000 in
theorem DX7_clip_2 : decode cX7_clip 38 = .ok (.ireturn, 1) := by decide +kernel
theorem dX7_clip_38 : decode cX7_clip 38 = .ok (.ireturn, 1) := DX7_clip_2
set_option maxRecDepth 100000 in
theorem DX7_clipValue_0 : decode cX7_clipValue 0 = .ok (.aload_n 0, 1) ∧ decode cX7_clipValue 1 = .ok (.iload_n 1, 1) ∧ decode cX7_clipValue 2 = .ok (.invokevirtual 95, 3) ∧ decode cX7_clipValue 5 = .ok (.aload_n 0, 1) ∧ decode cX7_clipValue 6 = .ok (.getfield 12, 3) ∧ decode cX7_clipValue 9 = .ok (.getfield 100, 3) ∧ decode cX7_clipValue 12 = .ok (.iload_n 1, 1) ∧ decode cX7_clipValue 13 = .ok (.aaload, 1) ∧ decode cX7_clipValue 14 = .ok (.iload_n 2, 1) ∧ decode cX7_clipValue 15 = .ok (.invokevirtual 167, 3) := by decide +kernel
theorem dX7_clipValue_0 : decode cX7_clipValue 0 = .ok (.aload_n 0, 1) := DX7_clipValue_0.1
theorem dX7_clipValue_1 : decode cX7_clipValue 1 = .ok (.iload_n 1, 1) := DX7_clipValue_0.2.1
theorem dX7_clipValue_2 : decode cX7_clipValue 2 = .ok (.invokevirtual 95, 3) := DX7_clipValue_0.2.2.1
theorem dX7_clipValue_5 : decode cX7_clipValue 5 = .ok (.aload_n 0, 1) := DX7_clipValue_0.2.2.2.1
theorem dX7_clipValue_6 : decode cX7_clipValue 6 = .ok (.getfield 12, 3) := DX7_clipValue_0.2.2.2.2.1
theorem dX7_clipValue_9 : decode cX7_clipValue 9 = .ok (.getfield 100, 3) := DX7_clipValue_0.2.2.2.2.2.1
theorem dX7_clipValue_12 : decode cX7_clipValue 12 = .ok (.iload_n 1, 1) := DX7_clipValue_0.2.2.2.2.2.2.1
theorem dX7_clipValue_13 : decode cX7_clipValue 13 = .ok (.aaload, 1) := DX7_clipValue_0.2.2.2.2.2.2.2.1
theorem dX7_clipValue_14 : decode cX7_clipValue 14 = .ok (.iload_n 2, 1) := DX7_clipValue_0.2.2.2.2.2.2.2.2.1
theorem dX7_clipValue_15 : decode cX7_clipValue 15 = .ok (.invokevirtual 167, 3) := DX7_clipValue_0.2.2.2.2.2.2.2.2.2
set_option maxRecDepth 100000 in
theorem DX7_clipValue_1 : decode cX7_clipValue 18 = .ok (.ifCond .ne 13, 3) ∧ decode cX7_clipValue 21 = .ok (.new 45, 3) ∧ decode cX7_clipValue 24 = .ok (.dup, 1) ∧ decode cX7_clipValue 25 = .ok (.ldc 171, 2) ∧ decode cX7_clipValue 27 = .ok (.invokespecial 49, 3) ∧ decode cX7_clipValue 30 = .ok (.athrow, 1) ∧ decode cX7_clipValue 31 = .ok (.aload_n 0, 1) ∧ decode cX7_clipValue 32 = .ok (.getfield 12, 3) ∧ decode cX7_clipValue 35 = .ok (.aload_n 0, 1) ∧ decode cX7_clipValue 36 = .ok (.getfield 12, 3) := by decide +kernel
theorem dX7_clipValue_18 : decode cX7_clipValue 18 = .ok (.ifCond .ne 13, 3) := DX7_clipValue_1.1
theorem dX7_clipValue_21 : decode cX7_clipValue 21 = .ok (.new 45, 3) := DX7_clipValue_1.2.1
theorem dX7_clipValue_24 : decode cX7_clipValue 24 = .ok (.dup, 1) := DX7_clipValue_1.2.2.1
theorem dX7_clipValue_25 : decode cX7_clipValue 25 = .ok (.ldc 171, 2) := DX7_clipValue_1.2.2.2.1
theorem dX7_clipValue_27 : decode cX7_clipValue 27 = .ok (.invokespecial 49, 3) := DX7_clipValue_1.2.2.2.2.1
theorem dX7_clipValue_30 : decode cX7_clipValue 30 = .ok (.athrow, 1) := DX7_clipValue_1.2.2.2.2.2.1
theorem dX7_clipValue_31 : decode cX7_clipValue 31 = .ok (.aload_n 0, 1) := DX7_clipValue_1.2.2.2.2.2.2.1
theorem dX7_clipValue_32 : decode cX7_clipValue 32 = .ok (.getfield 12, 3) := DX7_clipValue_1.2.2.2.2.2.2.2.1
theorem dX7_clipValue_35 : decode cX7_clipValue 35 = .ok (.aload_n 0, 1) := DX7_clipValue_1.2.2.2.2.2.2.2.2.1
theorem dX7_clipValue_36 : decode cX7_clipValue 36 = .ok (.getfield 12, 3) := DX7_clipValue_1.2.2.2.2.2.2.2.2.2
set_option maxRecDepth 100000 in
theorem DX7_clipValue_2 : decode cX7_clipValue 39 = .ok (.getfield 100, 3) ∧ decode cX7_clipValue 42 = .ok (.iload_n 1, 1) ∧ decode cX7_clipValue 43 = .ok (.aaload, 1) ∧ decode cX7_clipValue 44 = .ok (.iload_n 2, 1) ∧ decode cX7_clipValue 45 = .ok (.invokevirtual 173, 3) ∧ decode cX7_clipValue 48 = .ok (.ireturn, 1) := by decide +kernel
theorem dX7_clipValue_39 : decode cX7_clipValue 39 = .ok (.getfield 100, 3) := DX7_clipValue_2.1
theorem dX7_clipValue_42 : decode cX7_clipValue 42 = .ok (.iload_n 1, 1) := DX7_clipValue_2.2.1
theorem dX7_clipValue_43 : decode cX7_clipValue 43 = .ok (.aaload, 1) := DX7_clipValue_2.2.2.1
theorem dX7_clipValue_44 : decode cX7_clipValue 44 = .ok (.iload_n 2, 1) := DX7_clipValue_2.2.2.2.1
theorem dX7_clipValue_45 : decode cX7_clipValue 45 = .ok (.invokevirtual 173, 3) := DX7_clipValue_2.2.2.2.2.1
theorem dX7_clipValue_48 : decode cX7_clipValue 48 = .ok (.ireturn, 1) := DX7_clipValue_2.2.2.2.2.2
set_option maxRecDepth 100000 in
theorem DX7_setTrack_0 : decode cX7_setTrack 0 = .ok (.iload_n 1, 1) ∧ decode cX7_setTrack 1 = .ok (.invokestatic 147, 3) ∧ decode cX7_setTrack 4 = .ok (.iload_n 2, 1) ∧ decode cX7_setTrack 5 = .ok (.iconst 0, 1) ∧ decode cX7_setTrack 6 = .ok (.sipush 2000, 3) ∧ decode cX7_setTrack 9 = .ok (.invokestatic 41, 3) ∧ decode cX7_setTrack 12 = .ok (.ifCond .ne 14, 3) ∧ decode cX7_setTrack 15 = .ok (.iload_n 3, 1) ∧ decode cX7_setTrack 16 = .ok (.bipush (-100), 2) ∧ decode cX7_setTrack 18 = .ok (.bipush 100, 2) := by decide +kernel
theorem dX7_setTrack_0 : decode cX7_setTrack 0 = .ok (.iload_n 1, 1) := DX7_setTrack_0.1
theorem dX7_setTrack_1 : decode cX7_setTrack 1 = .ok (.invokestatic 147, 3) := DX7_setTrack_0.2.1
theorem dX7_setTrack_4 : decode cX7_setTrack 4 = .ok (.iload_n 2, 1) := DX7_setTrack_0.2.2.1
theorem dX7_setTrack_5 : decode cX7_setTrack 5 = .ok (.iconst 0, 1) := DX7_setTrack_0.2.2.2.1
theorem dX7_setTrack_6 : decode cX7_setTrack 6 = .ok (.sipush 2000, 3) := DX7_setTrack_0.2.2.2.2.1
theorem dX7_setTrack_9 : decode cX7_setTrack 9 = .ok (.invokestatic 41, 3) := DX7_setTrack_0.2.2.2.2.2.1
theorem dX7_setTrack_12 : decode cX7_setTrack 12 = .ok (.ifCond .ne 14, 3) := DX7_setTrack_0.2.2.2.2.2.2.1
theorem dX7_setTrack_15 : decode cX7_setTrack 15 = .ok (.iload_n 3, 1) := DX7_setTrack_0.2.2.2.2.2.2.2.1
theorem dX7_setTrack_16 : decode cX7_setTrack 16 = .ok (.bipush (-100), 2) := DX7_setTrack_0.2.2.2.2.2.2.2.2.1
theorem dX7_setTrack_18 : decode cX7_setTrack 18 = .ok (.bipush 100, 2) := DX7_setTrack_0.2.2.2.2.2.2.2.2.2
set_option maxRecDepth 100000 in
theorem DX7_setTrack_1 : decode cX7_setTrack 20 = .ok (.invokestatic 41, 3) ∧ decode cX7_setTrack 23 = .ok (.ifCond .eq 13, 3) ∧ decode cX7_setTrack 26 = .ok (.new 45, 3) ∧ decode cX7_setTrack 29 = .ok (.dup, 1) ∧ decode cX7_setTrack 30 = .ok (.ldc 177, 2) ∧ decode cX7_setTrack 32 = .ok (.invokespecial 49, 3) ∧ decode cX7_setTrack 35 = .ok (.athrow, 1) ∧ decode cX7_setTrack 36 = .ok (.aload_n 0, 1) ∧ decode cX7_setTrack 37 = .ok (.getfield 12, 3) ∧ decode cX7_setTrack 40 = .ok (.getfield 179, 3) := by decide +kernel
theorem dX7_setTrack_20 : decode cX7_setTrack 20 = .ok (.invokestatic 41, 3) := DX7_setTrack_1.1
theorem dX7_setTrack_23 : decode cX7_setTrack 23 = .ok (.ifCond .eq 13, 3) := DX7_setTrack_1.2.1
theorem dX7_setTrack_26 : decode cX7_setTrack 26 = .ok (.new 45, 3) := DX7_setTrack_1.2.2.1
theorem dX7_setTrack_29 : decode cX7_setTrack 29 = .ok (.dup, 1) := DX7_setTrack_1.2.2.2.1
theorem dX7_setTrack_30 : decode cX7_setTrack 30 = .ok (.ldc 177, 2) := DX7_setTrack_1.2.2.2.2.1
theorem dX7_setTrack_32 : decode cX7_setTrack 32 = .ok (.invokespecial 49, 3) := DX7_setTrack_1.2.2.2.2.2.1
theorem dX7_setTrack_35 : decode cX7_setTrack 35 = .ok (.athrow, 1) := DX7_setTrack_1.2.2.2.2.2.2.1
theorem dX7_setTrack_36 : decode cX7_setTrack 36 = .ok (.aload_n 0, 1) := DX7_setTrack_1.2.2.2.2.2.2.2.1
theorem dX7_setTrack_37 : decode cX7_setTrack 37 = .ok (.getfield 12, 3) := DX7_setTrack_1.2.2.2.2.2.2.2.2.1
theorem dX7_setTrack_40 : decode cX7_setTrack 40 = .ok (.getfield 179, 3) := DX7_setTrack_1.2.2.2.2.2.2.2.2.2
set_option maxRecDepth 100000 in
theorem DX7_setTrack_2 : decode cX7_setTrack 43 = .ok (.iload_n 1, 1) ∧ decode cX7_setTrack 44 = .ok (.aaload, 1) ∧ decode cX7_setTrack 45 = .ok (.getfield 183, 3) ∧ decode cX7_setTrack 48 = .ok (.istore 6, 2) ∧ decode cX7_setTrack 50 = .ok (.aload_n 0, 1) ∧ decode cX7_setTrack 51 = .ok (.invokevirtual 62, 3) ∧ decode cX7_setTrack 54 = .ok (.getfield 179, 3) ∧ decode cX7_setTrack 57 = .ok (.iload_n 1, 1) ∧ decode cX7_setTrack 58 = .ok (.aaload, 1) ∧ decode cX7_setTrack 59 = .ok (.astore 7, 2) := by decide +kernel
theorem dX7_setTrack_43 : decode cX7_setTrack 43 = .ok (.iload_n 1, 1) := DX7_setTrack_2.1
theorem dX7_setTrack_44 : decode cX7_setTrack 44 = .ok (.aaload, 1) := DX7_setTrack_2.2.1
theorem dX7_setTrack_45 : decode cX7_setTrack 45 = .ok (.getfield 183, 3) := DX7_setTrack_2.2.2.1
theorem dX7_setTrack_48 : decode cX7_setTrack 48 = .ok (.istore 6, 2) := DX7_setTrack_2.2.2.2.1
theorem dX7_setTrack_50 : decode cX7_setTrack 50 = .ok (.aload_n 0, 1) := DX7_setTrack_2.2.2.2.2.1
theorem dX7_setTrack_51 : decode cX7_setTrack 51 = .ok (.invokevirtual 62, 3) := DX7_setTrack_2.2.2.2.2.2.1
theorem dX7_setTrack_54 : decode cX7_setTrack 54 = .ok (.getfield 179, 3) := DX7_setTrack_2.2.2.2.2.2.2.1
theorem dX7_setTrack_57 : decode cX7_setTrack 57 = .ok (.iload_n 1, 1) := DX7_setTrack_2.2.2.2.2.2.2.2.1
theorem dX7_setTrack_58 : decode cX7_setTrack 58 = .ok (.aaload, 1) := DX7_setTrack_2.2.2.2.2.2.2.2.2.1
theorem dX7_setTrack_59 : decode cX7_setTrack 59 = .ok (.astore 7, 2) := DX7_setTrack_2.2.2.2.2.2.2.2.2.2
set_option maxRecDepth 100000 in
theorem DX7_setTrack_3 : decode cX7_setTrack 61 = .ok (.aload 7, 2) ∧ decode cX7_setTrack 63 = .ok (.iload_n 2, 1) ∧ decode cX7_setTrack 64 = .ok (.putfield 183, 3) ∧ decode cX7_setTrack 67 = .ok (.aload 7, 2) ∧ decode cX7_setTrack 69 = .ok (.iload_n 3, 1) ∧ decode cX7_setTrack 70 = .ok (.putfield 188, 3) ∧ decode cX7_setTrack 73 = .ok (.aload 7, 2) ∧ decode cX7_setTrack 75 = .ok (.iload 4, 2) ∧ decode cX7_setTrack 77 = .ok (.putfield 191, 3) ∧ decode cX7_setTrack 80 = .ok (.aload 7, 2) := by decide +kernel
theorem dX7_setTrack_61 : decode cX7_setTrack 61 = .ok (.aload 7, 2) := DX7_setTrack_3.1
theorem dX7_setTrack_63 : decode cX7_setTrack 63 = .ok (.iload_n 2, 1) := DX7_setTrack_3.2.1
theorem dX7_setTrack_64 : decode cX7_setTrack 64 = .ok (.putfield 183, 3) := DX7_setTrack_3.2.2.1
theorem dX7_setTrack_67 : decode cX7_setTrack 67 = .ok (.aload 7, 2) := DX7_setTrack_3.2.2.2.1
theorem dX7_setTrack_69 : decode cX7_setTrack 69 = .ok (.iload_n 3, 1) := DX7_setTrack_3.2.2.2.2.1
theorem dX7_setTrack_70 : decode cX7_setTrack 70 = .ok (.putfield 188, 3) := DX7_setTrack_3.2.2.2.2.2.1
theorem dX7_setTrack_73 : decode cX7_setTrack 73 = .ok (.aload 7, 2) := DX7_setTrack_3.2.2.2.2.2.2.1
theorem dX7_setTrack_75 : decode cX7_setTrack 75 = .ok (.iload 4, 2) := DX7_setTrack_3.2.2.2.2.2.2.2.1
theorem dX7_setTrack_77 : decode cX7_setTrack 77 = .ok (.putfield 191, 3) := DX7_setTrack_3.2.2.2.2.2.2.2.2.1
theorem dX7_setTrack_80 : decode cX7_setTrack 80 = .ok (.aload 7, 2) := DX7_setTrack_3.2.2.2.2.2.2.2.2.2
set_option maxRecDepth 100000 in
theorem DX7_setTrack_4 : decode cX7_setTrack 82 = .ok (.iload 5, 2) ∧ decode cX7_setTrack 84 = .ok (.putfield 195, 3) ∧ decode cX7_setTrack 87 = .ok (.aload_n 0, 1) ∧ decode cX7_setTrack 88 = .ok (.invokevirtual 70, 3) ∧ decode cX7_setTrack 91 = .ok (.iload 6, 2) ∧ decode cX7_setTrack 93 = .ok (.ireturn, 1) := by decide +kernel
theorem dX7_setTrack_82 : decode cX7_setTrack 82 = .ok (.iload 5, 2) := DX7_setTrack_4.1
theorem dX7_setTrack_84 : decode cX7_setTrack 84 = .ok (.putfield 195, 3) := DX7_setTrack_4.2.1
theorem dX7_setTrack_87 : decode cX7_setTrack 87 = .ok (.aload_n 0, 1) := DX7_setTrack_4.2.2.1
theorem dX7_setTrack_88 : decode cX7_setTrack 88 = .ok (.invokevirtual 70, 3) := DX7_setTrack_4.2.2.2.1
theorem dX7_setTrack_91 : decode cX7_setTrack 91 = .ok (.iload 6, 2) := DX7_setTrack_4.2.2.2.2.1
theorem dX7_setTrack_93 : decode cX7_setTrack 93 = .ok (.ireturn, 1) := DX7_setTrack_4.2.2.2.2.2
set_option maxRecDepth 100000 in
theorem DX7_setPoint_0 : decode cX7_setPoint 0 = .ok (.iload_n 1, 1) ∧ decode cX7_setPoint 1 = .ok (.invokestatic 147, 3) ∧ decode cX7_setPoint 4 = .ok (.iload_n 2, 1) ∧ decode cX7_setPoint 5 = .ok (.invokestatic 198, 3) ∧ decode cX7_setPoint 8 = .ok (.iload_n 3, 1) ∧ decode cX7_setPoint 9 = .ok (.iconst 0, 1) ∧ decode cX7_setPoint 10 = .ok (.sipush 2000, 3) ∧ decode cX7_setPoint 13 = .ok (.invokestatic 41, 3) ∧ decode cX7_setPoint 16 = .ok (.ifCond .eq 13, 3) ∧ decode cX7_setPoint 19 = .ok (.new 45, 3) := by decide +kernel
theorem dX7_setPoint_0 : decode cX7_setPoint 0 = .ok (.iload_n 1, 1) := DX7_setPoint_0.1
theorem dX7_setPoint_1 : decode cX7_setPoint 1 = .ok (.invokestatic 147, 3) := DX7_setPoint_0.2.1
theorem dX7_setPoint_4 : decode cX7_setPoint 4 = .ok (.iload_n 2, 1) := DX7_setPoint_0.2.2.1
theorem dX7_setPoint_5 : decode cX7_setPoint 5 = .ok (.invokestatic 198, 3) := DX7_setPoint_0.2.2.2.1
theorem dX7_setPoint_8 : decode cX7_setPoint 8 = .ok (.iload_n 3, 1) := DX7_setPoint_0.2.2.2.2.1
theorem dX7_setPoint_9 : decode cX7_setPoint 9 = .ok (.iconst 0, 1) := DX7_setPoint_0.2.2.2.2.2.1
theorem dX7_setPoint_10 : decode cX7_setPoint 10 = .ok (.sipush 2000, 3) := DX7_setPoint_0.2.2.2.2.2.2.1
theorem dX7_setPoint_13 : decode cX7_setPoint 13 = .ok (.invokestatic 41, 3) := DX7_setPoint_0.2.2.2.2.2.2.2.1
theorem dX7_setPoint_16 : decode cX7_setPoint 16 = .ok (.ifCond .eq 13, 3) := DX7_setPoint_0.2.2.2.2.2.2.2.2.1
theorem dX7_setPoint_19 : decode cX7_setPoint 19 = .ok (.new 45, 3) := DX7_setPoint_0.2.2.2.2.2.2.2.2.2
set_option maxRecDepth 100000 in
theorem DX7_setPoint_1 : decode cX7_setPoint 22 = .ok (.dup, 1) ∧ decode cX7_setPoint 23 = .ok (.ldc 201, 2) ∧ decode cX7_setPoint 25 = .ok (.invokespecial 49, 3) ∧ decode cX7_setPoint 28 = .ok (.athrow, 1) ∧ decode cX7_setPoint 29 = .ok (.aload_n 0, 1) ∧ decode cX7_setPoint 30 = .ok (.getfield 12, 3) ∧ decode cX7_setPoint 33 = .ok (.getfield 179, 3) ∧ decode cX7_setPoint 36 = .ok (.iload_n 1, 1) ∧ decode cX7_setPoint 37 = .ok (.aaload, 1) ∧ decode cX7_setPoint 38 = .ok (.astore 5, 2) := by decide +kernel
theorem dX7_setPoint_22 : decode cX7_setPoint 22 = .ok (.dup, 1) := DX7_setPoint_1.1
theorem dX7_setPoint_23 : decode cX7_setPoint 23 = .ok (.ldc 201, 2) := DX7_setPoint_1.2.1
theorem dX7_setPoint_25 : decode cX7_setPoint 25 = .ok (.invokespecial 49, 3) := DX7_setPoint_1.2.2.1
theorem dX7_setPoint_28 : decode cX7_setPoint 28 = .ok (.athrow, 1) := DX7_setPoint_1.2.2.2.1
theorem dX7_setPoint_29 : decode cX7_setPoint 29 = .ok (.aload_n 0, 1) := DX7_setPoint_1.2.2.2.2.1
theorem dX7_setPoint_30 : decode cX7_setPoint 30 = .ok (.getfield 12, 3) := DX7_setPoint_1.2.2.2.2.2.1
theorem dX7_setPoint_33 : decode cX7_setPoint 33 = .ok (.getfield 179, 3) := DX7_setPoint_1.2.2.2.2.2.2.1
theorem dX7_setPoint_36 : decode cX7_setPoint 36 = .ok (.iload_n 1, 1) := DX7_setPoint_1.2.2.2.2.2.2.2.1
theorem dX7_setPoint_37 : decode cX7_setPoint 37 = .ok (.aaload, 1) := DX7_setPoint_1.2.2.2.2.2.2.2.2.1
theorem dX7_setPoint_38 : decode cX7_setPoint 38 = .ok (.astore 5, 2) := DX7_setPoint_1.2.2.2.2.2.2.2.2.2
set_option maxRecDepth 100000 in
theorem DX7_setPoint_2 : decode cX7_setPoint 40 = .ok (.aload 5, 2) ∧ decode cX7_setPoint 42 = .ok (.getfield 203, 3) ∧ decode cX7_setPoint 45 = .ok (.bipush 8, 2) ∧ decode cX7_setPoint 47 = .ok (.if_icmp .lt 23, 3) ∧ decode cX7_setPoint 50 = .ok (.aload 5, 2) ∧ decode cX7_setPoint 52 = .ok (.iload_n 2, 1) ∧ decode cX7_setPoint 53 = .ok (.invokevirtual 206, 3) ∧ decode cX7_setPoint 56 = .ok (.iconst (-1), 1) ∧ decode cX7_setPoint 57 = .ok (.if_icmp .ne 13, 3) ∧ decode cX7_setPoint 60 = .ok (.new 209, 3) := by decide +kernel
theorem dX7_setPoint_40 : decode cX7_setPoint 40 = .ok (.aload 5, 2) := DX7_setPoint_2.1
theorem dX7_setPoint_42 : decode cX7_setPoint 42 = .ok (.getfield 203, 3) := DX7_setPoint_2.2.1
theorem dX7_setPoint_45 : decode cX7_setPoint 45 = .ok (.bipush 8, 2) := DX7_setPoint_2.2.2.1
theorem dX7_setPoint_47 : decode cX7_setPoint 47 = .ok (.if_icmp .lt 23, 3) := DX7_setPoint_2.2.2.2.1
theorem dX7_setPoint_50 : decode cX7_setPoint 50 = .ok (.aload 5, 2) := DX7_setPoint_2.2.2.2.2.1
theorem dX7_setPoint_52 : decode cX7_setPoint 52 = .ok (.iload_n 2, 1) := DX7_setPoint_2.2.2.2.2.2.1
theorem dX7_setPoint_53 : decode cX7_setPoint 53 = .ok (.invokevirtual 206, 3) := DX7_setPoint_2.2.2.2.2.2.2.1
theorem dX7_setPoint_56 : decode cX7_setPoint 56 = .ok (.iconst (-1), 1) := DX7_setPoint_2.2.2.2.2.2.2.2.1
theorem dX7_setPoint_57 : decode cX7_setPoint 57 = .ok (.if_icmp .ne 13, 3) := DX7_setPoint_2.2.2.2.2.2.2.2.2.1
theorem dX7_setPoint_60 : decode cX7_setPoint 60 = .ok (.new 209, 3) := DX7_setPoint_2.2.2.2.2.2.2.2.2.2
set_option maxRecDepth 100000 in
theorem DX7_setPoint_3 : decode cX7_setPoint 63 = .ok (.dup, 1) ∧ decode cX7_setPoint 64 = .ok (.ldc 211, 2) ∧ decode cX7_setPoint 66 = .ok (.invokespecial 213, 3) ∧ decode cX7_setPoint 69 = .ok (.athrow, 1) ∧ decode cX7_setPoint 70 = .ok (.aload_n 0, 1) ∧ decode cX7_setPoint 71 = .ok (.invokevirtual 62, 3) ∧ decode cX7_setPoint 74 = .ok (.getfield 179, 3) ∧ decode cX7_setPoint 77 = .ok (.iload_n 1, 1) ∧ decode cX7_setPoint 78 = .ok (.aaload, 1) ∧ decode cX7_setPoint 79 = .ok (.iload_n 2, 1) := by decide +kernel
theorem dX7_setPoint_63 : decode cX7_setPoint 63 = .ok (.dup, 1) := DX7_setPoint_3.1
theorem dX7_setPoint_64 : decode cX7_setPoint 64 = .ok (.ldc 211, 2) := DX7_setPoint_3.2.1
theorem dX7_setPoint_66 : decode cX7_setPoint 66 = .ok (.invokespecial 213, 3) := DX7_setPoint_3.2.2.1
theorem dX7_setPoint_69 : decode cX7_setPoint 69 = .ok (.athrow, 1) := DX7_setPoint_3.2.2.2.1
theorem dX7_setPoint_70 : decode cX7_setPoint 70 = .ok (.aload_n 0, 1) := DX7_setPoint_3.2.2.2.2.1
theorem dX7_setPoint_71 : decode cX7_setPoint 71 = .ok (.invokevirtual 62, 3) := DX7_setPoint_3.2.2.2.2.2.1
theorem dX7_setPoint_74 : decode cX7_setPoint 74 = .ok (.getfield 179, 3) := DX7_setPoint_3.2.2.2.2.2.2.1
theorem dX7_setPoint_77 : decode cX7_setPoint 77 = .ok (.iload_n 1, 1) := DX7_setPoint_3.2.2.2.2.2.2.2.1
theorem dX7_setPoint_78 : decode cX7_setPoint 78 = .ok (.aaload, 1) := DX7_setPoint_3.2.2.2.2.2.2.2.2.1
theorem dX7_setPoint_79 : decode cX7_setPoint 79 = .ok (.iload_n 2, 1) := DX7_setPoint_3.2.2.2.2.2.2.2.2.2
set_option maxRecDepth 100000 in
theorem DX7_setPoint_4 : decode cX7_setPoint 80 = .ok (.iload_n 3, 1) ∧ decode cX7_setPoint 81 = .ok (.iload 4, 2) ∧ decode cX7_setPoint 83 = .ok (.invokevirtual 214, 3) ∧ decode cX7_setPoint 86 = .ok (.aload_n 0, 1) ∧ decode cX7_setPoint 87 = .ok (.invokevirtual 70, 3) ∧ decode cX7_setPoint 90 = .ok (.aload_n 0, 1) ∧ decode cX7_setPoint 91 = .ok (.getfield 12, 3) ∧ decode cX7_setPoint 94 = .ok (.getfield 179, 3) ∧ decode cX7_setPoint 97 = .ok (.iload_n 1, 1) ∧ decode cX7_setPoint 98 = .ok (.aaload, 1) := by decide +kernel
theorem dX7_setPoint_80 : decode cX7_setPoint 80 = .ok (.iload_n 3, 1) := DX7_setPoint_4.1
theorem dX7_setPoint_81 : decode cX7_setPoint 81 = .ok (.iload 4, 2) := DX7_setPoint_4.2.1
theorem dX7_setPoint_83 : decode cX7_setPoint 83 = .ok (.invokevirtual 214, 3) := DX7_setPoint_4.2.2.1
theorem dX7_setPoint_86 : decode cX7_setPoint 86 = .ok (.aload_n 0, 1) := DX7_setPoint_4.2.2.2.1
theorem dX7_setPoint_87 : decode cX7_setPoint 87 = .ok (.invokevirtual 70, 3) := DX7_setPoint_4.2.2.2.2.1
theorem dX7_setPoint_90 : decode cX7_setPoint 90 = .ok (.aload_n 0, 1) := DX7_setPoint_4.2.2.2.2.2.1
theorem dX7_setPoint_91 : decode cX7_setPoint 91 = .ok (.getfield 12, 3) := DX7_setPoint_4.2.2.2.2.2.2.1
theorem dX7_setPoint_94 : decode cX7_setPoint 94 = .ok (.getfield 179, 3) := DX7_setPoint_4.2.2.2.2.2.2.2.1
theorem dX7_setPoint_97 : decode cX7_setPoint 97 = .ok (.iload_n 1, 1) := DX7_setPoint_4.2.2.2.2.2.2.2.2.1
theorem dX7_setPoint_98 : decode cX7_setPoint 98 = .ok (.aaload, 1) := DX7_setPoint_4.2.2.2.2.2.2.2.2.2
set_option maxRecDepth 100000 in
theorem DX7_setPoint_5 : decode cX7_setPoint 99 = .ok (.getfield 203, 3) ∧ decode cX7_setPoint 102 = .ok (.ireturn, 1) := by decide +kernel
theorem dX7_setPoint_99 : decode cX7_setPoint 99 = .ok (.getfield 203, 3) := DX7_setPoint_5.1
theorem dX7_setPoint_102 : decode cX7_setPoint 102 = .ok (.ireturn, 1) := DX7_setPoint_5.2
set_option maxRecDepth 100000 in
theorem DX7_removePoint_0 : decode cX7_removePoint 0 = .ok (.iload_n 1, 1) ∧ decode cX7_removePoint 1 = .ok (.invokestatic 147, 3) ∧ decode cX7_removePoint 4 = .ok (.aload_n 0, 1) ∧ decode cX7_removePoint 5 = .ok (.getfield 12, 3) ∧ decode cX7_removePoint 8 = .ok (.getfield 179, 3) ∧ decode cX7_removePoint 11 = .ok (.iload_n 1, 1) ∧ decode cX7_removePoint 12 = .ok (.aaload, 1) ∧ decode cX7_removePoint 13 = .ok (.iload_n 2, 1) ∧ decode cX7_removePoint 14 = .ok (.invokevirtual 206, 3) ∧ decode cX7_removePoint 17 = .ok (.istore_n 3, 1) := by decide +kernel
theorem dX7_removePoint_0 : decode cX7_removePoint 0 = .ok (.iload_n 1, 1) := DX7_removePoint_0.1
theorem dX7_removePoint_1 : decode cX7_removePoint 1 = .ok (.invokestatic 147, 3) := DX7_removePoint_0.2.1
theorem dX7_removePoint_4 : decode cX7_removePoint 4 = .ok (.aload_n 0, 1) := DX7_removePoint_0.2.2.1
theorem dX7_removePoint_5 : decode cX7_removePoint 5 = .ok (.getfield 12, 3) := DX7_removePoint_0.2.2.2.1
theorem dX7_removePoint_8 : decode cX7_removePoint 8 = .ok (.getfield 179, 3) := DX7_removePoint_0.2.2.2.2.1
theorem dX7_removePoint_11 : decode cX7_removePoint 11 = .ok (.iload_n 1, 1) := DX7_removePoint_0.2.2.2.2.2.1
theorem dX7_removePoint_12 : decode cX7_removePoint 12 = .ok (.aaload, 1) := DX7_removePoint_0.2.2.2.2.2.2.1
theorem dX7_removePoint_13 : decode cX7_removePoint 13 = .ok (.iload_n 2, 1) := DX7_removePoint_0.2.2.2.2.2.2.2.1
theorem dX7_removePoint_14 : decode cX7_removePoint 14 = .ok (.invokevirtual 206, 3) := DX7_removePoint_0.2.2.2.2.2.2.2.2.1
theorem dX7_removePoint_17 : decode cX7_removePoint 17 = .ok (.istore_n 3, 1) := DX7_removePoint_0.2.2.2.2.2.2.2.2.2
set_option maxRecDepth 100000 in
theorem DX7_removePoint_1 : decode cX7_removePoint 18 = .ok (.iload_n 3, 1) ∧ decode cX7_removePoint 19 = .ok (.iconst (-1), 1) ∧ decode cX7_removePoint 20 = .ok (.if_icmp .ne 13, 3) ∧ decode cX7_removePoint 23 = .ok (.new 45, 3) ∧ decode cX7_removePoint 26 = .ok (.dup, 1) ∧ decode cX7_removePoint 27 = .ok (.ldc 218, 2) ∧ decode cX7_removePoint 29 = .ok (.invokespecial 49, 3) ∧ decode cX7_removePoint 32 = .ok (.athrow, 1) ∧ decode cX7_removePoint 33 = .ok (.aload_n 0, 1) ∧ decode cX7_removePoint 34 = .ok (.invokevirtual 62, 3) := by decide +kernel
theorem dX7_removePoint_18 : decode cX7_removePoint 18 = .ok (.iload_n 3, 1) := DX7_removePoint_1.1
theorem dX7_removePoint_19 : decode cX7_removePoint 19 = .ok (.iconst (-1), 1) := DX7_removePoint_1.2.1
theorem dX7_removePoint_20 : decode cX7_removePoint 20 = .ok (.if_icmp .ne 13, 3) := DX7_removePoint_1.2.2.1
theorem dX7_removePoint_23 : decode cX7_removePoint 23 = .ok (.new 45, 3) := DX7_removePoint_1.2.2.2.1
theorem dX7_removePoint_26 : decode cX7_removePoint 26 = .ok (.dup, 1) := DX7_removePoint_1.2.2.2.2.1
theorem dX7_removePoint_27 : decode cX7_removePoint 27 = .ok (.ldc 218, 2) := DX7_removePoint_1.2.2.2.2.2.1
theorem dX7_removePoint_29 : decode cX7_removePoint 29 = .ok (.invokespecial 49, 3) := DX7_removePoint_1.2.2.2.2.2.2.1
theorem dX7_removePoint_32 : decode cX7_removePoint 32 = .ok (.athrow, 1) := DX7_removePoint_1.2.2.2.2.2.2.2.1
theorem dX7_removePoint_33 : decode cX7_removePoint 33 = .ok (.aload_n 0, 1) := DX7_removePoint_1.2.2.2.2.2.2.2.2.1
theorem dX7_removePoint_34 : decode cX7_removePoint 34 = .ok (.invokevirtual 62, 3) := DX7_removePoint_1.2.2.2.2.2.2.2.2.2
set_option maxRecDepth 100000 in
theorem DX7_removePoint_2 : decode cX7_removePoint 37 = .ok (.getfield 179, 3) ∧ decode cX7_removePoint 40 = .ok (.iload_n 1, 1) ∧ decode cX7_removePoint 41 = .ok (.aaload, 1) ∧ decode cX7_removePoint 42 = .ok (.iload_n 3, 1) ∧ decode cX7_removePoint 43 = .ok (.invokevirtual 220, 3) ∧ decode cX7_removePoint 46 = .ok (.aload_n 0, 1) ∧ decode cX7_removePoint 47 = .ok (.invokevirtual 70, 3) ∧ decode cX7_removePoint 50 = .ok (.aload_n 0, 1) ∧ decode cX7_removePoint 51 = .ok (.getfield 12, 3) ∧ decode cX7_removePoint 54 = .ok (.getfield 179, 3) := by decide +kernel
theorem dX7_removePoint_37 : decode cX7_removePoint 37 = .ok (.getfield 179, 3) := DX7_removePoint_2.1
theorem dX7_removePoint_40 : decode cX7_removePoint 40 = .ok (.iload_n 1, 1) := DX7_removePoint_2.2.1
theorem dX7_removePoint_41 : decode cX7_removePoint 41 = .ok (.aaload, 1) := DX7_removePoint_2.2.2.1
theorem dX7_removePoint_42 : decode cX7_removePoint 42 = .ok (.iload_n 3, 1) := DX7_removePoint_2.2.2.2.1
theorem dX7_removePoint_43 : decode cX7_removePoint 43 = .ok (.invokevirtual 220, 3) := DX7_removePoint_2.2.2.2.2.1
theorem dX7_removePoint_46 : decode cX7_removePoint 46 = .ok (.aload_n 0, 1) := DX7_removePoint_2.2.2.2.2.2.1
theorem dX7_removePoint_47 : decode cX7_removePoint 47 = .ok (.invokevirtual 70, 3) := DX7_removePoint_2.2.2.2.2.2.2.1
theorem dX7_removePoint_50 : decode cX7_removePoint 50 = .ok (.aload_n 0, 1) := DX7_removePoint_2.2.2.2.2.2.2.2.1
theorem dX7_removePoint_51 : decode cX7_removePoint 51 = .ok (.getfield 12, 3) := DX7_removePoint_2.2.2.2.2.2.2.2.2.1
theorem dX7_removePoint_54 : decode cX7_removePoint 54 = .ok (.getfield 179, 3) := DX7_removePoint_2.2.2.2.2.2.2.2.2.2
set_option maxRecDepth 100000 in
theorem DX7_removePoint_3 : decode cX7_removePoint 57 = .ok (.iload_n 1, 1) ∧ decode cX7_removePoint 58 = .ok (.aaload, 1) ∧ decode cX7_removePoint 59 = .ok (.getfield 203, 3) ∧ decode cX7_removePoint 62 = .ok (.ireturn, 1) := by decide +kernel
theorem dX7_removePoint_57 : decode cX7_removePoint 57 = .ok (.iload_n 1, 1) := DX7_removePoint_3.1
theorem dX7_removePoint_58 : decode cX7_removePoint 58 = .ok (.aaload, 1) := DX7_removePoint_3.2.1
theorem dX7_removePoint_59 : decode cX7_removePoint 59 = .ok (.getfield 203, 3) := DX7_removePoint_3.2.2.1
theorem dX7_removePoint_62 : decode cX7_removePoint 62 = .ok (.ireturn, 1) := DX7_removePoint_3.2.2.2
set_option maxRecDepth 100000 in
theorem DX7_automation_0 : decode cX7_automation 0 = .ok (.iload_n 1, 1) ∧ decode cX7_automation 1 = .ok (.invokestatic 147, 3) ∧ decode cX7_automation 4 = .ok (.iload_n 2, 1) ∧ decode cX7_automation 5 = .ok (.invokestatic 198, 3) ∧ decode cX7_automation 8 = .ok (.aload_n 0, 1) ∧ decode cX7_automation 9 = .ok (.getfield 12, 3) ∧ decode cX7_automation 12 = .ok (.getfield 179, 3) ∧ decode cX7_automation 15 = .ok (.iload_n 1, 1) ∧ decode cX7_automation 16 = .ok (.aaload, 1) ∧ decode cX7_automation 17 = .ok (.iload_n 2, 1) := by decide +kernel
theorem dX7_automation_0 : decode cX7_automation 0 = .ok (.iload_n 1, 1) := DX7_automation_0.1
theorem dX7_automation_1 : decode cX7_automation 1 = .ok (.invokestatic 147, 3) := DX7_automation_0.2.1
theorem dX7_automation_4 : decode cX7_automation 4 = .ok (.iload_n 2, 1) := DX7_automation_0.2.2.1
theorem dX7_automation_5 : decode cX7_automation 5 = .ok (.invokestatic 198, 3) := DX7_automation_0.2.2.2.1
theorem dX7_automation_8 : decode cX7_automation 8 = .ok (.aload_n 0, 1) := DX7_automation_0.2.2.2.2.1
theorem dX7_automation_9 : decode cX7_automation 9 = .ok (.getfield 12, 3) := DX7_automation_0.2.2.2.2.2.1
theorem dX7_automation_12 : decode cX7_automation 12 = .ok (.getfield 179, 3) := DX7_automation_0.2.2.2.2.2.2.1
theorem dX7_automation_15 : decode cX7_automation 15 = .ok (.iload_n 1, 1) := DX7_automation_0.2.2.2.2.2.2.2.1
theorem dX7_automation_16 : decode cX7_automation 16 = .ok (.aaload, 1) := DX7_automation_0.2.2.2.2.2.2.2.2.1
theorem dX7_automation_17 : decode cX7_automation 17 = .ok (.iload_n 2, 1) := DX7_automation_0.2.2.2.2.2.2.2.2.2
set_option maxRecDepth 100000 in
theorem DX7_automation_1 : decode cX7_automation 18 = .ok (.invokevirtual 223, 3) ∧ decode cX7_automation 21 = .ok (.ireturn, 1) := by decide +kernel
theorem dX7_automation_18 : decode cX7_automation 18 = .ok (.invokevirtual 223, 3) := DX7_automation_1.1
theorem dX7_automation_21 : decode cX7_automation 21 = .ok (.ireturn, 1) := DX7_automation_1.2
set_option maxRecDepth 100000 in
theorem DX7_duck_0 : decode cX7_duck 0 = .ok (.iload_n 1, 1) ∧ decode cX7_duck 1 = .ok (.invokestatic 147, 3) ∧ decode cX7_duck 4 = .ok (.iload_n 2, 1) ∧ decode cX7_duck 5 = .ok (.iconst 0, 1) ∧ decode cX7_duck 6 = .ok (.iconst 3, 1) ∧ decode cX7_duck 7 = .ok (.invokestatic 41, 3) ∧ decode cX7_duck 10 = .ok (.ifCond .ne 49, 3) ∧ decode cX7_duck 13 = .ok (.iload_n 3, 1) ∧ decode cX7_duck 14 = .ok (.iconst 0, 1) ∧ decode cX7_duck 15 = .ok (.ldc 226, 2) := by decide +kernel
theorem dX7_duck_0 : decode cX7_duck 0 = .ok (.iload_n 1, 1) := DX7_duck_0.1
theorem dX7_duck_1 : decode cX7_duck 1 = .ok (.invokestatic 147, 3) := DX7_duck_0.2.1
theorem dX7_duck_4 : decode cX7_duck 4 = .ok (.iload_n 2, 1) := DX7_duck_0.2.2.1
theorem dX7_duck_5 : decode cX7_duck 5 = .ok (.iconst 0, 1) := DX7_duck_0.2.2.2.1
theorem dX7_duck_6 : decode cX7_duck 6 = .ok (.iconst 3, 1) := DX7_duck_0.2.2.2.2.1
theorem dX7_duck_7 : decode cX7_duck 7 = .ok (.invokestatic 41, 3) := DX7_duck_0.2.2.2.2.2.1
theorem dX7_duck_10 : decode cX7_duck 10 = .ok (.ifCond .ne 49, 3) := DX7_duck_0.2.2.2.2.2.2.1
theorem dX7_duck_13 : decode cX7_duck 13 = .ok (.iload_n 3, 1) := DX7_duck_0.2.2.2.2.2.2.2.1
theorem dX7_duck_14 : decode cX7_duck 14 = .ok (.iconst 0, 1) := DX7_duck_0.2.2.2.2.2.2.2.2.1
theorem dX7_duck_15 : decode cX7_duck 15 = .ok (.ldc 226, 2) := DX7_duck_0.2.2.2.2.2.2.2.2.2
set_option maxRecDepth 100000 in
theorem DX7_duck_1 : decode cX7_duck 17 = .ok (.invokestatic 41, 3) ∧ decode cX7_duck 20 = .ok (.ifCond .ne 39, 3) ∧ decode cX7_duck 23 = .ok (.iload 4, 2) ∧ decode cX7_duck 25 = .ok (.iconst 0, 1) ∧ decode cX7_duck 26 = .ok (.sipush 1000, 3) ∧ decode cX7_duck 29 = .ok (.invokestatic 41, 3) ∧ decode cX7_duck 32 = .ok (.ifCond .ne 27, 3) ∧ decode cX7_duck 35 = .ok (.iload 5, 2) ∧ decode cX7_duck 37 = .ok (.iconst 1, 1) ∧ decode cX7_duck 38 = .ok (.sipush 1000, 3) := by decide +kernel
theorem dX7_duck_17 : decode cX7_duck 17 = .ok (.invokestatic 41, 3) := DX7_duck_1.1
theorem dX7_duck_20 : decode cX7_duck 20 = .ok (.ifCond .ne 39, 3) := DX7_duck_1.2.1
theorem dX7_duck_23 : decode cX7_duck 23 = .ok (.iload 4, 2) := DX7_duck_1.2.2.1
theorem dX7_duck_25 : decode cX7_duck 25 = .ok (.iconst 0, 1) := DX7_duck_1.2.2.2.1
theorem dX7_duck_26 : decode cX7_duck 26 = .ok (.sipush 1000, 3) := DX7_duck_1.2.2.2.2.1
theorem dX7_duck_29 : decode cX7_duck 29 = .ok (.invokestatic 41, 3) := DX7_duck_1.2.2.2.2.2.1
theorem dX7_duck_32 : decode cX7_duck 32 = .ok (.ifCond .ne 27, 3) := DX7_duck_1.2.2.2.2.2.2.1
theorem dX7_duck_35 : decode cX7_duck 35 = .ok (.iload 5, 2) := DX7_duck_1.2.2.2.2.2.2.2.1
theorem dX7_duck_37 : decode cX7_duck 37 = .ok (.iconst 1, 1) := DX7_duck_1.2.2.2.2.2.2.2.2.1
theorem dX7_duck_38 : decode cX7_duck 38 = .ok (.sipush 1000, 3) := DX7_duck_1.2.2.2.2.2.2.2.2.2
set_option maxRecDepth 100000 in
theorem DX7_duck_2 : decode cX7_duck 41 = .ok (.invokestatic 41, 3) ∧ decode cX7_duck 44 = .ok (.ifCond .ne 15, 3) ∧ decode cX7_duck 47 = .ok (.iload 6, 2) ∧ decode cX7_duck 49 = .ok (.iconst 1, 1) ∧ decode cX7_duck 50 = .ok (.sipush 1000, 3) ∧ decode cX7_duck 53 = .ok (.invokestatic 41, 3) ∧ decode cX7_duck 56 = .ok (.ifCond .eq 13, 3) ∧ decode cX7_duck 59 = .ok (.new 45, 3) ∧ decode cX7_duck 62 = .ok (.dup, 1) ∧ decode cX7_duck 63 = .ok (.ldc 82, 2) := by decide +kernel
theorem dX7_duck_41 : decode cX7_duck 41 = .ok (.invokestatic 41, 3) := DX7_duck_2.1
theorem dX7_duck_44 : decode cX7_duck 44 = .ok (.ifCond .ne 15, 3) := DX7_duck_2.2.1
theorem dX7_duck_47 : decode cX7_duck 47 = .ok (.iload 6, 2) := DX7_duck_2.2.2.1
theorem dX7_duck_49 : decode cX7_duck 49 = .ok (.iconst 1, 1) := DX7_duck_2.2.2.2.1
theorem dX7_duck_50 : decode cX7_duck 50 = .ok (.sipush 1000, 3) := DX7_duck_2.2.2.2.2.1
theorem dX7_duck_53 : decode cX7_duck 53 = .ok (.invokestatic 41, 3) := DX7_duck_2.2.2.2.2.2.1
theorem dX7_duck_56 : decode cX7_duck 56 = .ok (.ifCond .eq 13, 3) := DX7_duck_2.2.2.2.2.2.2.1
theorem dX7_duck_59 : decode cX7_duck 59 = .ok (.new 45, 3) := DX7_duck_2.2.2.2.2.2.2.2.1
theorem dX7_duck_62 : decode cX7_duck 62 = .ok (.dup, 1) := DX7_duck_2.2.2.2.2.2.2.2.2.1
theorem dX7_duck_63 : decode cX7_duck 63 = .ok (.ldc 82, 2) := DX7_duck_2.2.2.2.2.2.2.2.2.2
set_option maxRecDepth 100000 in
theorem DX7_duck_3 : decode cX7_duck 65 = .ok (.invokespecial 49, 3) ∧ decode cX7_duck 68 = .ok (.athrow, 1) ∧ decode cX7_duck 69 = .ok (.iload_n 2, 1) ∧ decode cX7_duck 70 = .ok (.iload_n 1, 1) ∧ decode cX7_duck 71 = .ok (.if_icmp .eq 30, 3) ∧ decode cX7_duck 74 = .ok (.aload_n 0, 1) ∧ decode cX7_duck 75 = .ok (.getfield 12, 3) ∧ decode cX7_duck 78 = .ok (.getfield 179, 3) ∧ decode cX7_duck 81 = .ok (.iload_n 2, 1) ∧ decode cX7_duck 82 = .ok (.aaload, 1) := by decide +kernel
theorem dX7_duck_65 : decode cX7_duck 65 = .ok (.invokespecial 49, 3) := DX7_duck_3.1
theorem dX7_duck_68 : decode cX7_duck 68 = .ok (.athrow, 1) := DX7_duck_3.2.1
theorem dX7_duck_69 : decode cX7_duck 69 = .ok (.iload_n 2, 1) := DX7_duck_3.2.2.1
theorem dX7_duck_70 : decode cX7_duck 70 = .ok (.iload_n 1, 1) := DX7_duck_3.2.2.2.1
theorem dX7_duck_71 : decode cX7_duck 71 = .ok (.if_icmp .eq 30, 3) := DX7_duck_3.2.2.2.2.1
theorem dX7_duck_74 : decode cX7_duck 74 = .ok (.aload_n 0, 1) := DX7_duck_3.2.2.2.2.2.1
theorem dX7_duck_75 : decode cX7_duck 75 = .ok (.getfield 12, 3) := DX7_duck_3.2.2.2.2.2.2.1
theorem dX7_duck_78 : decode cX7_duck 78 = .ok (.getfield 179, 3) := DX7_duck_3.2.2.2.2.2.2.2.1
theorem dX7_duck_81 : decode cX7_duck 81 = .ok (.iload_n 2, 1) := DX7_duck_3.2.2.2.2.2.2.2.2.1
theorem dX7_duck_82 : decode cX7_duck 82 = .ok (.aaload, 1) := DX7_duck_3.2.2.2.2.2.2.2.2.2
set_option maxRecDepth 100000 in
theorem DX7_duck_4 : decode cX7_duck 83 = .ok (.getfield 227, 3) ∧ decode cX7_duck 86 = .ok (.iconst (-1), 1) ∧ decode cX7_duck 87 = .ok (.if_icmp .ne 14, 3) ∧ decode cX7_duck 90 = .ok (.aload_n 0, 1) ∧ decode cX7_duck 91 = .ok (.getfield 12, 3) ∧ decode cX7_duck 94 = .ok (.iload_n 1, 1) ∧ decode cX7_duck 95 = .ok (.invokevirtual 230, 3) ∧ decode cX7_duck 98 = .ok (.ifCond .eq 13, 3) ∧ decode cX7_duck 101 = .ok (.new 209, 3) ∧ decode cX7_duck 104 = .ok (.dup, 1) := by decide +kernel
theorem dX7_duck_83 : decode cX7_duck 83 = .ok (.getfield 227, 3) := DX7_duck_4.1
theorem dX7_duck_86 : decode cX7_duck 86 = .ok (.iconst (-1), 1) := DX7_duck_4.2.1
theorem dX7_duck_87 : decode cX7_duck 87 = .ok (.if_icmp .ne 14, 3) := DX7_duck_4.2.2.1
theorem dX7_duck_90 : decode cX7_duck 90 = .ok (.aload_n 0, 1) := DX7_duck_4.2.2.2.1
theorem dX7_duck_91 : decode cX7_duck 91 = .ok (.getfield 12, 3) := DX7_duck_4.2.2.2.2.1
theorem dX7_duck_94 : decode cX7_duck 94 = .ok (.iload_n 1, 1) := DX7_duck_4.2.2.2.2.2.1
theorem dX7_duck_95 : decode cX7_duck 95 = .ok (.invokevirtual 230, 3) := DX7_duck_4.2.2.2.2.2.2.1
theorem dX7_duck_98 : decode cX7_duck 98 = .ok (.ifCond .eq 13, 3) := DX7_duck_4.2.2.2.2.2.2.2.1
theorem dX7_duck_101 : decode cX7_duck 101 = .ok (.new 209, 3) := DX7_duck_4.2.2.2.2.2.2.2.2.1
theorem dX7_duck_104 : decode cX7_duck 104 = .ok (.dup, 1) := DX7_duck_4.2.2.2.2.2.2.2.2.2
set_option maxRecDepth 100000 in
theorem DX7_duck_5 : decode cX7_duck 105 = .ok (.ldc 233, 2) ∧ decode cX7_duck 107 = .ok (.invokespecial 213, 3) ∧ decode cX7_duck 110 = .ok (.athrow, 1) ∧ decode cX7_duck 111 = .ok (.aload_n 0, 1) ∧ decode cX7_duck 112 = .ok (.getfield 12, 3) ∧ decode cX7_duck 115 = .ok (.getfield 179, 3) ∧ decode cX7_duck 118 = .ok (.iload_n 1, 1) ∧ decode cX7_duck 119 = .ok (.aaload, 1) ∧ decode cX7_duck 120 = .ok (.getfield 227, 3) ∧ decode cX7_duck 123 = .ok (.istore 7, 2) := by decide +kernel
theorem dX7_duck_105 : decode cX7_duck 105 = .ok (.ldc 233, 2) := DX7_duck_5.1
theorem dX7_duck_107 : decode cX7_duck 107 = .ok (.invokespecial 213, 3) := DX7_duck_5.2.1
theorem dX7_duck_110 : decode cX7_duck 110 = .ok (.athrow, 1) := DX7_duck_5.2.2.1
theorem dX7_duck_111 : decode cX7_duck 111 = .ok (.aload_n 0, 1) := DX7_duck_5.2.2.2.1
theorem dX7_duck_112 : decode cX7_duck 112 = .ok (.getfield 12, 3) := DX7_duck_5.2.2.2.2.1
theorem dX7_duck_115 : decode cX7_duck 115 = .ok (.getfield 179, 3) := DX7_duck_5.2.2.2.2.2.1
theorem dX7_duck_118 : decode cX7_duck 118 = .ok (.iload_n 1, 1) := DX7_duck_5.2.2.2.2.2.2.1
theorem dX7_duck_119 : decode cX7_duck 119 = .ok (.aaload, 1) := DX7_duck_5.2.2.2.2.2.2.2.1
theorem dX7_duck_120 : decode cX7_duck 120 = .ok (.getfield 227, 3) := DX7_duck_5.2.2.2.2.2.2.2.2.1
theorem dX7_duck_123 : decode cX7_duck 123 = .ok (.istore 7, 2) := DX7_duck_5.2.2.2.2.2.2.2.2.2
set_option maxRecDepth 100000 in
theorem DX7_duck_6 : decode cX7_duck 125 = .ok (.aload_n 0, 1) ∧ decode cX7_duck 126 = .ok (.invokevirtual 62, 3) ∧ decode cX7_duck 129 = .ok (.getfield 179, 3) ∧ decode cX7_duck 132 = .ok (.iload_n 1, 1) ∧ decode cX7_duck 133 = .ok (.aaload, 1) ∧ decode cX7_duck 134 = .ok (.astore 8, 2) ∧ decode cX7_duck 136 = .ok (.aload 8, 2) ∧ decode cX7_duck 138 = .ok (.iload_n 2, 1) ∧ decode cX7_duck 139 = .ok (.putfield 227, 3) ∧ decode cX7_duck 142 = .ok (.aload 8, 2) := by decide +kernel
theorem dX7_duck_125 : decode cX7_duck 125 = .ok (.aload_n 0, 1) := DX7_duck_6.1
theorem dX7_duck_126 : decode cX7_duck 126 = .ok (.invokevirtual 62, 3) := DX7_duck_6.2.1
theorem dX7_duck_129 : decode cX7_duck 129 = .ok (.getfield 179, 3) := DX7_duck_6.2.2.1
theorem dX7_duck_132 : decode cX7_duck 132 = .ok (.iload_n 1, 1) := DX7_duck_6.2.2.2.1
theorem dX7_duck_133 : decode cX7_duck 133 = .ok (.aaload, 1) := DX7_duck_6.2.2.2.2.1
theorem dX7_duck_134 : decode cX7_duck 134 = .ok (.astore 8, 2) := DX7_duck_6.2.2.2.2.2.1
theorem dX7_duck_136 : decode cX7_duck 136 = .ok (.aload 8, 2) := DX7_duck_6.2.2.2.2.2.2.1
theorem dX7_duck_138 : decode cX7_duck 138 = .ok (.iload_n 2, 1) := DX7_duck_6.2.2.2.2.2.2.2.1
theorem dX7_duck_139 : decode cX7_duck 139 = .ok (.putfield 227, 3) := DX7_duck_6.2.2.2.2.2.2.2.2.1
theorem dX7_duck_142 : decode cX7_duck 142 = .ok (.aload 8, 2) := DX7_duck_6.2.2.2.2.2.2.2.2.2
set_option maxRecDepth 100000 in
theorem DX7_duck_7 : decode cX7_duck 144 = .ok (.iload_n 3, 1) ∧ decode cX7_duck 145 = .ok (.putfield 235, 3) ∧ decode cX7_duck 148 = .ok (.aload 8, 2) ∧ decode cX7_duck 150 = .ok (.iload 4, 2) ∧ decode cX7_duck 152 = .ok (.putfield 238, 3) ∧ decode cX7_duck 155 = .ok (.aload 8, 2) ∧ decode cX7_duck 157 = .ok (.iload 5, 2) ∧ decode cX7_duck 159 = .ok (.putfield 241, 3) ∧ decode cX7_duck 162 = .ok (.aload 8, 2) ∧ decode cX7_duck 164 = .ok (.iload 6, 2) := by decide +kernel
theorem dX7_duck_144 : decode cX7_duck 144 = .ok (.iload_n 3, 1) := DX7_duck_7.1
theorem dX7_duck_145 : decode cX7_duck 145 = .ok (.putfield 235, 3) := DX7_duck_7.2.1
theorem dX7_duck_148 : decode cX7_duck 148 = .ok (.aload 8, 2) := DX7_duck_7.2.2.1
theorem dX7_duck_150 : decode cX7_duck 150 = .ok (.iload 4, 2) := DX7_duck_7.2.2.2.1
theorem dX7_duck_152 : decode cX7_duck 152 = .ok (.putfield 238, 3) := DX7_duck_7.2.2.2.2.1
theorem dX7_duck_155 : decode cX7_duck 155 = .ok (.aload 8, 2) := DX7_duck_7.2.2.2.2.2.1
theorem dX7_duck_157 : decode cX7_duck 157 = .ok (.iload 5, 2) := DX7_duck_7.2.2.2.2.2.2.1
theorem dX7_duck_159 : decode cX7_duck 159 = .ok (.putfield 241, 3) := DX7_duck_7.2.2.2.2.2.2.2.1
theorem dX7_duck_162 : decode cX7_duck 162 = .ok (.aload 8, 2) := DX7_duck_7.2.2.2.2.2.2.2.2.1
theorem dX7_duck_164 : decode cX7_duck 164 = .ok (.iload 6, 2) := DX7_duck_7.2.2.2.2.2.2.2.2.2
set_option maxRecDepth 100000 in
theorem DX7_duck_8 : decode cX7_duck 166 = .ok (.putfield 244, 3) ∧ decode cX7_duck 169 = .ok (.aload_n 0, 1) ∧ decode cX7_duck 170 = .ok (.invokevirtual 70, 3) ∧ decode cX7_duck 173 = .ok (.iload 7, 2) ∧ decode cX7_duck 175 = .ok (.ireturn, 1) := by decide +kernel
theorem dX7_duck_166 : decode cX7_duck 166 = .ok (.putfield 244, 3) := DX7_duck_8.1
theorem dX7_duck_169 : decode cX7_duck 169 = .ok (.aload_n 0, 1) := DX7_duck_8.2.1
theorem dX7_duck_170 : decode cX7_duck 170 = .ok (.invokevirtual 70, 3) := DX7_duck_8.2.2.1
theorem dX7_duck_173 : decode cX7_duck 173 = .ok (.iload 7, 2) := DX7_duck_8.2.2.2.1
theorem dX7_duck_175 : decode cX7_duck 175 = .ok (.ireturn, 1) := DX7_duck_8.2.2.2.2
set_option maxRecDepth 100000 in
theorem DX7_endDuck_0 : decode cX7_endDuck 0 = .ok (.iload_n 1, 1) ∧ decode cX7_endDuck 1 = .ok (.invokestatic 147, 3) ∧ decode cX7_endDuck 4 = .ok (.aload_n 0, 1) ∧ decode cX7_endDuck 5 = .ok (.getfield 12, 3) ∧ decode cX7_endDuck 8 = .ok (.getfield 179, 3) ∧ decode cX7_endDuck 11 = .ok (.iload_n 1, 1) ∧ decode cX7_endDuck 12 = .ok (.aaload, 1) ∧ decode cX7_endDuck 13 = .ok (.getfield 227, 3) ∧ decode cX7_endDuck 16 = .ok (.istore_n 2, 1) ∧ decode cX7_endDuck 17 = .ok (.aload_n 0, 1) := by decide +kernel
theorem dX7_endDuck_0 : decode cX7_endDuck 0 = .ok (.iload_n 1, 1) := DX7_endDuck_0.1
theorem dX7_endDuck_1 : decode cX7_endDuck 1 = .ok (.invokestatic 147, 3) := DX7_endDuck_0.2.1
theorem dX7_endDuck_4 : decode cX7_endDuck 4 = .ok (.aload_n 0, 1) := DX7_endDuck_0.2.2.1
theorem dX7_endDuck_5 : decode cX7_endDuck 5 = .ok (.getfield 12, 3) := DX7_endDuck_0.2.2.2.1
theorem dX7_endDuck_8 : decode cX7_endDuck 8 = .ok (.getfield 179, 3) := DX7_endDuck_0.2.2.2.2.1
theorem dX7_endDuck_11 : decode cX7_endDuck 11 = .ok (.iload_n 1, 1) := DX7_endDuck_0.2.2.2.2.2.1
theorem dX7_endDuck_12 : decode cX7_endDuck 12 = .ok (.aaload, 1) := DX7_endDuck_0.2.2.2.2.2.2.1
theorem dX7_endDuck_13 : decode cX7_endDuck 13 = .ok (.getfield 227, 3) := DX7_endDuck_0.2.2.2.2.2.2.2.1
theorem dX7_endDuck_16 : decode cX7_endDuck 16 = .ok (.istore_n 2, 1) := DX7_endDuck_0.2.2.2.2.2.2.2.2.1
theorem dX7_endDuck_17 : decode cX7_endDuck 17 = .ok (.aload_n 0, 1) := DX7_endDuck_0.2.2.2.2.2.2.2.2.2
set_option maxRecDepth 100000 in
theorem DX7_endDuck_1 : decode cX7_endDuck 18 = .ok (.invokevirtual 62, 3) ∧ decode cX7_endDuck 21 = .ok (.getfield 179, 3) ∧ decode cX7_endDuck 24 = .ok (.iload_n 1, 1) ∧ decode cX7_endDuck 25 = .ok (.aaload, 1) ∧ decode cX7_endDuck 26 = .ok (.iconst (-1), 1) ∧ decode cX7_endDuck 27 = .ok (.putfield 227, 3) ∧ decode cX7_endDuck 30 = .ok (.aload_n 0, 1) ∧ decode cX7_endDuck 31 = .ok (.invokevirtual 70, 3) ∧ decode cX7_endDuck 34 = .ok (.iload_n 2, 1) ∧ decode cX7_endDuck 35 = .ok (.ireturn, 1) := by decide +kernel
theorem dX7_endDuck_18 : decode cX7_endDuck 18 = .ok (.invokevirtual 62, 3) := DX7_endDuck_1.1
theorem dX7_endDuck_21 : decode cX7_endDuck 21 = .ok (.getfield 179, 3) := DX7_endDuck_1.2.1
theorem dX7_endDuck_24 : decode cX7_endDuck 24 = .ok (.iload_n 1, 1) := DX7_endDuck_1.2.2.1
theorem dX7_endDuck_25 : decode cX7_endDuck 25 = .ok (.aaload, 1) := DX7_endDuck_1.2.2.2.1
theorem dX7_endDuck_26 : decode cX7_endDuck 26 = .ok (.iconst (-1), 1) := DX7_endDuck_1.2.2.2.2.1
theorem dX7_endDuck_27 : decode cX7_endDuck 27 = .ok (.putfield 227, 3) := DX7_endDuck_1.2.2.2.2.2.1
theorem dX7_endDuck_30 : decode cX7_endDuck 30 = .ok (.aload_n 0, 1) := DX7_endDuck_1.2.2.2.2.2.2.1
theorem dX7_endDuck_31 : decode cX7_endDuck 31 = .ok (.invokevirtual 70, 3) := DX7_endDuck_1.2.2.2.2.2.2.2.1
theorem dX7_endDuck_34 : decode cX7_endDuck 34 = .ok (.iload_n 2, 1) := DX7_endDuck_1.2.2.2.2.2.2.2.2.1
theorem dX7_endDuck_35 : decode cX7_endDuck 35 = .ok (.ireturn, 1) := DX7_endDuck_1.2.2.2.2.2.2.2.2.2
set_option maxRecDepth 100000 in
theorem DX7_duckGain_0 : decode cX7_duckGain 0 = .ok (.iload_n 1, 1) ∧ decode cX7_duckGain 1 = .ok (.invokestatic 147, 3) ∧ decode cX7_duckGain 4 = .ok (.iload_n 2, 1) ∧ decode cX7_duckGain 5 = .ok (.invokestatic 198, 3) ∧ decode cX7_duckGain 8 = .ok (.aload_n 0, 1) ∧ decode cX7_duckGain 9 = .ok (.iload_n 1, 1) ∧ decode cX7_duckGain 10 = .ok (.iload_n 2, 1) ∧ decode cX7_duckGain 11 = .ok (.invokevirtual 247, 3) ∧ decode cX7_duckGain 14 = .ok (.aload_n 0, 1) ∧ decode cX7_duckGain 15 = .ok (.iload_n 1, 1) := by decide +kernel
theorem dX7_duckGain_0 : decode cX7_duckGain 0 = .ok (.iload_n 1, 1) := DX7_duckGain_0.1
theorem dX7_duckGain_1 : decode cX7_duckGain 1 = .ok (.invokestatic 147, 3) := DX7_duckGain_0.2.1
theorem dX7_duckGain_4 : decode cX7_duckGain 4 = .ok (.iload_n 2, 1) := DX7_duckGain_0.2.2.1
theorem dX7_duckGain_5 : decode cX7_duckGain 5 = .ok (.invokestatic 198, 3) := DX7_duckGain_0.2.2.2.1
theorem dX7_duckGain_8 : decode cX7_duckGain 8 = .ok (.aload_n 0, 1) := DX7_duckGain_0.2.2.2.2.1
theorem dX7_duckGain_9 : decode cX7_duckGain 9 = .ok (.iload_n 1, 1) := DX7_duckGain_0.2.2.2.2.2.1
theorem dX7_duckGain_10 : decode cX7_duckGain 10 = .ok (.iload_n 2, 1) := DX7_duckGain_0.2.2.2.2.2.2.1
theorem dX7_duckGain_11 : decode cX7_duckGain 11 = .ok (.invokevirtual 247, 3) := DX7_duckGain_0.2.2.2.2.2.2.2.1
theorem dX7_duckGain_14 : decode cX7_duckGain 14 = .ok (.aload_n 0, 1) := DX7_duckGain_0.2.2.2.2.2.2.2.2.1
theorem dX7_duckGain_15 : decode cX7_duckGain 15 = .ok (.iload_n 1, 1) := DX7_duckGain_0.2.2.2.2.2.2.2.2.2
set_option maxRecDepth 100000 in
theorem DX7_duckGain_1 : decode cX7_duckGain 16 = .ok (.iload_n 2, 1) ∧ decode cX7_duckGain 17 = .ok (.invokevirtual 250, 3) ∧ decode cX7_duckGain 20 = .ok (.ireturn, 1) := by decide +kernel
theorem dX7_duckGain_16 : decode cX7_duckGain 16 = .ok (.iload_n 2, 1) := DX7_duckGain_1.1
theorem dX7_duckGain_17 : decode cX7_duckGain 17 = .ok (.invokevirtual 250, 3) := DX7_duckGain_1.2.1
theorem dX7_duckGain_20 : decode cX7_duckGain 20 = .ok (.ireturn, 1) := DX7_duckGain_1.2.2
set_option maxRecDepth 100000 in
theorem DX7_trackValue_0 : decode cX7_trackValue 0 = .ok (.iload_n 1, 1) ∧ decode cX7_trackValue 1 = .ok (.invokestatic 147, 3) ∧ decode cX7_trackValue 4 = .ok (.iload_n 2, 1) ∧ decode cX7_trackValue 5 = .ok (.invokestatic 198, 3) ∧ decode cX7_trackValue 8 = .ok (.aload_n 0, 1) ∧ decode cX7_trackValue 9 = .ok (.iload_n 1, 1) ∧ decode cX7_trackValue 10 = .ok (.iload_n 2, 1) ∧ decode cX7_trackValue 11 = .ok (.invokevirtual 247, 3) ∧ decode cX7_trackValue 14 = .ok (.aload_n 0, 1) ∧ decode cX7_trackValue 15 = .ok (.iload_n 1, 1) := by decide +kernel
theorem dX7_trackValue_0 : decode cX7_trackValue 0 = .ok (.iload_n 1, 1) := DX7_trackValue_0.1
theorem dX7_trackValue_1 : decode cX7_trackValue 1 = .ok (.invokestatic 147, 3) := DX7_trackValue_0.2.1
theorem dX7_trackValue_4 : decode cX7_trackValue 4 = .ok (.iload_n 2, 1) := DX7_trackValue_0.2.2.1
theorem dX7_trackValue_5 : decode cX7_trackValue 5 = .ok (.invokestatic 198, 3) := DX7_trackValue_0.2.2.2.1
theorem dX7_trackValue_8 : decode cX7_trackValue 8 = .ok (.aload_n 0, 1) := DX7_trackValue_0.2.2.2.2.1
theorem dX7_trackValue_9 : decode cX7_trackValue 9 = .ok (.iload_n 1, 1) := DX7_trackValue_0.2.2.2.2.2.1
theorem dX7_trackValue_10 : decode cX7_trackValue 10 = .ok (.iload_n 2, 1) := DX7_trackValue_0.2.2.2.2.2.2.1
theorem dX7_trackValue_11 : decode cX7_trackValue 11 = .ok (.invokevirtual 247, 3) := DX7_trackValue_0.2.2.2.2.2.2.2.1
theorem dX7_trackValue_14 : decode cX7_trackValue 14 = .ok (.aload_n 0, 1) := DX7_trackValue_0.2.2.2.2.2.2.2.2.1
theorem dX7_trackValue_15 : decode cX7_trackValue 15 = .ok (.iload_n 1, 1) := DX7_trackValue_0.2.2.2.2.2.2.2.2.2
set_option maxRecDepth 100000 in
theorem DX7_trackValue_1 : decode cX7_trackValue 16 = .ok (.iload_n 2, 1) ∧ decode cX7_trackValue 17 = .ok (.invokevirtual 253, 3) ∧ decode cX7_trackValue 20 = .ok (.ireturn, 1) := by decide +kernel
theorem dX7_trackValue_16 : decode cX7_trackValue 16 = .ok (.iload_n 2, 1) := DX7_trackValue_1.1
theorem dX7_trackValue_17 : decode cX7_trackValue 17 = .ok (.invokevirtual 253, 3) := DX7_trackValue_1.2.1
theorem dX7_trackValue_20 : decode cX7_trackValue 20 = .ok (.ireturn, 1) := DX7_trackValue_1.2.2
set_option maxRecDepth 100000 in
theorem DX7_isAudible_0 : decode cX7_isAudible 0 = .ok (.iload_n 1, 1) ∧ decode cX7_isAudible 1 = .ok (.invokestatic 147, 3) ∧ decode cX7_isAudible 4 = .ok (.aload_n 0, 1) ∧ decode cX7_isAudible 5 = .ok (.getfield 12, 3) ∧ decode cX7_isAudible 8 = .ok (.getfield 179, 3) ∧ decode cX7_isAudible 11 = .ok (.iload_n 1, 1) ∧ decode cX7_isAudible 12 = .ok (.aaload, 1) ∧ decode cX7_isAudible 13 = .ok (.aload_n 0, 1) ∧ decode cX7_isAudible 14 = .ok (.getfield 12, 3) ∧ decode cX7_isAudible 17 = .ok (.invokevirtual 256, 3) := by decide +kernel
theorem dX7_isAudible_0 : decode cX7_isAudible 0 = .ok (.iload_n 1, 1) := DX7_isAudible_0.1
theorem dX7_isAudible_1 : decode cX7_isAudible 1 = .ok (.invokestatic 147, 3) := DX7_isAudible_0.2.1
theorem dX7_isAudible_4 : decode cX7_isAudible 4 = .ok (.aload_n 0, 1) := DX7_isAudible_0.2.2.1
theorem dX7_isAudible_5 : decode cX7_isAudible 5 = .ok (.getfield 12, 3) := DX7_isAudible_0.2.2.2.1
theorem dX7_isAudible_8 : decode cX7_isAudible 8 = .ok (.getfield 179, 3) := DX7_isAudible_0.2.2.2.2.1
theorem dX7_isAudible_11 : decode cX7_isAudible 11 = .ok (.iload_n 1, 1) := DX7_isAudible_0.2.2.2.2.2.1
theorem dX7_isAudible_12 : decode cX7_isAudible 12 = .ok (.aaload, 1) := DX7_isAudible_0.2.2.2.2.2.2.1
theorem dX7_isAudible_13 : decode cX7_isAudible 13 = .ok (.aload_n 0, 1) := DX7_isAudible_0.2.2.2.2.2.2.2.1
theorem dX7_isAudible_14 : decode cX7_isAudible 14 = .ok (.getfield 12, 3) := DX7_isAudible_0.2.2.2.2.2.2.2.2.1
theorem dX7_isAudible_17 : decode cX7_isAudible 17 = .ok (.invokevirtual 256, 3) := DX7_isAudible_0.2.2.2.2.2.2.2.2.2
set_option maxRecDepth 100000 in
theorem DX7_isAudible_1 : decode cX7_isAudible 20 = .ok (.invokevirtual 259, 3) ∧ decode cX7_isAudible 23 = .ok (.ireturn, 1) := by decide +kernel
theorem dX7_isAudible_20 : decode cX7_isAudible 20 = .ok (.invokevirtual 259, 3) := DX7_isAudible_1.1
theorem dX7_isAudible_23 : decode cX7_isAudible 23 = .ok (.ireturn, 1) := DX7_isAudible_1.2
set_option maxRecDepth 100000 in
theorem DX7_setMaster_0 : decode cX7_setMaster 0 = .ok (.iload_n 1, 1) ∧ decode cX7_setMaster 1 = .ok (.iconst 0, 1) ∧ decode cX7_setMaster 2 = .ok (.sipush 2000, 3) ∧ decode cX7_setMaster 5 = .ok (.invokestatic 41, 3) ∧ decode cX7_setMaster 8 = .ok (.ifCond .eq 14, 3) ∧ decode cX7_setMaster 11 = .ok (.new 45, 3) ∧ decode cX7_setMaster 14 = .ok (.dup, 1) ∧ decode cX7_setMaster 15 = .ok (.ldc_w 263, 3) ∧ decode cX7_setMaster 18 = .ok (.invokespecial 49, 3) ∧ decode cX7_setMaster 21 = .ok (.athrow, 1) := by decide +kernel
theorem dX7_setMaster_0 : decode cX7_setMaster 0 = .ok (.iload_n 1, 1) := DX7_setMaster_0.1
theorem dX7_setMaster_1 : decode cX7_setMaster 1 = .ok (.iconst 0, 1) := DX7_setMaster_0.2.1
theorem dX7_setMaster_2 : decode cX7_setMaster 2 = .ok (.sipush 2000, 3) := DX7_setMaster_0.2.2.1
theorem dX7_setMaster_5 : decode cX7_setMaster 5 = .ok (.invokestatic 41, 3) := DX7_setMaster_0.2.2.2.1
theorem dX7_setMaster_8 : decode cX7_setMaster 8 = .ok (.ifCond .eq 14, 3) := DX7_setMaster_0.2.2.2.2.1
theorem dX7_setMaster_11 : decode cX7_setMaster 11 = .ok (.new 45, 3) := DX7_setMaster_0.2.2.2.2.2.1
theorem dX7_setMaster_14 : decode cX7_setMaster 14 = .ok (.dup, 1) := DX7_setMaster_0.2.2.2.2.2.2.1
theorem dX7_setMaster_15 : decode cX7_setMaster 15 = .ok (.ldc_w 263, 3) := DX7_setMaster_0.2.2.2.2.2.2.2.1
theorem dX7_setMaster_18 : decode cX7_setMaster 18 = .ok (.invokespecial 49, 3) := DX7_setMaster_0.2.2.2.2.2.2.2.2.1
theorem dX7_setMaster_21 : decode cX7_setMaster 21 = .ok (.athrow, 1) := DX7_setMaster_0.2.2.2.2.2.2.2.2.2
set_option maxRecDepth 100000 in
theorem DX7_setMaster_1 : decode cX7_setMaster 22 = .ok (.aload_n 0, 1) ∧ decode cX7_setMaster 23 = .ok (.getfield 12, 3) ∧ decode cX7_setMaster 26 = .ok (.getfield 265, 3) ∧ decode cX7_setMaster 29 = .ok (.istore_n 2, 1) ∧ decode cX7_setMaster 30 = .ok (.aload_n 0, 1) ∧ decode cX7_setMaster 31 = .ok (.invokevirtual 62, 3) ∧ decode cX7_setMaster 34 = .ok (.iload_n 1, 1) ∧ decode cX7_setMaster 35 = .ok (.putfield 265, 3) ∧ decode cX7_setMaster 38 = .ok (.aload_n 0, 1) ∧ decode cX7_setMaster 39 = .ok (.invokevirtual 268, 3) := by decide +kernel
theorem dX7_setMaster_22 : decode cX7_setMaster 22 = .ok (.aload_n 0, 1) := DX7_setMaster_1.1
theorem dX7_setMaster_23 : decode cX7_setMaster 23 = .ok (.getfield 12, 3) := DX7_setMaster_1.2.1
theorem dX7_setMaster_26 : decode cX7_setMaster 26 = .ok (.getfield 265, 3) := DX7_setMaster_1.2.2.1
theorem dX7_setMaster_29 : decode cX7_setMaster 29 = .ok (.istore_n 2, 1) := DX7_setMaster_1.2.2.2.1
theorem dX7_setMaster_30 : decode cX7_setMaster 30 = .ok (.aload_n 0, 1) := DX7_setMaster_1.2.2.2.2.1
theorem dX7_setMaster_31 : decode cX7_setMaster 31 = .ok (.invokevirtual 62, 3) := DX7_setMaster_1.2.2.2.2.2.1
theorem dX7_setMaster_34 : decode cX7_setMaster 34 = .ok (.iload_n 1, 1) := DX7_setMaster_1.2.2.2.2.2.2.1
theorem dX7_setMaster_35 : decode cX7_setMaster 35 = .ok (.putfield 265, 3) := DX7_setMaster_1.2.2.2.2.2.2.2.1
theorem dX7_setMaster_38 : decode cX7_setMaster 38 = .ok (.aload_n 0, 1) := DX7_setMaster_1.2.2.2.2.2.2.2.2.1
theorem dX7_setMaster_39 : decode cX7_setMaster 39 = .ok (.invokevirtual 268, 3) := DX7_setMaster_1.2.2.2.2.2.2.2.2.2
set_option maxRecDepth 100000 in
theorem DX7_setMaster_2 : decode cX7_setMaster 42 = .ok (.iload_n 2, 1) ∧ decode cX7_setMaster 43 = .ok (.ireturn, 1) := by decide +kernel
theorem dX7_setMaster_42 : decode cX7_setMaster 42 = .ok (.iload_n 2, 1) := DX7_setMaster_2.1
theorem dX7_setMaster_43 : decode cX7_setMaster 43 = .ok (.ireturn, 1) := DX7_setMaster_2.2
set_option maxRecDepth 100000 in
theorem DX7_mix_0 : decode cX7_mix 0 = .ok (.iload_n 1, 1) ∧ decode cX7_mix 1 = .ok (.invokestatic 198, 3) ∧ decode cX7_mix 4 = .ok (.aload_n 0, 1) ∧ decode cX7_mix 5 = .ok (.aload_n 0, 1) ∧ decode cX7_mix 6 = .ok (.getfield 32, 3) ∧ decode cX7_mix 9 = .ok (.iload_n 1, 1) ∧ decode cX7_mix 10 = .ok (.invokevirtual 271, 3) ∧ decode cX7_mix 13 = .ok (.iload_n 2, 1) ∧ decode cX7_mix 14 = .ok (.ifCond .eq 13, 3) ∧ decode cX7_mix 17 = .ok (.aload_n 0, 1) := by decide +kernel
theorem dX7_mix_0 : decode cX7_mix 0 = .ok (.iload_n 1, 1) := DX7_mix_0.1
theorem dX7_mix_1 : decode cX7_mix 1 = .ok (.invokestatic 198, 3) := DX7_mix_0.2.1
theorem dX7_mix_4 : decode cX7_mix 4 = .ok (.aload_n 0, 1) := DX7_mix_0.2.2.1
theorem dX7_mix_5 : decode cX7_mix 5 = .ok (.aload_n 0, 1) := DX7_mix_0.2.2.2.1
theorem dX7_mix_6 : decode cX7_mix 6 = .ok (.getfield 32, 3) := DX7_mix_0.2.2.2.2.1
theorem dX7_mix_9 : decode cX7_mix 9 = .ok (.iload_n 1, 1) := DX7_mix_0.2.2.2.2.2.1
theorem dX7_mix_10 : decode cX7_mix 10 = .ok (.invokevirtual 271, 3) := DX7_mix_0.2.2.2.2.2.2.1
theorem dX7_mix_13 : decode cX7_mix 13 = .ok (.iload_n 2, 1) := DX7_mix_0.2.2.2.2.2.2.2.1
theorem dX7_mix_14 : decode cX7_mix 14 = .ok (.ifCond .eq 13, 3) := DX7_mix_0.2.2.2.2.2.2.2.2.1
theorem dX7_mix_17 : decode cX7_mix 17 = .ok (.aload_n 0, 1) := DX7_mix_0.2.2.2.2.2.2.2.2.2
set_option maxRecDepth 100000 in
theorem DX7_mix_1 : decode cX7_mix 18 = .ok (.getfield 32, 3) ∧ decode cX7_mix 21 = .ok (.getfield 275, 3) ∧ decode cX7_mix 24 = .ok (.goto 10, 3) ∧ decode cX7_mix 27 = .ok (.aload_n 0, 1) ∧ decode cX7_mix 28 = .ok (.getfield 32, 3) ∧ decode cX7_mix 31 = .ok (.getfield 278, 3) ∧ decode cX7_mix 34 = .ok (.ireturn, 1) := by decide +kernel
theorem dX7_mix_18 : decode cX7_mix 18 = .ok (.getfield 32, 3) := DX7_mix_1.1
theorem dX7_mix_21 : decode cX7_mix 21 = .ok (.getfield 275, 3) := DX7_mix_1.2.1
theorem dX7_mix_24 : decode cX7_mix 24 = .ok (.goto 10, 3) := DX7_mix_1.2.2.1
theorem dX7_mix_27 : decode cX7_mix 27 = .ok (.aload_n 0, 1) := DX7_mix_1.2.2.2.1
theorem dX7_mix_28 : decode cX7_mix 28 = .ok (.getfield 32, 3) := DX7_mix_1.2.2.2.2.1
theorem dX7_mix_31 : decode cX7_mix 31 = .ok (.getfield 278, 3) := DX7_mix_1.2.2.2.2.2.1
theorem dX7_mix_34 : decode cX7_mix 34 = .ok (.ireturn, 1) := DX7_mix_1.2.2.2.2.2.2
set_option maxRecDepth 100000 in
theorem DX7_setLoop_0 : decode cX7_setLoop 0 = .ok (.iload_n 2, 1) ∧ decode cX7_setLoop 1 = .ok (.iconst 1, 1) ∧ decode cX7_setLoop 2 = .ok (.sipush 4000, 3) ∧ decode cX7_setLoop 5 = .ok (.invokestatic 41, 3) ∧ decode cX7_setLoop 8 = .ok (.ifCond .ne 14, 3) ∧ decode cX7_setLoop 11 = .ok (.iload_n 1, 1) ∧ decode cX7_setLoop 12 = .ok (.iconst 0, 1) ∧ decode cX7_setLoop 13 = .ok (.iload_n 2, 1) ∧ decode cX7_setLoop 14 = .ok (.iconst 1, 1) ∧ decode cX7_setLoop 15 = .ok (.isub, 1) := by decide +kernel
theorem dX7_setLoop_0 : decode cX7_setLoop 0 = .ok (.iload_n 2, 1) := DX7_setLoop_0.1
theorem dX7_setLoop_1 : decode cX7_setLoop 1 = .ok (.iconst 1, 1) := DX7_setLoop_0.2.1
theorem dX7_setLoop_2 : decode cX7_setLoop 2 = .ok (.sipush 4000, 3) := DX7_setLoop_0.2.2.1
theorem dX7_setLoop_5 : decode cX7_setLoop 5 = .ok (.invokestatic 41, 3) := DX7_setLoop_0.2.2.2.1
theorem dX7_setLoop_8 : decode cX7_setLoop 8 = .ok (.ifCond .ne 14, 3) := DX7_setLoop_0.2.2.2.2.1
theorem dX7_setLoop_11 : decode cX7_setLoop 11 = .ok (.iload_n 1, 1) := DX7_setLoop_0.2.2.2.2.2.1
theorem dX7_setLoop_12 : decode cX7_setLoop 12 = .ok (.iconst 0, 1) := DX7_setLoop_0.2.2.2.2.2.2.1
theorem dX7_setLoop_13 : decode cX7_setLoop 13 = .ok (.iload_n 2, 1) := DX7_setLoop_0.2.2.2.2.2.2.2.1
theorem dX7_setLoop_14 : decode cX7_setLoop 14 = .ok (.iconst 1, 1) := DX7_setLoop_0.2.2.2.2.2.2.2.2.1
theorem dX7_setLoop_15 : decode cX7_setLoop 15 = .ok (.isub, 1) := DX7_setLoop_0.2.2.2.2.2.2.2.2.2
set_option maxRecDepth 100000 in
theorem DX7_setLoop_1 : decode cX7_setLoop 16 = .ok (.invokestatic 41, 3) ∧ decode cX7_setLoop 19 = .ok (.ifCond .eq 13, 3) ∧ decode cX7_setLoop 22 = .ok (.new 45, 3) ∧ decode cX7_setLoop 25 = .ok (.dup, 1) ∧ decode cX7_setLoop 26 = .ok (.ldc 150, 2) ∧ decode cX7_setLoop 28 = .ok (.invokespecial 49, 3) ∧ decode cX7_setLoop 31 = .ok (.athrow, 1) ∧ decode cX7_setLoop 32 = .ok (.aload_n 0, 1) ∧ decode cX7_setLoop 33 = .ok (.getfield 12, 3) ∧ decode cX7_setLoop 36 = .ok (.getfield 281, 3) := by decide +kernel
theorem dX7_setLoop_16 : decode cX7_setLoop 16 = .ok (.invokestatic 41, 3) := DX7_setLoop_1.1
theorem dX7_setLoop_19 : decode cX7_setLoop 19 = .ok (.ifCond .eq 13, 3) := DX7_setLoop_1.2.1
theorem dX7_setLoop_22 : decode cX7_setLoop 22 = .ok (.new 45, 3) := DX7_setLoop_1.2.2.1
theorem dX7_setLoop_25 : decode cX7_setLoop 25 = .ok (.dup, 1) := DX7_setLoop_1.2.2.2.1
theorem dX7_setLoop_26 : decode cX7_setLoop 26 = .ok (.ldc 150, 2) := DX7_setLoop_1.2.2.2.2.1
theorem dX7_setLoop_28 : decode cX7_setLoop 28 = .ok (.invokespecial 49, 3) := DX7_setLoop_1.2.2.2.2.2.1
theorem dX7_setLoop_31 : decode cX7_setLoop 31 = .ok (.athrow, 1) := DX7_setLoop_1.2.2.2.2.2.2.1
theorem dX7_setLoop_32 : decode cX7_setLoop 32 = .ok (.aload_n 0, 1) := DX7_setLoop_1.2.2.2.2.2.2.2.1
theorem dX7_setLoop_33 : decode cX7_setLoop 33 = .ok (.getfield 12, 3) := DX7_setLoop_1.2.2.2.2.2.2.2.2.1
theorem dX7_setLoop_36 : decode cX7_setLoop 36 = .ok (.getfield 281, 3) := DX7_setLoop_1.2.2.2.2.2.2.2.2.2
set_option maxRecDepth 100000 in
theorem DX7_setLoop_2 : decode cX7_setLoop 39 = .ok (.istore_n 3, 1) ∧ decode cX7_setLoop 40 = .ok (.aload_n 0, 1) ∧ decode cX7_setLoop 41 = .ok (.invokevirtual 62, 3) ∧ decode cX7_setLoop 44 = .ok (.astore 4, 2) ∧ decode cX7_setLoop 46 = .ok (.aload 4, 2) ∧ decode cX7_setLoop 48 = .ok (.iload_n 1, 1) ∧ decode cX7_setLoop 49 = .ok (.putfield 281, 3) ∧ decode cX7_setLoop 52 = .ok (.aload 4, 2) ∧ decode cX7_setLoop 54 = .ok (.iload_n 2, 1) ∧ decode cX7_setLoop 55 = .ok (.putfield 284, 3) := by decide +kernel
theorem dX7_setLoop_39 : decode cX7_setLoop 39 = .ok (.istore_n 3, 1) := DX7_setLoop_2.1
theorem dX7_setLoop_40 : decode cX7_setLoop 40 = .ok (.aload_n 0, 1) := DX7_setLoop_2.2.1
theorem dX7_setLoop_41 : decode cX7_setLoop 41 = .ok (.invokevirtual 62, 3) := DX7_setLoop_2.2.2.1
theorem dX7_setLoop_44 : decode cX7_setLoop 44 = .ok (.astore 4, 2) := DX7_setLoop_2.2.2.2.1
theorem dX7_setLoop_46 : decode cX7_setLoop 46 = .ok (.aload 4, 2) := DX7_setLoop_2.2.2.2.2.1
theorem dX7_setLoop_48 : decode cX7_setLoop 48 = .ok (.iload_n 1, 1) := DX7_setLoop_2.2.2.2.2.2.1
theorem dX7_setLoop_49 : decode cX7_setLoop 49 = .ok (.putfield 281, 3) := DX7_setLoop_2.2.2.2.2.2.2.1
theorem dX7_setLoop_52 : decode cX7_setLoop 52 = .ok (.aload 4, 2) := DX7_setLoop_2.2.2.2.2.2.2.2.1
theorem dX7_setLoop_54 : decode cX7_setLoop 54 = .ok (.iload_n 2, 1) := DX7_setLoop_2.2.2.2.2.2.2.2.2.1
theorem dX7_setLoop_55 : decode cX7_setLoop 55 = .ok (.putfield 284, 3) := DX7_setLoop_2.2.2.2.2.2.2.2.2.2
set_option maxRecDepth 100000 in
theorem DX7_setLoop_3 : decode cX7_setLoop 58 = .ok (.aload_n 0, 1) ∧ decode cX7_setLoop 59 = .ok (.invokevirtual 268, 3) ∧ decode cX7_setLoop 62 = .ok (.iload_n 3, 1) ∧ decode cX7_setLoop 63 = .ok (.ireturn, 1) := by decide +kernel
theorem dX7_setLoop_58 : decode cX7_setLoop 58 = .ok (.aload_n 0, 1) := DX7_setLoop_3.1
theorem dX7_setLoop_59 : decode cX7_setLoop 59 = .ok (.invokevirtual 268, 3) := DX7_setLoop_3.2.1
theorem dX7_setLoop_62 : decode cX7_setLoop 62 = .ok (.iload_n 3, 1) := DX7_setLoop_3.2.2.1
theorem dX7_setLoop_63 : decode cX7_setLoop 63 = .ok (.ireturn, 1) := DX7_setLoop_3.2.2.2
set_option maxRecDepth 100000 in
theorem DX7_seek_0 : decode cX7_seek 0 = .ok (.iload_n 1, 1) ∧ decode cX7_seek 1 = .ok (.invokestatic 198, 3) ∧ decode cX7_seek 4 = .ok (.aload_n 0, 1) ∧ decode cX7_seek 5 = .ok (.getfield 12, 3) ∧ decode cX7_seek 8 = .ok (.getfield 287, 3) ∧ decode cX7_seek 11 = .ok (.istore_n 2, 1) ∧ decode cX7_seek 12 = .ok (.aload_n 0, 1) ∧ decode cX7_seek 13 = .ok (.invokevirtual 62, 3) ∧ decode cX7_seek 16 = .ok (.iload_n 1, 1) ∧ decode cX7_seek 17 = .ok (.putfield 287, 3) := by decide +kernel
theorem dX7_seek_0 : decode cX7_seek 0 = .ok (.iload_n 1, 1) := DX7_seek_0.1
theorem dX7_seek_1 : decode cX7_seek 1 = .ok (.invokestatic 198, 3) := DX7_seek_0.2.1
theorem dX7_seek_4 : decode cX7_seek 4 = .ok (.aload_n 0, 1) := DX7_seek_0.2.2.1
theorem dX7_seek_5 : decode cX7_seek 5 = .ok (.getfield 12, 3) := DX7_seek_0.2.2.2.1
theorem dX7_seek_8 : decode cX7_seek 8 = .ok (.getfield 287, 3) := DX7_seek_0.2.2.2.2.1
theorem dX7_seek_11 : decode cX7_seek 11 = .ok (.istore_n 2, 1) := DX7_seek_0.2.2.2.2.2.1
theorem dX7_seek_12 : decode cX7_seek 12 = .ok (.aload_n 0, 1) := DX7_seek_0.2.2.2.2.2.2.1
theorem dX7_seek_13 : decode cX7_seek 13 = .ok (.invokevirtual 62, 3) := DX7_seek_0.2.2.2.2.2.2.2.1
theorem dX7_seek_16 : decode cX7_seek 16 = .ok (.iload_n 1, 1) := DX7_seek_0.2.2.2.2.2.2.2.2.1
theorem dX7_seek_17 : decode cX7_seek 17 = .ok (.putfield 287, 3) := DX7_seek_0.2.2.2.2.2.2.2.2.2
set_option maxRecDepth 100000 in
theorem DX7_seek_1 : decode cX7_seek 20 = .ok (.aload_n 0, 1) ∧ decode cX7_seek 21 = .ok (.invokevirtual 268, 3) ∧ decode cX7_seek 24 = .ok (.iload_n 2, 1) ∧ decode cX7_seek 25 = .ok (.ireturn, 1) := by decide +kernel
theorem dX7_seek_20 : decode cX7_seek 20 = .ok (.aload_n 0, 1) := DX7_seek_1.1
theorem dX7_seek_21 : decode cX7_seek 21 = .ok (.invokevirtual 268, 3) := DX7_seek_1.2.1
theorem dX7_seek_24 : decode cX7_seek 24 = .ok (.iload_n 2, 1) := DX7_seek_1.2.2.1
theorem dX7_seek_25 : decode cX7_seek 25 = .ok (.ireturn, 1) := DX7_seek_1.2.2.2
set_option maxRecDepth 100000 in
theorem DX7_render_0 : decode cX7_render 0 = .ok (.iload_n 1, 1) ∧ decode cX7_render 1 = .ok (.iconst 1, 1) ∧ decode cX7_render 2 = .ok (.sipush 1000, 3) ∧ decode cX7_render 5 = .ok (.invokestatic 41, 3) ∧ decode cX7_render 8 = .ok (.ifCond .eq 14, 3) ∧ decode cX7_render 11 = .ok (.new 45, 3) ∧ decode cX7_render 14 = .ok (.dup, 1) ∧ decode cX7_render 15 = .ok (.ldc_w 290, 3) ∧ decode cX7_render 18 = .ok (.invokespecial 49, 3) ∧ decode cX7_render 21 = .ok (.athrow, 1) := by decide +kernel
theorem dX7_render_0 : decode cX7_render 0 = .ok (.iload_n 1, 1) := DX7_render_0.1
theorem dX7_render_1 : decode cX7_render 1 = .ok (.iconst 1, 1) := DX7_render_0.2.1
theorem dX7_render_2 : decode cX7_render 2 = .ok (.sipush 1000, 3) := DX7_render_0.2.2.1
theorem dX7_render_5 : decode cX7_render 5 = .ok (.invokestatic 41, 3) := DX7_render_0.2.2.2.1
theorem dX7_render_8 : decode cX7_render 8 = .ok (.ifCond .eq 14, 3) := DX7_render_0.2.2.2.2.1
theorem dX7_render_11 : decode cX7_render 11 = .ok (.new 45, 3) := DX7_render_0.2.2.2.2.2.1
theorem dX7_render_14 : decode cX7_render 14 = .ok (.dup, 1) := DX7_render_0.2.2.2.2.2.2.1
theorem dX7_render_15 : decode cX7_render 15 = .ok (.ldc_w 290, 3) := DX7_render_0.2.2.2.2.2.2.2.1
theorem dX7_render_18 : decode cX7_render 18 = .ok (.invokespecial 49, 3) := DX7_render_0.2.2.2.2.2.2.2.2.1
theorem dX7_render_21 : decode cX7_render 21 = .ok (.athrow, 1) := DX7_render_0.2.2.2.2.2.2.2.2.2
set_option maxRecDepth 100000 in
theorem DX7_render_1 : decode cX7_render 22 = .ok (.aload_n 0, 1) ∧ decode cX7_render 23 = .ok (.invokevirtual 62, 3) ∧ decode cX7_render 26 = .ok (.astore_n 2, 1) ∧ decode cX7_render 27 = .ok (.iconst 0, 1) ∧ decode cX7_render 28 = .ok (.istore_n 3, 1) ∧ decode cX7_render 29 = .ok (.iload_n 3, 1) ∧ decode cX7_render 30 = .ok (.iload_n 1, 1) ∧ decode cX7_render 31 = .ok (.if_icmp .ge 36, 3) ∧ decode cX7_render 34 = .ok (.aload_n 0, 1) ∧ decode cX7_render 35 = .ok (.aload_n 0, 1) := by decide +kernel
theorem dX7_render_22 : decode cX7_render 22 = .ok (.aload_n 0, 1) := DX7_render_1.1
theorem dX7_render_23 : decode cX7_render 23 = .ok (.invokevirtual 62, 3) := DX7_render_1.2.1
theorem dX7_render_26 : decode cX7_render 26 = .ok (.astore_n 2, 1) := DX7_render_1.2.2.1
theorem dX7_render_27 : decode cX7_render 27 = .ok (.iconst 0, 1) := DX7_render_1.2.2.2.1
theorem dX7_render_28 : decode cX7_render 28 = .ok (.istore_n 3, 1) := DX7_render_1.2.2.2.2.1
theorem dX7_render_29 : decode cX7_render 29 = .ok (.iload_n 3, 1) := DX7_render_1.2.2.2.2.2.1
theorem dX7_render_30 : decode cX7_render 30 = .ok (.iload_n 1, 1) := DX7_render_1.2.2.2.2.2.2.1
theorem dX7_render_31 : decode cX7_render 31 = .ok (.if_icmp .ge 36, 3) := DX7_render_1.2.2.2.2.2.2.2.1
theorem dX7_render_34 : decode cX7_render 34 = .ok (.aload_n 0, 1) := DX7_render_1.2.2.2.2.2.2.2.2.1
theorem dX7_render_35 : decode cX7_render 35 = .ok (.aload_n 0, 1) := DX7_render_1.2.2.2.2.2.2.2.2.2
set_option maxRecDepth 100000 in
theorem DX7_render_2 : decode cX7_render 36 = .ok (.getfield 32, 3) ∧ decode cX7_render 39 = .ok (.aload_n 2, 1) ∧ decode cX7_render 40 = .ok (.getfield 287, 3) ∧ decode cX7_render 43 = .ok (.invokevirtual 271, 3) ∧ decode cX7_render 46 = .ok (.aload_n 2, 1) ∧ decode cX7_render 47 = .ok (.getfield 292, 3) ∧ decode cX7_render 50 = .ok (.aload_n 0, 1) ∧ decode cX7_render 51 = .ok (.getfield 32, 3) ∧ decode cX7_render 54 = .ok (.invokevirtual 296, 3) ∧ decode cX7_render 57 = .ok (.aload_n 2, 1) := by decide +kernel
theorem dX7_render_36 : decode cX7_render 36 = .ok (.getfield 32, 3) := DX7_render_2.1
theorem dX7_render_39 : decode cX7_render 39 = .ok (.aload_n 2, 1) := DX7_render_2.2.1
theorem dX7_render_40 : decode cX7_render 40 = .ok (.getfield 287, 3) := DX7_render_2.2.2.1
theorem dX7_render_43 : decode cX7_render 43 = .ok (.invokevirtual 271, 3) := DX7_render_2.2.2.2.1
theorem dX7_render_46 : decode cX7_render 46 = .ok (.aload_n 2, 1) := DX7_render_2.2.2.2.2.1
theorem dX7_render_47 : decode cX7_render 47 = .ok (.getfield 292, 3) := DX7_render_2.2.2.2.2.2.1
theorem dX7_render_50 : decode cX7_render 50 = .ok (.aload_n 0, 1) := DX7_render_2.2.2.2.2.2.2.1
theorem dX7_render_51 : decode cX7_render 51 = .ok (.getfield 32, 3) := DX7_render_2.2.2.2.2.2.2.2.1
theorem dX7_render_54 : decode cX7_render 54 = .ok (.invokevirtual 296, 3) := DX7_render_2.2.2.2.2.2.2.2.2.1
theorem dX7_render_57 : decode cX7_render 57 = .ok (.aload_n 2, 1) := DX7_render_2.2.2.2.2.2.2.2.2.2
set_option maxRecDepth 100000 in
theorem DX7_render_3 : decode cX7_render 58 = .ok (.invokevirtual 302, 3) ∧ decode cX7_render 61 = .ok (.iinc 3 1, 3) ∧ decode cX7_render 64 = .ok (.goto (-35), 3) ∧ decode cX7_render 67 = .ok (.aload_n 0, 1) ∧ decode cX7_render 68 = .ok (.invokevirtual 268, 3) ∧ decode cX7_render 71 = .ok (.aload_n 0, 1) ∧ decode cX7_render 72 = .ok (.getfield 12, 3) ∧ decode cX7_render 75 = .ok (.getfield 287, 3) ∧ decode cX7_render 78 = .ok (.ireturn, 1) := by decide +kernel
theorem dX7_render_58 : decode cX7_render 58 = .ok (.invokevirtual 302, 3) := DX7_render_3.1
theorem dX7_render_61 : decode cX7_render 61 = .ok (.iinc 3 1, 3) := DX7_render_3.2.1
theorem dX7_render_64 : decode cX7_render 64 = .ok (.goto (-35), 3) := DX7_render_3.2.2.1
theorem dX7_render_67 : decode cX7_render 67 = .ok (.aload_n 0, 1) := DX7_render_3.2.2.2.1
theorem dX7_render_68 : decode cX7_render 68 = .ok (.invokevirtual 268, 3) := DX7_render_3.2.2.2.2.1
theorem dX7_render_71 : decode cX7_render 71 = .ok (.aload_n 0, 1) := DX7_render_3.2.2.2.2.2.1
theorem dX7_render_72 : decode cX7_render 72 = .ok (.getfield 12, 3) := DX7_render_3.2.2.2.2.2.2.1
theorem dX7_render_75 : decode cX7_render 75 = .ok (.getfield 287, 3) := DX7_render_3.2.2.2.2.2.2.2.1
theorem dX7_render_78 : decode cX7_render 78 = .ok (.ireturn, 1) := DX7_render_3.2.2.2.2.2.2.2.2
set_option maxRecDepth 100000 in
theorem DX7_meter_0 : decode cX7_meter 0 = .ok (.iload_n 1, 1) ∧ decode cX7_meter 1 = .ok (.iconst 0, 1) ∧ decode cX7_meter 2 = .ok (.iconst 4, 1) ∧ decode cX7_meter 3 = .ok (.invokestatic 41, 3) ∧ decode cX7_meter 6 = .ok (.ifCond .eq 14, 3) ∧ decode cX7_meter 9 = .ok (.new 45, 3) ∧ decode cX7_meter 12 = .ok (.dup, 1) ∧ decode cX7_meter 13 = .ok (.ldc_w 305, 3) ∧ decode cX7_meter 16 = .ok (.invokespecial 49, 3) ∧ decode cX7_meter 19 = .ok (.athrow, 1) := by decide +kernel
theorem dX7_meter_0 : decode cX7_meter 0 = .ok (.iload_n 1, 1) := DX7_meter_0.1
theorem dX7_meter_1 : decode cX7_meter 1 = .ok (.iconst 0, 1) := DX7_meter_0.2.1
theorem dX7_meter_2 : decode cX7_meter 2 = .ok (.iconst 4, 1) := DX7_meter_0.2.2.1
theorem dX7_meter_3 : decode cX7_meter 3 = .ok (.invokestatic 41, 3) := DX7_meter_0.2.2.2.1
theorem dX7_meter_6 : decode cX7_meter 6 = .ok (.ifCond .eq 14, 3) := DX7_meter_0.2.2.2.2.1
theorem dX7_meter_9 : decode cX7_meter 9 = .ok (.new 45, 3) := DX7_meter_0.2.2.2.2.2.1
theorem dX7_meter_12 : decode cX7_meter 12 = .ok (.dup, 1) := DX7_meter_0.2.2.2.2.2.2.1
theorem dX7_meter_13 : decode cX7_meter 13 = .ok (.ldc_w 305, 3) := DX7_meter_0.2.2.2.2.2.2.2.1
theorem dX7_meter_16 : decode cX7_meter 16 = .ok (.invokespecial 49, 3) := DX7_meter_0.2.2.2.2.2.2.2.2.1
theorem dX7_meter_19 : decode cX7_meter 19 = .ok (.athrow, 1) := DX7_meter_0.2.2.2.2.2.2.2.2.2
set_option maxRecDepth 100000 in
theorem DX7_meter_1 : decode cX7_meter 20 = .ok (.aload_n 0, 1) ∧ decode cX7_meter 21 = .ok (.getfield 12, 3) ∧ decode cX7_meter 24 = .ok (.getfield 292, 3) ∧ decode cX7_meter 27 = .ok (.iload_n 1, 1) ∧ decode cX7_meter 28 = .ok (.invokevirtual 307, 3) ∧ decode cX7_meter 31 = .ok (.lreturn, 1) := by decide +kernel
theorem dX7_meter_20 : decode cX7_meter 20 = .ok (.aload_n 0, 1) := DX7_meter_1.1
theorem dX7_meter_21 : decode cX7_meter 21 = .ok (.getfield 12, 3) := DX7_meter_1.2.1
theorem dX7_meter_24 : decode cX7_meter 24 = .ok (.getfield 292, 3) := DX7_meter_1.2.2.1
theorem dX7_meter_27 : decode cX7_meter 27 = .ok (.iload_n 1, 1) := DX7_meter_1.2.2.2.1
theorem dX7_meter_28 : decode cX7_meter 28 = .ok (.invokevirtual 307, 3) := DX7_meter_1.2.2.2.2.1
theorem dX7_meter_31 : decode cX7_meter 31 = .ok (.lreturn, 1) := DX7_meter_1.2.2.2.2.2
set_option maxRecDepth 100000 in
theorem DX7_clearMeters_0 : decode cX7_clearMeters 0 = .ok (.aload_n 0, 1) ∧ decode cX7_clearMeters 1 = .ok (.getfield 12, 3) ∧ decode cX7_clearMeters 4 = .ok (.getfield 292, 3) ∧ decode cX7_clearMeters 7 = .ok (.getfield 311, 3) ∧ decode cX7_clearMeters 10 = .ok (.lstore_n 1, 1) ∧ decode cX7_clearMeters 11 = .ok (.aload_n 0, 1) ∧ decode cX7_clearMeters 12 = .ok (.invokevirtual 62, 3) ∧ decode cX7_clearMeters 15 = .ok (.getfield 292, 3) ∧ decode cX7_clearMeters 18 = .ok (.invokevirtual 315, 3) ∧ decode cX7_clearMeters 21 = .ok (.aload_n 0, 1) := by decide +kernel
theorem dX7_clearMeters_0 : decode cX7_clearMeters 0 = .ok (.aload_n 0, 1) := DX7_clearMeters_0.1
theorem dX7_clearMeters_1 : decode cX7_clearMeters 1 = .ok (.getfield 12, 3) := DX7_clearMeters_0.2.1
theorem dX7_clearMeters_4 : decode cX7_clearMeters 4 = .ok (.getfield 292, 3) := DX7_clearMeters_0.2.2.1
theorem dX7_clearMeters_7 : decode cX7_clearMeters 7 = .ok (.getfield 311, 3) := DX7_clearMeters_0.2.2.2.1
theorem dX7_clearMeters_10 : decode cX7_clearMeters 10 = .ok (.lstore_n 1, 1) := DX7_clearMeters_0.2.2.2.2.1
theorem dX7_clearMeters_11 : decode cX7_clearMeters 11 = .ok (.aload_n 0, 1) := DX7_clearMeters_0.2.2.2.2.2.1
theorem dX7_clearMeters_12 : decode cX7_clearMeters 12 = .ok (.invokevirtual 62, 3) := DX7_clearMeters_0.2.2.2.2.2.2.1
theorem dX7_clearMeters_15 : decode cX7_clearMeters 15 = .ok (.getfield 292, 3) := DX7_clearMeters_0.2.2.2.2.2.2.2.1
theorem dX7_clearMeters_18 : decode cX7_clearMeters 18 = .ok (.invokevirtual 315, 3) := DX7_clearMeters_0.2.2.2.2.2.2.2.2.1
theorem dX7_clearMeters_21 : decode cX7_clearMeters 21 = .ok (.aload_n 0, 1) := DX7_clearMeters_0.2.2.2.2.2.2.2.2.2
set_option maxRecDepth 100000 in
theorem DX7_clearMeters_1 : decode cX7_clearMeters 22 = .ok (.invokevirtual 268, 3) ∧ decode cX7_clearMeters 25 = .ok (.lload_n 1, 1) ∧ decode cX7_clearMeters 26 = .ok (.lreturn, 1) := by decide +kernel
theorem dX7_clearMeters_22 : decode cX7_clearMeters 22 = .ok (.invokevirtual 268, 3) := DX7_clearMeters_1.1
theorem dX7_clearMeters_25 : decode cX7_clearMeters 25 = .ok (.lload_n 1, 1) := DX7_clearMeters_1.2.1
theorem dX7_clearMeters_26 : decode cX7_clearMeters 26 = .ok (.lreturn, 1) := DX7_clearMeters_1.2.2
set_option maxRecDepth 100000 in
theorem DX7_length_0 : decode cX7_length 0 = .ok (.iconst 0, 1) ∧ decode cX7_length 1 = .ok (.istore_n 1, 1) ∧ decode cX7_length 2 = .ok (.iconst 0, 1) ∧ decode cX7_length 3 = .ok (.istore_n 2, 1) ∧ decode cX7_length 4 = .ok (.iload_n 2, 1) ∧ decode cX7_length 5 = .ok (.aload_n 0, 1) ∧ decode cX7_length 6 = .ok (.getfield 12, 3) ∧ decode cX7_length 9 = .ok (.getfield 144, 3) ∧ decode cX7_length 12 = .ok (.if_icmp .ge 26, 3) ∧ decode cX7_length 15 = .ok (.iload_n 1, 1) := by decide +kernel
theorem dX7_length_0 : decode cX7_length 0 = .ok (.iconst 0, 1) := DX7_length_0.1
theorem dX7_length_1 : decode cX7_length 1 = .ok (.istore_n 1, 1) := DX7_length_0.2.1
theorem dX7_length_2 : decode cX7_length 2 = .ok (.iconst 0, 1) := DX7_length_0.2.2.1
theorem dX7_length_3 : decode cX7_length 3 = .ok (.istore_n 2, 1) := DX7_length_0.2.2.2.1
theorem dX7_length_4 : decode cX7_length 4 = .ok (.iload_n 2, 1) := DX7_length_0.2.2.2.2.1
theorem dX7_length_5 : decode cX7_length 5 = .ok (.aload_n 0, 1) := DX7_length_0.2.2.2.2.2.1
theorem dX7_length_6 : decode cX7_length 6 = .ok (.getfield 12, 3) := DX7_length_0.2.2.2.2.2.2.1
theorem dX7_length_9 : decode cX7_length 9 = .ok (.getfield 144, 3) := DX7_length_0.2.2.2.2.2.2.2.1
theorem dX7_length_12 : decode cX7_length 12 = .ok (.if_icmp .ge 26, 3) := DX7_length_0.2.2.2.2.2.2.2.2.1
theorem dX7_length_15 : decode cX7_length 15 = .ok (.iload_n 1, 1) := DX7_length_0.2.2.2.2.2.2.2.2.2
set_option maxRecDepth 100000 in
theorem DX7_length_1 : decode cX7_length 16 = .ok (.aload_n 0, 1) ∧ decode cX7_length 17 = .ok (.getfield 12, 3) ∧ decode cX7_length 20 = .ok (.getfield 100, 3) ∧ decode cX7_length 23 = .ok (.iload_n 2, 1) ∧ decode cX7_length 24 = .ok (.aaload, 1) ∧ decode cX7_length 25 = .ok (.invokevirtual 131, 3) ∧ decode cX7_length 28 = .ok (.invokestatic 318, 3) ∧ decode cX7_length 31 = .ok (.istore_n 1, 1) ∧ decode cX7_length 32 = .ok (.iinc 2 1, 3) ∧ decode cX7_length 35 = .ok (.goto (-31), 3) := by decide +kernel
theorem dX7_length_16 : decode cX7_length 16 = .ok (.aload_n 0, 1) := DX7_length_1.1
theorem dX7_length_17 : decode cX7_length 17 = .ok (.getfield 12, 3) := DX7_length_1.2.1
theorem dX7_length_20 : decode cX7_length 20 = .ok (.getfield 100, 3) := DX7_length_1.2.2.1
theorem dX7_length_23 : decode cX7_length 23 = .ok (.iload_n 2, 1) := DX7_length_1.2.2.2.1
theorem dX7_length_24 : decode cX7_length 24 = .ok (.aaload, 1) := DX7_length_1.2.2.2.2.1
theorem dX7_length_25 : decode cX7_length 25 = .ok (.invokevirtual 131, 3) := DX7_length_1.2.2.2.2.2.1
theorem dX7_length_28 : decode cX7_length 28 = .ok (.invokestatic 318, 3) := DX7_length_1.2.2.2.2.2.2.1
theorem dX7_length_31 : decode cX7_length 31 = .ok (.istore_n 1, 1) := DX7_length_1.2.2.2.2.2.2.2.1
theorem dX7_length_32 : decode cX7_length 32 = .ok (.iinc 2 1, 3) := DX7_length_1.2.2.2.2.2.2.2.2.1
theorem dX7_length_35 : decode cX7_length 35 = .ok (.goto (-31), 3) := DX7_length_1.2.2.2.2.2.2.2.2.2
set_option maxRecDepth 100000 in
theorem DX7_length_2 : decode cX7_length 38 = .ok (.iload_n 1, 1) ∧ decode cX7_length 39 = .ok (.ireturn, 1) := by decide +kernel
theorem dX7_length_38 : decode cX7_length 38 = .ok (.iload_n 1, 1) := DX7_length_2.1
theorem dX7_length_39 : decode cX7_length 39 = .ok (.ireturn, 1) := DX7_length_2.2
set_option maxRecDepth 100000 in
theorem DX7_undo_0 : decode cX7_undo 0 = .ok (.aload_n 0, 1) ∧ decode cX7_undo 1 = .ok (.getfield 323, 3) ∧ decode cX7_undo 4 = .ok (.ifCond .gt 14, 3) ∧ decode cX7_undo 7 = .ok (.new 209, 3) ∧ decode cX7_undo 10 = .ok (.dup, 1) ∧ decode cX7_undo 11 = .ok (.ldc_w 326, 3) ∧ decode cX7_undo 14 = .ok (.invokespecial 213, 3) ∧ decode cX7_undo 17 = .ok (.athrow, 1) ∧ decode cX7_undo 18 = .ok (.aload_n 0, 1) ∧ decode cX7_undo 19 = .ok (.dup, 1) := by decide +kernel
theorem dX7_undo_0 : decode cX7_undo 0 = .ok (.aload_n 0, 1) := DX7_undo_0.1
theorem dX7_undo_1 : decode cX7_undo 1 = .ok (.getfield 323, 3) := DX7_undo_0.2.1
theorem dX7_undo_4 : decode cX7_undo 4 = .ok (.ifCond .gt 14, 3) := DX7_undo_0.2.2.1
theorem dX7_undo_7 : decode cX7_undo 7 = .ok (.new 209, 3) := DX7_undo_0.2.2.2.1
theorem dX7_undo_10 : decode cX7_undo 10 = .ok (.dup, 1) := DX7_undo_0.2.2.2.2.1
theorem dX7_undo_11 : decode cX7_undo 11 = .ok (.ldc_w 326, 3) := DX7_undo_0.2.2.2.2.2.1
theorem dX7_undo_14 : decode cX7_undo 14 = .ok (.invokespecial 213, 3) := DX7_undo_0.2.2.2.2.2.2.1
theorem dX7_undo_17 : decode cX7_undo 17 = .ok (.athrow, 1) := DX7_undo_0.2.2.2.2.2.2.2.1
theorem dX7_undo_18 : decode cX7_undo 18 = .ok (.aload_n 0, 1) := DX7_undo_0.2.2.2.2.2.2.2.2.1
theorem dX7_undo_19 : decode cX7_undo 19 = .ok (.dup, 1) := DX7_undo_0.2.2.2.2.2.2.2.2.2
set_option maxRecDepth 100000 in
theorem DX7_undo_1 : decode cX7_undo 20 = .ok (.getfield 323, 3) ∧ decode cX7_undo 23 = .ok (.iconst 1, 1) ∧ decode cX7_undo 24 = .ok (.isub, 1) ∧ decode cX7_undo 25 = .ok (.putfield 323, 3) ∧ decode cX7_undo 28 = .ok (.aload_n 0, 1) ∧ decode cX7_undo 29 = .ok (.getfield 12, 3) ∧ decode cX7_undo 32 = .ok (.astore_n 1, 1) ∧ decode cX7_undo 33 = .ok (.aload_n 0, 1) ∧ decode cX7_undo 34 = .ok (.aload_n 0, 1) ∧ decode cX7_undo 35 = .ok (.getfield 19, 3) := by decide +kernel
theorem dX7_undo_20 : decode cX7_undo 20 = .ok (.getfield 323, 3) := DX7_undo_1.1
theorem dX7_undo_23 : decode cX7_undo 23 = .ok (.iconst 1, 1) := DX7_undo_1.2.1
theorem dX7_undo_24 : decode cX7_undo 24 = .ok (.isub, 1) := DX7_undo_1.2.2.1
theorem dX7_undo_25 : decode cX7_undo 25 = .ok (.putfield 323, 3) := DX7_undo_1.2.2.2.1
theorem dX7_undo_28 : decode cX7_undo 28 = .ok (.aload_n 0, 1) := DX7_undo_1.2.2.2.2.1
theorem dX7_undo_29 : decode cX7_undo 29 = .ok (.getfield 12, 3) := DX7_undo_1.2.2.2.2.2.1
theorem dX7_undo_32 : decode cX7_undo 32 = .ok (.astore_n 1, 1) := DX7_undo_1.2.2.2.2.2.2.1
theorem dX7_undo_33 : decode cX7_undo 33 = .ok (.aload_n 0, 1) := DX7_undo_1.2.2.2.2.2.2.2.1
theorem dX7_undo_34 : decode cX7_undo 34 = .ok (.aload_n 0, 1) := DX7_undo_1.2.2.2.2.2.2.2.2.1
theorem dX7_undo_35 : decode cX7_undo 35 = .ok (.getfield 19, 3) := DX7_undo_1.2.2.2.2.2.2.2.2.2
set_option maxRecDepth 100000 in
theorem DX7_undo_2 : decode cX7_undo 38 = .ok (.aload_n 0, 1) ∧ decode cX7_undo 39 = .ok (.getfield 323, 3) ∧ decode cX7_undo 42 = .ok (.aaload, 1) ∧ decode cX7_undo 43 = .ok (.putfield 12, 3) ∧ decode cX7_undo 46 = .ok (.aload_n 0, 1) ∧ decode cX7_undo 47 = .ok (.getfield 19, 3) ∧ decode cX7_undo 50 = .ok (.aload_n 0, 1) ∧ decode cX7_undo 51 = .ok (.getfield 323, 3) ∧ decode cX7_undo 54 = .ok (.aload_n 1, 1) ∧ decode cX7_undo 55 = .ok (.aastore, 1) := by decide +kernel
theorem dX7_undo_38 : decode cX7_undo 38 = .ok (.aload_n 0, 1) := DX7_undo_2.1
theorem dX7_undo_39 : decode cX7_undo 39 = .ok (.getfield 323, 3) := DX7_undo_2.2.1
theorem dX7_undo_42 : decode cX7_undo 42 = .ok (.aaload, 1) := DX7_undo_2.2.2.1
theorem dX7_undo_43 : decode cX7_undo 43 = .ok (.putfield 12, 3) := DX7_undo_2.2.2.2.1
theorem dX7_undo_46 : decode cX7_undo 46 = .ok (.aload_n 0, 1) := DX7_undo_2.2.2.2.2.1
theorem dX7_undo_47 : decode cX7_undo 47 = .ok (.getfield 19, 3) := DX7_undo_2.2.2.2.2.2.1
theorem dX7_undo_50 : decode cX7_undo 50 = .ok (.aload_n 0, 1) := DX7_undo_2.2.2.2.2.2.2.1
theorem dX7_undo_51 : decode cX7_undo 51 = .ok (.getfield 323, 3) := DX7_undo_2.2.2.2.2.2.2.2.1
theorem dX7_undo_54 : decode cX7_undo 54 = .ok (.aload_n 1, 1) := DX7_undo_2.2.2.2.2.2.2.2.2.1
theorem dX7_undo_55 : decode cX7_undo 55 = .ok (.aastore, 1) := DX7_undo_2.2.2.2.2.2.2.2.2.2
set_option maxRecDepth 100000 in
theorem DX7_undo_3 : decode cX7_undo 56 = .ok (.aload_n 0, 1) ∧ decode cX7_undo 57 = .ok (.invokevirtual 328, 3) ∧ decode cX7_undo 60 = .ok (.aload_n 0, 1) ∧ decode cX7_undo 61 = .ok (.getfield 323, 3) ∧ decode cX7_undo 64 = .ok (.ireturn, 1) := by decide +kernel
theorem dX7_undo_56 : decode cX7_undo 56 = .ok (.aload_n 0, 1) := DX7_undo_3.1
theorem dX7_undo_57 : decode cX7_undo 57 = .ok (.invokevirtual 328, 3) := DX7_undo_3.2.1
theorem dX7_undo_60 : decode cX7_undo 60 = .ok (.aload_n 0, 1) := DX7_undo_3.2.2.1
theorem dX7_undo_61 : decode cX7_undo 61 = .ok (.getfield 323, 3) := DX7_undo_3.2.2.2.1
theorem dX7_undo_64 : decode cX7_undo 64 = .ok (.ireturn, 1) := DX7_undo_3.2.2.2.2
set_option maxRecDepth 100000 in
theorem DX7_digest_0 : decode cX7_digest 0 = .ok (.ldc2_w 331, 3) ∧ decode cX7_digest 3 = .ok (.aload_n 0, 1) ∧ decode cX7_digest 4 = .ok (.getfield 323, 3) ∧ decode cX7_digest 7 = .ok (.i2l, 1) ∧ decode cX7_digest 8 = .ok (.invokestatic 333, 3) ∧ decode cX7_digest 11 = .ok (.lstore_n 1, 1) ∧ decode cX7_digest 12 = .ok (.aload_n 0, 1) ∧ decode cX7_digest 13 = .ok (.getfield 12, 3) ∧ decode cX7_digest 16 = .ok (.lload_n 1, 1) ∧ decode cX7_digest 17 = .ok (.invokevirtual 337, 3) := by decide +kernel
theorem dX7_digest_0 : decode cX7_digest 0 = .ok (.ldc2_w 331, 3) := DX7_digest_0.1
theorem dX7_digest_3 : decode cX7_digest 3 = .ok (.aload_n 0, 1) := DX7_digest_0.2.1
theorem dX7_digest_4 : decode cX7_digest 4 = .ok (.getfield 323, 3) := DX7_digest_0.2.2.1
theorem dX7_digest_7 : decode cX7_digest 7 = .ok (.i2l, 1) := DX7_digest_0.2.2.2.1
theorem dX7_digest_8 : decode cX7_digest 8 = .ok (.invokestatic 333, 3) := DX7_digest_0.2.2.2.2.1
theorem dX7_digest_11 : decode cX7_digest 11 = .ok (.lstore_n 1, 1) := DX7_digest_0.2.2.2.2.2.1
theorem dX7_digest_12 : decode cX7_digest 12 = .ok (.aload_n 0, 1) := DX7_digest_0.2.2.2.2.2.2.1
theorem dX7_digest_13 : decode cX7_digest 13 = .ok (.getfield 12, 3) := DX7_digest_0.2.2.2.2.2.2.2.1
theorem dX7_digest_16 : decode cX7_digest 16 = .ok (.lload_n 1, 1) := DX7_digest_0.2.2.2.2.2.2.2.2.1
theorem dX7_digest_17 : decode cX7_digest 17 = .ok (.invokevirtual 337, 3) := DX7_digest_0.2.2.2.2.2.2.2.2.2
set_option maxRecDepth 100000 in
theorem DX7_digest_1 : decode cX7_digest 20 = .ok (.lstore_n 1, 1) ∧ decode cX7_digest 21 = .ok (.aload_n 0, 1) ∧ decode cX7_digest 22 = .ok (.getfield 12, 3) ∧ decode cX7_digest 25 = .ok (.aload_n 0, 1) ∧ decode cX7_digest 26 = .ok (.getfield 12, 3) ∧ decode cX7_digest 29 = .ok (.lload_n 1, 1) ∧ decode cX7_digest 30 = .ok (.invokevirtual 341, 3) ∧ decode cX7_digest 33 = .ok (.invokevirtual 344, 3) ∧ decode cX7_digest 36 = .ok (.lstore_n 1, 1) ∧ decode cX7_digest 37 = .ok (.iconst 0, 1) := by decide +kernel
theorem dX7_digest_20 : decode cX7_digest 20 = .ok (.lstore_n 1, 1) := DX7_digest_1.1
theorem dX7_digest_21 : decode cX7_digest 21 = .ok (.aload_n 0, 1) := DX7_digest_1.2.1
theorem dX7_digest_22 : decode cX7_digest 22 = .ok (.getfield 12, 3) := DX7_digest_1.2.2.1
theorem dX7_digest_25 : decode cX7_digest 25 = .ok (.aload_n 0, 1) := DX7_digest_1.2.2.2.1
theorem dX7_digest_26 : decode cX7_digest 26 = .ok (.getfield 12, 3) := DX7_digest_1.2.2.2.2.1
theorem dX7_digest_29 : decode cX7_digest 29 = .ok (.lload_n 1, 1) := DX7_digest_1.2.2.2.2.2.1
theorem dX7_digest_30 : decode cX7_digest 30 = .ok (.invokevirtual 341, 3) := DX7_digest_1.2.2.2.2.2.2.1
theorem dX7_digest_33 : decode cX7_digest 33 = .ok (.invokevirtual 344, 3) := DX7_digest_1.2.2.2.2.2.2.2.1
theorem dX7_digest_36 : decode cX7_digest 36 = .ok (.lstore_n 1, 1) := DX7_digest_1.2.2.2.2.2.2.2.2.1
theorem dX7_digest_37 : decode cX7_digest 37 = .ok (.iconst 0, 1) := DX7_digest_1.2.2.2.2.2.2.2.2.2
set_option maxRecDepth 100000 in
theorem DX7_digest_2 : decode cX7_digest 38 = .ok (.istore_n 3, 1) ∧ decode cX7_digest 39 = .ok (.iload_n 3, 1) ∧ decode cX7_digest 40 = .ok (.iconst 4, 1) ∧ decode cX7_digest 41 = .ok (.if_icmp .ge 23, 3) ∧ decode cX7_digest 44 = .ok (.aload_n 0, 1) ∧ decode cX7_digest 45 = .ok (.getfield 12, 3) ∧ decode cX7_digest 48 = .ok (.getfield 179, 3) ∧ decode cX7_digest 51 = .ok (.iload_n 3, 1) ∧ decode cX7_digest 52 = .ok (.aaload, 1) ∧ decode cX7_digest 53 = .ok (.lload_n 1, 1) := by decide +kernel
theorem dX7_digest_38 : decode cX7_digest 38 = .ok (.istore_n 3, 1) := DX7_digest_2.1
theorem dX7_digest_39 : decode cX7_digest 39 = .ok (.iload_n 3, 1) := DX7_digest_2.2.1
theorem dX7_digest_40 : decode cX7_digest 40 = .ok (.iconst 4, 1) := DX7_digest_2.2.2.1
theorem dX7_digest_41 : decode cX7_digest 41 = .ok (.if_icmp .ge 23, 3) := DX7_digest_2.2.2.2.1
theorem dX7_digest_44 : decode cX7_digest 44 = .ok (.aload_n 0, 1) := DX7_digest_2.2.2.2.2.1
theorem dX7_digest_45 : decode cX7_digest 45 = .ok (.getfield 12, 3) := DX7_digest_2.2.2.2.2.2.1
theorem dX7_digest_48 : decode cX7_digest 48 = .ok (.getfield 179, 3) := DX7_digest_2.2.2.2.2.2.2.1
theorem dX7_digest_51 : decode cX7_digest 51 = .ok (.iload_n 3, 1) := DX7_digest_2.2.2.2.2.2.2.2.1
theorem dX7_digest_52 : decode cX7_digest 52 = .ok (.aaload, 1) := DX7_digest_2.2.2.2.2.2.2.2.2.1
theorem dX7_digest_53 : decode cX7_digest 53 = .ok (.lload_n 1, 1) := DX7_digest_2.2.2.2.2.2.2.2.2.2
set_option maxRecDepth 100000 in
theorem DX7_digest_3 : decode cX7_digest 54 = .ok (.invokevirtual 347, 3) ∧ decode cX7_digest 57 = .ok (.lstore_n 1, 1) ∧ decode cX7_digest 58 = .ok (.iinc 3 1, 3) ∧ decode cX7_digest 61 = .ok (.goto (-22), 3) ∧ decode cX7_digest 64 = .ok (.iconst 0, 1) ∧ decode cX7_digest 65 = .ok (.istore_n 3, 1) ∧ decode cX7_digest 66 = .ok (.iload_n 3, 1) ∧ decode cX7_digest 67 = .ok (.sipush 4000, 3) ∧ decode cX7_digest 70 = .ok (.if_icmp .ge 42, 3) ∧ decode cX7_digest 73 = .ok (.aload_n 0, 1) := by decide +kernel
theorem dX7_digest_54 : decode cX7_digest 54 = .ok (.invokevirtual 347, 3) := DX7_digest_3.1
theorem dX7_digest_57 : decode cX7_digest 57 = .ok (.lstore_n 1, 1) := DX7_digest_3.2.1
theorem dX7_digest_58 : decode cX7_digest 58 = .ok (.iinc 3 1, 3) := DX7_digest_3.2.2.1
theorem dX7_digest_61 : decode cX7_digest 61 = .ok (.goto (-22), 3) := DX7_digest_3.2.2.2.1
theorem dX7_digest_64 : decode cX7_digest 64 = .ok (.iconst 0, 1) := DX7_digest_3.2.2.2.2.1
theorem dX7_digest_65 : decode cX7_digest 65 = .ok (.istore_n 3, 1) := DX7_digest_3.2.2.2.2.2.1
theorem dX7_digest_66 : decode cX7_digest 66 = .ok (.iload_n 3, 1) := DX7_digest_3.2.2.2.2.2.2.1
theorem dX7_digest_67 : decode cX7_digest 67 = .ok (.sipush 4000, 3) := DX7_digest_3.2.2.2.2.2.2.2.1
theorem dX7_digest_70 : decode cX7_digest 70 = .ok (.if_icmp .ge 42, 3) := DX7_digest_3.2.2.2.2.2.2.2.2.1
theorem dX7_digest_73 : decode cX7_digest 73 = .ok (.aload_n 0, 1) := DX7_digest_3.2.2.2.2.2.2.2.2.2
set_option maxRecDepth 100000 in
theorem DX7_digest_4 : decode cX7_digest 74 = .ok (.aload_n 0, 1) ∧ decode cX7_digest 75 = .ok (.getfield 32, 3) ∧ decode cX7_digest 78 = .ok (.iload_n 3, 1) ∧ decode cX7_digest 79 = .ok (.invokevirtual 271, 3) ∧ decode cX7_digest 82 = .ok (.lload_n 1, 1) ∧ decode cX7_digest 83 = .ok (.aload_n 0, 1) ∧ decode cX7_digest 84 = .ok (.getfield 32, 3) ∧ decode cX7_digest 87 = .ok (.getfield 278, 3) ∧ decode cX7_digest 90 = .ok (.i2l, 1) ∧ decode cX7_digest 91 = .ok (.invokestatic 333, 3) := by decide +kernel
theorem dX7_digest_74 : decode cX7_digest 74 = .ok (.aload_n 0, 1) := DX7_digest_4.1
theorem dX7_digest_75 : decode cX7_digest 75 = .ok (.getfield 32, 3) := DX7_digest_4.2.1
theorem dX7_digest_78 : decode cX7_digest 78 = .ok (.iload_n 3, 1) := DX7_digest_4.2.2.1
theorem dX7_digest_79 : decode cX7_digest 79 = .ok (.invokevirtual 271, 3) := DX7_digest_4.2.2.2.1
theorem dX7_digest_82 : decode cX7_digest 82 = .ok (.lload_n 1, 1) := DX7_digest_4.2.2.2.2.1
theorem dX7_digest_83 : decode cX7_digest 83 = .ok (.aload_n 0, 1) := DX7_digest_4.2.2.2.2.2.1
theorem dX7_digest_84 : decode cX7_digest 84 = .ok (.getfield 32, 3) := DX7_digest_4.2.2.2.2.2.2.1
theorem dX7_digest_87 : decode cX7_digest 87 = .ok (.getfield 278, 3) := DX7_digest_4.2.2.2.2.2.2.2.1
theorem dX7_digest_90 : decode cX7_digest 90 = .ok (.i2l, 1) := DX7_digest_4.2.2.2.2.2.2.2.2.1
theorem dX7_digest_91 : decode cX7_digest 91 = .ok (.invokestatic 333, 3) := DX7_digest_4.2.2.2.2.2.2.2.2.2
set_option maxRecDepth 100000 in
theorem DX7_digest_5 : decode cX7_digest 94 = .ok (.aload_n 0, 1) ∧ decode cX7_digest 95 = .ok (.getfield 32, 3) ∧ decode cX7_digest 98 = .ok (.getfield 275, 3) ∧ decode cX7_digest 101 = .ok (.i2l, 1) ∧ decode cX7_digest 102 = .ok (.invokestatic 333, 3) ∧ decode cX7_digest 105 = .ok (.lstore_n 1, 1) ∧ decode cX7_digest 106 = .ok (.iinc 3 50, 3) ∧ decode cX7_digest 109 = .ok (.goto (-43), 3) ∧ decode cX7_digest 112 = .ok (.lload_n 1, 1) ∧ decode cX7_digest 113 = .ok (.lreturn, 1) := by decide +kernel
theorem dX7_digest_94 : decode cX7_digest 94 = .ok (.aload_n 0, 1) := DX7_digest_5.1
theorem dX7_digest_95 : decode cX7_digest 95 = .ok (.getfield 32, 3) := DX7_digest_5.2.1
theorem dX7_digest_98 : decode cX7_digest 98 = .ok (.getfield 275, 3) := DX7_digest_5.2.2.1
theorem dX7_digest_101 : decode cX7_digest 101 = .ok (.i2l, 1) := DX7_digest_5.2.2.2.1
theorem dX7_digest_102 : decode cX7_digest 102 = .ok (.invokestatic 333, 3) := DX7_digest_5.2.2.2.2.1
theorem dX7_digest_105 : decode cX7_digest 105 = .ok (.lstore_n 1, 1) := DX7_digest_5.2.2.2.2.2.1
theorem dX7_digest_106 : decode cX7_digest 106 = .ok (.iinc 3 50, 3) := DX7_digest_5.2.2.2.2.2.2.1
theorem dX7_digest_109 : decode cX7_digest 109 = .ok (.goto (-43), 3) := DX7_digest_5.2.2.2.2.2.2.2.1
theorem dX7_digest_112 : decode cX7_digest 112 = .ok (.lload_n 1, 1) := DX7_digest_5.2.2.2.2.2.2.2.2.1
theorem dX7_digest_113 : decode cX7_digest 113 = .ok (.lreturn, 1) := DX7_digest_5.2.2.2.2.2.2.2.2.2
set_option maxRecDepth 100000 in
theorem DX7_isOutside_0 : decode cX7_isOutside 0 = .ok (.iload_n 0, 1) ∧ decode cX7_isOutside 1 = .ok (.iload_n 1, 1) ∧ decode cX7_isOutside 2 = .ok (.if_icmp .lt 8, 3) ∧ decode cX7_isOutside 5 = .ok (.iload_n 0, 1) ∧ decode cX7_isOutside 6 = .ok (.iload_n 2, 1) ∧ decode cX7_isOutside 7 = .ok (.if_icmp .le 7, 3) ∧ decode cX7_isOutside 10 = .ok (.iconst 1, 1) ∧ decode cX7_isOutside 11 = .ok (.goto 4, 3) ∧ decode cX7_isOutside 14 = .ok (.iconst 0, 1) ∧ decode cX7_isOutside 15 = .ok (.ireturn, 1) := by decide +kernel
theorem dX7_isOutside_0 : decode cX7_isOutside 0 = .ok (.iload_n 0, 1) := DX7_isOutside_0.1
theorem dX7_isOutside_1 : decode cX7_isOutside 1 = .ok (.iload_n 1, 1) := DX7_isOutside_0.2.1
theorem dX7_isOutside_2 : decode cX7_isOutside 2 = .ok (.if_icmp .lt 8, 3) := DX7_isOutside_0.2.2.1
theorem dX7_isOutside_5 : decode cX7_isOutside 5 = .ok (.iload_n 0, 1) := DX7_isOutside_0.2.2.2.1
theorem dX7_isOutside_6 : decode cX7_isOutside 6 = .ok (.iload_n 2, 1) := DX7_isOutside_0.2.2.2.2.1
theorem dX7_isOutside_7 : decode cX7_isOutside 7 = .ok (.if_icmp .le 7, 3) := DX7_isOutside_0.2.2.2.2.2.1
theorem dX7_isOutside_10 : decode cX7_isOutside 10 = .ok (.iconst 1, 1) := DX7_isOutside_0.2.2.2.2.2.2.1
theorem dX7_isOutside_11 : decode cX7_isOutside 11 = .ok (.goto 4, 3) := DX7_isOutside_0.2.2.2.2.2.2.2.1
theorem dX7_isOutside_14 : decode cX7_isOutside 14 = .ok (.iconst 0, 1) := DX7_isOutside_0.2.2.2.2.2.2.2.2.1
theorem dX7_isOutside_15 : decode cX7_isOutside 15 = .ok (.ireturn, 1) := DX7_isOutside_0.2.2.2.2.2.2.2.2.2
set_option maxRecDepth 100000 in
theorem DX7_checkSource_0 : decode cX7_checkSource 0 = .ok (.iload_n 0, 1) ∧ decode cX7_checkSource 1 = .ok (.iconst 0, 1) ∧ decode cX7_checkSource 2 = .ok (.iconst 5, 1) ∧ decode cX7_checkSource 3 = .ok (.invokestatic 41, 3) ∧ decode cX7_checkSource 6 = .ok (.ifCond .eq 14, 3) ∧ decode cX7_checkSource 9 = .ok (.new 73, 3) ∧ decode cX7_checkSource 12 = .ok (.dup, 1) ∧ decode cX7_checkSource 13 = .ok (.ldc_w 350, 3) ∧ decode cX7_checkSource 16 = .ok (.invokespecial 77, 3) ∧ decode cX7_checkSource 19 = .ok (.athrow, 1) := by decide +kernel
theorem dX7_checkSource_0 : decode cX7_checkSource 0 = .ok (.iload_n 0, 1) := DX7_checkSource_0.1
theorem dX7_checkSource_1 : decode cX7_checkSource 1 = .ok (.iconst 0, 1) := DX7_checkSource_0.2.1
theorem dX7_checkSource_2 : decode cX7_checkSource 2 = .ok (.iconst 5, 1) := DX7_checkSource_0.2.2.1
theorem dX7_checkSource_3 : decode cX7_checkSource 3 = .ok (.invokestatic 41, 3) := DX7_checkSource_0.2.2.2.1
theorem dX7_checkSource_6 : decode cX7_checkSource 6 = .ok (.ifCond .eq 14, 3) := DX7_checkSource_0.2.2.2.2.1
theorem dX7_checkSource_9 : decode cX7_checkSource 9 = .ok (.new 73, 3) := DX7_checkSource_0.2.2.2.2.2.1
theorem dX7_checkSource_12 : decode cX7_checkSource 12 = .ok (.dup, 1) := DX7_checkSource_0.2.2.2.2.2.2.1
theorem dX7_checkSource_13 : decode cX7_checkSource 13 = .ok (.ldc_w 350, 3) := DX7_checkSource_0.2.2.2.2.2.2.2.1
theorem dX7_checkSource_16 : decode cX7_checkSource 16 = .ok (.invokespecial 77, 3) := DX7_checkSource_0.2.2.2.2.2.2.2.2.1
theorem dX7_checkSource_19 : decode cX7_checkSource 19 = .ok (.athrow, 1) := DX7_checkSource_0.2.2.2.2.2.2.2.2.2
set_option maxRecDepth 100000 in
theorem DX7_checkSource_1 : decode cX7_checkSource 20 = .ok (.return_, 1) := by decide +kernel
theorem dX7_checkSource_20 : decode cX7_checkSource 20 = .ok (.return_, 1) := DX7_checkSource_1
set_option maxRecDepth 100000 in
theorem DX7_checkTrack_0 : decode cX7_checkTrack 0 = .ok (.iload_n 0, 1) ∧ decode cX7_checkTrack 1 = .ok (.iconst 0, 1) ∧ decode cX7_checkTrack 2 = .ok (.iconst 3, 1) ∧ decode cX7_checkTrack 3 = .ok (.invokestatic 41, 3) ∧ decode cX7_checkTrack 6 = .ok (.ifCond .eq 14, 3) ∧ decode cX7_checkTrack 9 = .ok (.new 73, 3) ∧ decode cX7_checkTrack 12 = .ok (.dup, 1) ∧ decode cX7_checkTrack 13 = .ok (.ldc_w 352, 3) ∧ decode cX7_checkTrack 16 = .ok (.invokespecial 77, 3) ∧ decode cX7_checkTrack 19 = .ok (.athrow, 1) := by decide +kernel
theorem dX7_checkTrack_0 : decode cX7_checkTrack 0 = .ok (.iload_n 0, 1) := DX7_checkTrack_0.1
theorem dX7_checkTrack_1 : decode cX7_checkTrack 1 = .ok (.iconst 0, 1) := DX7_checkTrack_0.2.1
theorem dX7_checkTrack_2 : decode cX7_checkTrack 2 = .ok (.iconst 3, 1) := DX7_checkTrack_0.2.2.1
theorem dX7_checkTrack_3 : decode cX7_checkTrack 3 = .ok (.invokestatic 41, 3) := DX7_checkTrack_0.2.2.2.1
theorem dX7_checkTrack_6 : decode cX7_checkTrack 6 = .ok (.ifCond .eq 14, 3) := DX7_checkTrack_0.2.2.2.2.1
theorem dX7_checkTrack_9 : decode cX7_checkTrack 9 = .ok (.new 73, 3) := DX7_checkTrack_0.2.2.2.2.2.1
theorem dX7_checkTrack_12 : decode cX7_checkTrack 12 = .ok (.dup, 1) := DX7_checkTrack_0.2.2.2.2.2.2.1
theorem dX7_checkTrack_13 : decode cX7_checkTrack 13 = .ok (.ldc_w 352, 3) := DX7_checkTrack_0.2.2.2.2.2.2.2.1
theorem dX7_checkTrack_16 : decode cX7_checkTrack 16 = .ok (.invokespecial 77, 3) := DX7_checkTrack_0.2.2.2.2.2.2.2.2.1
theorem dX7_checkTrack_19 : decode cX7_checkTrack 19 = .ok (.athrow, 1) := DX7_checkTrack_0.2.2.2.2.2.2.2.2.2
set_option maxRecDepth 100000 in
theorem DX7_checkTrack_1 : decode cX7_checkTrack 20 = .ok (.return_, 1) := by decide +kernel
theorem dX7_checkTrack_20 : decode cX7_checkTrack 20 = .ok (.return_, 1) := DX7_checkTrack_1
set_option maxRecDepth 100000 in
theorem DX7_checkPosition_0 : decode cX7_checkPosition 0 = .ok (.iload_n 0, 1) ∧ decode cX7_checkPosition 1 = .ok (.iconst 0, 1) ∧ decode cX7_checkPosition 2 = .ok (.sipush 3999, 3) ∧ decode cX7_checkPosition 5 = .ok (.invokestatic 41, 3) ∧ decode cX7_checkPosition 8 = .ok (.ifCond .eq 14, 3) ∧ decode cX7_checkPosition 11 = .ok (.new 45, 3) ∧ decode cX7_checkPosition 14 = .ok (.dup, 1) ∧ decode cX7_checkPosition 15 = .ok (.ldc_w 354, 3) ∧ decode cX7_checkPosition 18 = .ok (.invokespecial 49, 3) ∧ decode cX7_checkPosition 21 = .ok (.athrow, 1) := by decide +kernel
theorem dX7_checkPosition_0 : decode cX7_checkPosition 0 = .ok (.iload_n 0, 1) := DX7_checkPosition_0.1
theorem dX7_checkPosition_1 : decode cX7_checkPosition 1 = .ok (.iconst 0, 1) := DX7_checkPosition_0.2.1
theorem dX7_checkPosition_2 : decode cX7_checkPosition 2 = .ok (.sipush 3999, 3) := DX7_checkPosition_0.2.2.1
theorem dX7_checkPosition_5 : decode cX7_checkPosition 5 = .ok (.invokestatic 41, 3) := DX7_checkPosition_0.2.2.2.1
theorem dX7_checkPosition_8 : decode cX7_checkPosition 8 = .ok (.ifCond .eq 14, 3) := DX7_checkPosition_0.2.2.2.2.1
theorem dX7_checkPosition_11 : decode cX7_checkPosition 11 = .ok (.new 45, 3) := DX7_checkPosition_0.2.2.2.2.2.1
theorem dX7_checkPosition_14 : decode cX7_checkPosition 14 = .ok (.dup, 1) := DX7_checkPosition_0.2.2.2.2.2.2.1
theorem dX7_checkPosition_15 : decode cX7_checkPosition 15 = .ok (.ldc_w 354, 3) := DX7_checkPosition_0.2.2.2.2.2.2.2.1
theorem dX7_checkPosition_18 : decode cX7_checkPosition 18 = .ok (.invokespecial 49, 3) := DX7_checkPosition_0.2.2.2.2.2.2.2.2.1
theorem dX7_checkPosition_21 : decode cX7_checkPosition 21 = .ok (.athrow, 1) := DX7_checkPosition_0.2.2.2.2.2.2.2.2.2
set_option maxRecDepth 100000 in
theorem DX7_checkPosition_1 : decode cX7_checkPosition 22 = .ok (.return_, 1) := by decide +kernel
theorem dX7_checkPosition_22 : decode cX7_checkPosition 22 = .ok (.return_, 1) := DX7_checkPosition_1
set_option maxRecDepth 100000 in
theorem DX7_checkClip_0 : decode cX7_checkClip 0 = .ok (.iload_n 1, 1) ∧ decode cX7_checkClip 1 = .ok (.iconst 0, 1) ∧ decode cX7_checkClip 2 = .ok (.aload_n 0, 1) ∧ decode cX7_checkClip 3 = .ok (.getfield 12, 3) ∧ decode cX7_checkClip 6 = .ok (.getfield 144, 3) ∧ decode cX7_checkClip 9 = .ok (.iconst 1, 1) ∧ decode cX7_checkClip 10 = .ok (.isub, 1) ∧ decode cX7_checkClip 11 = .ok (.invokestatic 41, 3) ∧ decode cX7_checkClip 14 = .ok (.ifCond .eq 14, 3) ∧ decode cX7_checkClip 17 = .ok (.new 73, 3) := by decide +kernel
theorem dX7_checkClip_0 : decode cX7_checkClip 0 = .ok (.iload_n 1, 1) := DX7_checkClip_0.1
theorem dX7_checkClip_1 : decode cX7_checkClip 1 = .ok (.iconst 0, 1) := DX7_checkClip_0.2.1
theorem dX7_checkClip_2 : decode cX7_checkClip 2 = .ok (.aload_n 0, 1) := DX7_checkClip_0.2.2.1
theorem dX7_checkClip_3 : decode cX7_checkClip 3 = .ok (.getfield 12, 3) := DX7_checkClip_0.2.2.2.1
theorem dX7_checkClip_6 : decode cX7_checkClip 6 = .ok (.getfield 144, 3) := DX7_checkClip_0.2.2.2.2.1
theorem dX7_checkClip_9 : decode cX7_checkClip 9 = .ok (.iconst 1, 1) := DX7_checkClip_0.2.2.2.2.2.1
theorem dX7_checkClip_10 : decode cX7_checkClip 10 = .ok (.isub, 1) := DX7_checkClip_0.2.2.2.2.2.2.1
theorem dX7_checkClip_11 : decode cX7_checkClip 11 = .ok (.invokestatic 41, 3) := DX7_checkClip_0.2.2.2.2.2.2.2.1
theorem dX7_checkClip_14 : decode cX7_checkClip 14 = .ok (.ifCond .eq 14, 3) := DX7_checkClip_0.2.2.2.2.2.2.2.2.1
theorem dX7_checkClip_17 : decode cX7_checkClip 17 = .ok (.new 73, 3) := DX7_checkClip_0.2.2.2.2.2.2.2.2.2
set_option maxRecDepth 100000 in
theorem DX7_checkClip_1 : decode cX7_checkClip 20 = .ok (.dup, 1) ∧ decode cX7_checkClip 21 = .ok (.ldc_w 356, 3) ∧ decode cX7_checkClip 24 = .ok (.invokespecial 77, 3) ∧ decode cX7_checkClip 27 = .ok (.athrow, 1) ∧ decode cX7_checkClip 28 = .ok (.return_, 1) := by decide +kernel
theorem dX7_checkClip_20 : decode cX7_checkClip 20 = .ok (.dup, 1) := DX7_checkClip_1.1
theorem dX7_checkClip_21 : decode cX7_checkClip 21 = .ok (.ldc_w 356, 3) := DX7_checkClip_1.2.1
theorem dX7_checkClip_24 : decode cX7_checkClip 24 = .ok (.invokespecial 77, 3) := DX7_checkClip_1.2.2.1
theorem dX7_checkClip_27 : decode cX7_checkClip 27 = .ok (.athrow, 1) := DX7_checkClip_1.2.2.2.1
theorem dX7_checkClip_28 : decode cX7_checkClip 28 = .ok (.return_, 1) := DX7_checkClip_1.2.2.2.2
set_option maxRecDepth 100000 in
theorem DX7_checkRoomForClip_0 : decode cX7_checkRoomForClip 0 = .ok (.aload_n 0, 1) ∧ decode cX7_checkRoomForClip 1 = .ok (.getfield 12, 3) ∧ decode cX7_checkRoomForClip 4 = .ok (.getfield 144, 3) ∧ decode cX7_checkRoomForClip 7 = .ok (.bipush 12, 2) ∧ decode cX7_checkRoomForClip 9 = .ok (.if_icmp .lt 14, 3) ∧ decode cX7_checkRoomForClip 12 = .ok (.new 209, 3) ∧ decode cX7_checkRoomForClip 15 = .ok (.dup, 1) ∧ decode cX7_checkRoomForClip 16 = .ok (.ldc_w 358, 3) ∧ decode cX7_checkRoomForClip 19 = .ok (.invokespecial 213, 3) ∧ decode cX7_checkRoomForClip 22 = .ok (.athrow, 1) := by decide +kernel
theorem dX7_checkRoomForClip_0 : decode cX7_checkRoomForClip 0 = .ok (.aload_n 0, 1) := DX7_checkRoomForClip_0.1
theorem dX7_checkRoomForClip_1 : decode cX7_checkRoomForClip 1 = .ok (.getfield 12, 3) := DX7_checkRoomForClip_0.2.1
theorem dX7_checkRoomForClip_4 : decode cX7_checkRoomForClip 4 = .ok (.getfield 144, 3) := DX7_checkRoomForClip_0.2.2.1
theorem dX7_checkRoomForClip_7 : decode cX7_checkRoomForClip 7 = .ok (.bipush 12, 2) := DX7_checkRoomForClip_0.2.2.2.1
theorem dX7_checkRoomForClip_9 : decode cX7_checkRoomForClip 9 = .ok (.if_icmp .lt 14, 3) := DX7_checkRoomForClip_0.2.2.2.2.1
theorem dX7_checkRoomForClip_12 : decode cX7_checkRoomForClip 12 = .ok (.new 209, 3) := DX7_checkRoomForClip_0.2.2.2.2.2.1
theorem dX7_checkRoomForClip_15 : decode cX7_checkRoomForClip 15 = .ok (.dup, 1) := DX7_checkRoomForClip_0.2.2.2.2.2.2.1
theorem dX7_checkRoomForClip_16 : decode cX7_checkRoomForClip 16 = .ok (.ldc_w 358, 3) := DX7_checkRoomForClip_0.2.2.2.2.2.2.2.1
theorem dX7_checkRoomForClip_19 : decode cX7_checkRoomForClip 19 = .ok (.invokespecial 213, 3) := DX7_checkRoomForClip_0.2.2.2.2.2.2.2.2.1
theorem dX7_checkRoomForClip_22 : decode cX7_checkRoomForClip 22 = .ok (.athrow, 1) := DX7_checkRoomForClip_0.2.2.2.2.2.2.2.2.2
set_option maxRecDepth 100000 in
theorem DX7_checkRoomForClip_1 : decode cX7_checkRoomForClip 23 = .ok (.return_, 1) := by decide +kernel
theorem dX7_checkRoomForClip_23 : decode cX7_checkRoomForClip 23 = .ok (.return_, 1) := DX7_checkRoomForClip_1
set_option maxRecDepth 100000 in
theorem DX7_checkLawful_0 : decode cX7_checkLawful 0 = .ok (.aload_n 0, 1) ∧ decode cX7_checkLawful 1 = .ok (.invokevirtual 360, 3) ∧ decode cX7_checkLawful 4 = .ok (.ifCond .ne 14, 3) ∧ decode cX7_checkLawful 7 = .ok (.new 363, 3) ∧ decode cX7_checkLawful 10 = .ok (.dup, 1) ∧ decode cX7_checkLawful 11 = .ok (.ldc_w 365, 3) ∧ decode cX7_checkLawful 14 = .ok (.invokespecial 367, 3) ∧ decode cX7_checkLawful 17 = .ok (.athrow, 1) ∧ decode cX7_checkLawful 18 = .ok (.return_, 1) := by decide +kernel
theorem dX7_checkLawful_0 : decode cX7_checkLawful 0 = .ok (.aload_n 0, 1) := DX7_checkLawful_0.1
theorem dX7_checkLawful_1 : decode cX7_checkLawful 1 = .ok (.invokevirtual 360, 3) := DX7_checkLawful_0.2.1
theorem dX7_checkLawful_4 : decode cX7_checkLawful 4 = .ok (.ifCond .ne 14, 3) := DX7_checkLawful_0.2.2.1
theorem dX7_checkLawful_7 : decode cX7_checkLawful 7 = .ok (.new 363, 3) := DX7_checkLawful_0.2.2.2.1
theorem dX7_checkLawful_10 : decode cX7_checkLawful 10 = .ok (.dup, 1) := DX7_checkLawful_0.2.2.2.2.1
theorem dX7_checkLawful_11 : decode cX7_checkLawful 11 = .ok (.ldc_w 365, 3) := DX7_checkLawful_0.2.2.2.2.2.1
theorem dX7_checkLawful_14 : decode cX7_checkLawful 14 = .ok (.invokespecial 367, 3) := DX7_checkLawful_0.2.2.2.2.2.2.1
theorem dX7_checkLawful_17 : decode cX7_checkLawful 17 = .ok (.athrow, 1) := DX7_checkLawful_0.2.2.2.2.2.2.2.1
theorem dX7_checkLawful_18 : decode cX7_checkLawful 18 = .ok (.return_, 1) := DX7_checkLawful_0.2.2.2.2.2.2.2.2
set_option maxRecDepth 100000 in
theorem DX7_draft_0 : decode cX7_draft 0 = .ok (.aload_n 0, 1) ∧ decode cX7_draft 1 = .ok (.getfield 16, 3) ∧ decode cX7_draft 4 = .ok (.aload_n 0, 1) ∧ decode cX7_draft 5 = .ok (.getfield 12, 3) ∧ decode cX7_draft 8 = .ok (.invokevirtual 368, 3) ∧ decode cX7_draft 11 = .ok (.aload_n 0, 1) ∧ decode cX7_draft 12 = .ok (.getfield 16, 3) ∧ decode cX7_draft 15 = .ok (.areturn, 1) := by decide +kernel
theorem dX7_draft_0 : decode cX7_draft 0 = .ok (.aload_n 0, 1) := DX7_draft_0.1
theorem dX7_draft_1 : decode cX7_draft 1 = .ok (.getfield 16, 3) := DX7_draft_0.2.1
theorem dX7_draft_4 : decode cX7_draft 4 = .ok (.aload_n 0, 1) := DX7_draft_0.2.2.1
theorem dX7_draft_5 : decode cX7_draft 5 = .ok (.getfield 12, 3) := DX7_draft_0.2.2.2.1
theorem dX7_draft_8 : decode cX7_draft 8 = .ok (.invokevirtual 368, 3) := DX7_draft_0.2.2.2.2.1
theorem dX7_draft_11 : decode cX7_draft 11 = .ok (.aload_n 0, 1) := DX7_draft_0.2.2.2.2.2.1
theorem dX7_draft_12 : decode cX7_draft 12 = .ok (.getfield 16, 3) := DX7_draft_0.2.2.2.2.2.2.1
theorem dX7_draft_15 : decode cX7_draft 15 = .ok (.areturn, 1) := DX7_draft_0.2.2.2.2.2.2.2
set_option maxRecDepth 100000 in
theorem DX7_keepDraft_0 : decode cX7_keepDraft 0 = .ok (.aload_n 0, 1) ∧ decode cX7_keepDraft 1 = .ok (.getfield 323, 3) ∧ decode cX7_keepDraft 4 = .ok (.iconst 4, 1) ∧ decode cX7_keepDraft 5 = .ok (.if_icmp .lt 7, 3) ∧ decode cX7_keepDraft 8 = .ok (.aload_n 0, 1) ∧ decode cX7_keepDraft 9 = .ok (.invokevirtual 371, 3) ∧ decode cX7_keepDraft 12 = .ok (.aload_n 0, 1) ∧ decode cX7_keepDraft 13 = .ok (.getfield 19, 3) ∧ decode cX7_keepDraft 16 = .ok (.aload_n 0, 1) ∧ decode cX7_keepDraft 17 = .ok (.getfield 323, 3) := by decide +kernel
theorem dX7_keepDraft_0 : decode cX7_keepDraft 0 = .ok (.aload_n 0, 1) := DX7_keepDraft_0.1
theorem dX7_keepDraft_1 : decode cX7_keepDraft 1 = .ok (.getfield 323, 3) := DX7_keepDraft_0.2.1
theorem dX7_keepDraft_4 : decode cX7_keepDraft 4 = .ok (.iconst 4, 1) := DX7_keepDraft_0.2.2.1
theorem dX7_keepDraft_5 : decode cX7_keepDraft 5 = .ok (.if_icmp .lt 7, 3) := DX7_keepDraft_0.2.2.2.1
theorem dX7_keepDraft_8 : decode cX7_keepDraft 8 = .ok (.aload_n 0, 1) := DX7_keepDraft_0.2.2.2.2.1
theorem dX7_keepDraft_9 : decode cX7_keepDraft 9 = .ok (.invokevirtual 371, 3) := DX7_keepDraft_0.2.2.2.2.2.1
theorem dX7_keepDraft_12 : decode cX7_keepDraft 12 = .ok (.aload_n 0, 1) := DX7_keepDraft_0.2.2.2.2.2.2.1
theorem dX7_keepDraft_13 : decode cX7_keepDraft 13 = .ok (.getfield 19, 3) := DX7_keepDraft_0.2.2.2.2.2.2.2.1
theorem dX7_keepDraft_16 : decode cX7_keepDraft 16 = .ok (.aload_n 0, 1) := DX7_keepDraft_0.2.2.2.2.2.2.2.2.1
theorem dX7_keepDraft_17 : decode cX7_keepDraft 17 = .ok (.getfield 323, 3) := DX7_keepDraft_0.2.2.2.2.2.2.2.2.2
set_option maxRecDepth 100000 in
theorem DX7_keepDraft_1 : decode cX7_keepDraft 20 = .ok (.aaload, 1) ∧ decode cX7_keepDraft 21 = .ok (.astore_n 1, 1) ∧ decode cX7_keepDraft 22 = .ok (.aload_n 0, 1) ∧ decode cX7_keepDraft 23 = .ok (.getfield 19, 3) ∧ decode cX7_keepDraft 26 = .ok (.aload_n 0, 1) ∧ decode cX7_keepDraft 27 = .ok (.getfield 323, 3) ∧ decode cX7_keepDraft 30 = .ok (.aload_n 0, 1) ∧ decode cX7_keepDraft 31 = .ok (.getfield 12, 3) ∧ decode cX7_keepDraft 34 = .ok (.aastore, 1) ∧ decode cX7_keepDraft 35 = .ok (.aload_n 0, 1) := by decide +kernel
theorem dX7_keepDraft_20 : decode cX7_keepDraft 20 = .ok (.aaload, 1) := DX7_keepDraft_1.1
theorem dX7_keepDraft_21 : decode cX7_keepDraft 21 = .ok (.astore_n 1, 1) := DX7_keepDraft_1.2.1
theorem dX7_keepDraft_22 : decode cX7_keepDraft 22 = .ok (.aload_n 0, 1) := DX7_keepDraft_1.2.2.1
theorem dX7_keepDraft_23 : decode cX7_keepDraft 23 = .ok (.getfield 19, 3) := DX7_keepDraft_1.2.2.2.1
theorem dX7_keepDraft_26 : decode cX7_keepDraft 26 = .ok (.aload_n 0, 1) := DX7_keepDraft_1.2.2.2.2.1
theorem dX7_keepDraft_27 : decode cX7_keepDraft 27 = .ok (.getfield 323, 3) := DX7_keepDraft_1.2.2.2.2.2.1
theorem dX7_keepDraft_30 : decode cX7_keepDraft 30 = .ok (.aload_n 0, 1) := DX7_keepDraft_1.2.2.2.2.2.2.1
theorem dX7_keepDraft_31 : decode cX7_keepDraft 31 = .ok (.getfield 12, 3) := DX7_keepDraft_1.2.2.2.2.2.2.2.1
theorem dX7_keepDraft_34 : decode cX7_keepDraft 34 = .ok (.aastore, 1) := DX7_keepDraft_1.2.2.2.2.2.2.2.2.1
theorem dX7_keepDraft_35 : decode cX7_keepDraft 35 = .ok (.aload_n 0, 1) := DX7_keepDraft_1.2.2.2.2.2.2.2.2.2
set_option maxRecDepth 100000 in
theorem DX7_keepDraft_2 : decode cX7_keepDraft 36 = .ok (.dup, 1) ∧ decode cX7_keepDraft 37 = .ok (.getfield 323, 3) ∧ decode cX7_keepDraft 40 = .ok (.iconst 1, 1) ∧ decode cX7_keepDraft 41 = .ok (.iadd, 1) ∧ decode cX7_keepDraft 42 = .ok (.putfield 323, 3) ∧ decode cX7_keepDraft 45 = .ok (.aload_n 0, 1) ∧ decode cX7_keepDraft 46 = .ok (.aload_n 0, 1) ∧ decode cX7_keepDraft 47 = .ok (.getfield 16, 3) ∧ decode cX7_keepDraft 50 = .ok (.putfield 12, 3) ∧ decode cX7_keepDraft 53 = .ok (.aload_n 0, 1) := by decide +kernel
theorem dX7_keepDraft_36 : decode cX7_keepDraft 36 = .ok (.dup, 1) := DX7_keepDraft_2.1
theorem dX7_keepDraft_37 : decode cX7_keepDraft 37 = .ok (.getfield 323, 3) := DX7_keepDraft_2.2.1
theorem dX7_keepDraft_40 : decode cX7_keepDraft 40 = .ok (.iconst 1, 1) := DX7_keepDraft_2.2.2.1
theorem dX7_keepDraft_41 : decode cX7_keepDraft 41 = .ok (.iadd, 1) := DX7_keepDraft_2.2.2.2.1
theorem dX7_keepDraft_42 : decode cX7_keepDraft 42 = .ok (.putfield 323, 3) := DX7_keepDraft_2.2.2.2.2.1
theorem dX7_keepDraft_45 : decode cX7_keepDraft 45 = .ok (.aload_n 0, 1) := DX7_keepDraft_2.2.2.2.2.2.1
theorem dX7_keepDraft_46 : decode cX7_keepDraft 46 = .ok (.aload_n 0, 1) := DX7_keepDraft_2.2.2.2.2.2.2.1
theorem dX7_keepDraft_47 : decode cX7_keepDraft 47 = .ok (.getfield 16, 3) := DX7_keepDraft_2.2.2.2.2.2.2.2.1
theorem dX7_keepDraft_50 : decode cX7_keepDraft 50 = .ok (.putfield 12, 3) := DX7_keepDraft_2.2.2.2.2.2.2.2.2.1
theorem dX7_keepDraft_53 : decode cX7_keepDraft 53 = .ok (.aload_n 0, 1) := DX7_keepDraft_2.2.2.2.2.2.2.2.2.2
set_option maxRecDepth 100000 in
theorem DX7_keepDraft_3 : decode cX7_keepDraft 54 = .ok (.aload_n 1, 1) ∧ decode cX7_keepDraft 55 = .ok (.putfield 16, 3) ∧ decode cX7_keepDraft 58 = .ok (.return_, 1) := by decide +kernel
theorem dX7_keepDraft_54 : decode cX7_keepDraft 54 = .ok (.aload_n 1, 1) := DX7_keepDraft_3.1
theorem dX7_keepDraft_55 : decode cX7_keepDraft 55 = .ok (.putfield 16, 3) := DX7_keepDraft_3.2.1
theorem dX7_keepDraft_58 : decode cX7_keepDraft 58 = .ok (.return_, 1) := DX7_keepDraft_3.2.2
set_option maxRecDepth 100000 in
theorem DX7_keepSound_0 : decode cX7_keepSound 0 = .ok (.aload_n 0, 1) ∧ decode cX7_keepSound 1 = .ok (.invokevirtual 268, 3) ∧ decode cX7_keepSound 4 = .ok (.aload_n 0, 1) ∧ decode cX7_keepSound 5 = .ok (.invokevirtual 328, 3) ∧ decode cX7_keepSound 8 = .ok (.return_, 1) := by decide +kernel
theorem dX7_keepSound_0 : decode cX7_keepSound 0 = .ok (.aload_n 0, 1) := DX7_keepSound_0.1
theorem dX7_keepSound_1 : decode cX7_keepSound 1 = .ok (.invokevirtual 268, 3) := DX7_keepSound_0.2.1
theorem dX7_keepSound_4 : decode cX7_keepSound 4 = .ok (.aload_n 0, 1) := DX7_keepSound_0.2.2.1
theorem dX7_keepSound_5 : decode cX7_keepSound 5 = .ok (.invokevirtual 328, 3) := DX7_keepSound_0.2.2.2.1
theorem dX7_keepSound_8 : decode cX7_keepSound 8 = .ok (.return_, 1) := DX7_keepSound_0.2.2.2.2
set_option maxRecDepth 100000 in
theorem DX7_dropOldest_0 : decode cX7_dropOldest 0 = .ok (.aload_n 0, 1) ∧ decode cX7_dropOldest 1 = .ok (.getfield 19, 3) ∧ decode cX7_dropOldest 4 = .ok (.iconst 0, 1) ∧ decode cX7_dropOldest 5 = .ok (.aaload, 1) ∧ decode cX7_dropOldest 6 = .ok (.astore_n 1, 1) ∧ decode cX7_dropOldest 7 = .ok (.iconst 1, 1) ∧ decode cX7_dropOldest 8 = .ok (.istore_n 2, 1) ∧ decode cX7_dropOldest 9 = .ok (.iload_n 2, 1) ∧ decode cX7_dropOldest 10 = .ok (.aload_n 0, 1) ∧ decode cX7_dropOldest 11 = .ok (.getfield 19, 3) := by decide +kernel
theorem dX7_dropOldest_0 : decode cX7_dropOldest 0 = .ok (.aload_n 0, 1) := DX7_dropOldest_0.1
theorem dX7_dropOldest_1 : decode cX7_dropOldest 1 = .ok (.getfield 19, 3) := DX7_dropOldest_0.2.1
theorem dX7_dropOldest_4 : decode cX7_dropOldest 4 = .ok (.iconst 0, 1) := DX7_dropOldest_0.2.2.1
theorem dX7_dropOldest_5 : decode cX7_dropOldest 5 = .ok (.aaload, 1) := DX7_dropOldest_0.2.2.2.1
theorem dX7_dropOldest_6 : decode cX7_dropOldest 6 = .ok (.astore_n 1, 1) := DX7_dropOldest_0.2.2.2.2.1
theorem dX7_dropOldest_7 : decode cX7_dropOldest 7 = .ok (.iconst 1, 1) := DX7_dropOldest_0.2.2.2.2.2.1
theorem dX7_dropOldest_8 : decode cX7_dropOldest 8 = .ok (.istore_n 2, 1) := DX7_dropOldest_0.2.2.2.2.2.2.1
theorem dX7_dropOldest_9 : decode cX7_dropOldest 9 = .ok (.iload_n 2, 1) := DX7_dropOldest_0.2.2.2.2.2.2.2.1
theorem dX7_dropOldest_10 : decode cX7_dropOldest 10 = .ok (.aload_n 0, 1) := DX7_dropOldest_0.2.2.2.2.2.2.2.2.1
theorem dX7_dropOldest_11 : decode cX7_dropOldest 11 = .ok (.getfield 19, 3) := DX7_dropOldest_0.2.2.2.2.2.2.2.2.2
set_option maxRecDepth 100000 in
theorem DX7_dropOldest_1 : decode cX7_dropOldest 14 = .ok (.arraylength, 1) ∧ decode cX7_dropOldest 15 = .ok (.if_icmp .ge 23, 3) ∧ decode cX7_dropOldest 18 = .ok (.aload_n 0, 1) ∧ decode cX7_dropOldest 19 = .ok (.getfield 19, 3) ∧ decode cX7_dropOldest 22 = .ok (.iload_n 2, 1) ∧ decode cX7_dropOldest 23 = .ok (.iconst 1, 1) ∧ decode cX7_dropOldest 24 = .ok (.isub, 1) ∧ decode cX7_dropOldest 25 = .ok (.aload_n 0, 1) ∧ decode cX7_dropOldest 26 = .ok (.getfield 19, 3) ∧ decode cX7_dropOldest 29 = .ok (.iload_n 2, 1) := by decide +kernel
theorem dX7_dropOldest_14 : decode cX7_dropOldest 14 = .ok (.arraylength, 1) := DX7_dropOldest_1.1
theorem dX7_dropOldest_15 : decode cX7_dropOldest 15 = .ok (.if_icmp .ge 23, 3) := DX7_dropOldest_1.2.1
theorem dX7_dropOldest_18 : decode cX7_dropOldest 18 = .ok (.aload_n 0, 1) := DX7_dropOldest_1.2.2.1
theorem dX7_dropOldest_19 : decode cX7_dropOldest 19 = .ok (.getfield 19, 3) := DX7_dropOldest_1.2.2.2.1
theorem dX7_dropOldest_22 : decode cX7_dropOldest 22 = .ok (.iload_n 2, 1) := DX7_dropOldest_1.2.2.2.2.1
theorem dX7_dropOldest_23 : decode cX7_dropOldest 23 = .ok (.iconst 1, 1) := DX7_dropOldest_1.2.2.2.2.2.1
theorem dX7_dropOldest_24 : decode cX7_dropOldest 24 = .ok (.isub, 1) := DX7_dropOldest_1.2.2.2.2.2.2.1
theorem dX7_dropOldest_25 : decode cX7_dropOldest 25 = .ok (.aload_n 0, 1) := DX7_dropOldest_1.2.2.2.2.2.2.2.1
theorem dX7_dropOldest_26 : decode cX7_dropOldest 26 = .ok (.getfield 19, 3) := DX7_dropOldest_1.2.2.2.2.2.2.2.2.1
theorem dX7_dropOldest_29 : decode cX7_dropOldest 29 = .ok (.iload_n 2, 1) := DX7_dropOldest_1.2.2.2.2.2.2.2.2.2
set_option maxRecDepth 100000 in
theorem DX7_dropOldest_2 : decode cX7_dropOldest 30 = .ok (.aaload, 1) ∧ decode cX7_dropOldest 31 = .ok (.aastore, 1) ∧ decode cX7_dropOldest 32 = .ok (.iinc 2 1, 3) ∧ decode cX7_dropOldest 35 = .ok (.goto (-26), 3) ∧ decode cX7_dropOldest 38 = .ok (.aload_n 0, 1) ∧ decode cX7_dropOldest 39 = .ok (.getfield 19, 3) ∧ decode cX7_dropOldest 42 = .ok (.iconst 3, 1) ∧ decode cX7_dropOldest 43 = .ok (.aload_n 1, 1) ∧ decode cX7_dropOldest 44 = .ok (.aastore, 1) ∧ decode cX7_dropOldest 45 = .ok (.aload_n 0, 1) := by decide +kernel
theorem dX7_dropOldest_30 : decode cX7_dropOldest 30 = .ok (.aaload, 1) := DX7_dropOldest_2.1
theorem dX7_dropOldest_31 : decode cX7_dropOldest 31 = .ok (.aastore, 1) := DX7_dropOldest_2.2.1
theorem dX7_dropOldest_32 : decode cX7_dropOldest 32 = .ok (.iinc 2 1, 3) := DX7_dropOldest_2.2.2.1
theorem dX7_dropOldest_35 : decode cX7_dropOldest 35 = .ok (.goto (-26), 3) := DX7_dropOldest_2.2.2.2.1
theorem dX7_dropOldest_38 : decode cX7_dropOldest 38 = .ok (.aload_n 0, 1) := DX7_dropOldest_2.2.2.2.2.1
theorem dX7_dropOldest_39 : decode cX7_dropOldest 39 = .ok (.getfield 19, 3) := DX7_dropOldest_2.2.2.2.2.2.1
theorem dX7_dropOldest_42 : decode cX7_dropOldest 42 = .ok (.iconst 3, 1) := DX7_dropOldest_2.2.2.2.2.2.2.1
theorem dX7_dropOldest_43 : decode cX7_dropOldest 43 = .ok (.aload_n 1, 1) := DX7_dropOldest_2.2.2.2.2.2.2.2.1
theorem dX7_dropOldest_44 : decode cX7_dropOldest 44 = .ok (.aastore, 1) := DX7_dropOldest_2.2.2.2.2.2.2.2.2.1
theorem dX7_dropOldest_45 : decode cX7_dropOldest 45 = .ok (.aload_n 0, 1) := DX7_dropOldest_2.2.2.2.2.2.2.2.2.2
set_option maxRecDepth 100000 in
theorem DX7_dropOldest_3 : decode cX7_dropOldest 46 = .ok (.iconst 3, 1) ∧ decode cX7_dropOldest 47 = .ok (.putfield 323, 3) ∧ decode cX7_dropOldest 50 = .ok (.return_, 1) := by decide +kernel
theorem dX7_dropOldest_46 : decode cX7_dropOldest 46 = .ok (.iconst 3, 1) := DX7_dropOldest_3.1
theorem dX7_dropOldest_47 : decode cX7_dropOldest 47 = .ok (.putfield 323, 3) := DX7_dropOldest_3.2.1
theorem dX7_dropOldest_50 : decode cX7_dropOldest 50 = .ok (.return_, 1) := DX7_dropOldest_3.2.2
set_option maxRecDepth 100000 in
theorem DX7_applied_0 : decode cX7_applied 0 = .ok (.iload_n 0, 1) ∧ decode cX7_applied 1 = .ok (.iload_n 1, 1) ∧ decode cX7_applied 2 = .ok (.imul, 1) ∧ decode cX7_applied 3 = .ok (.sipush 1000, 3) ∧ decode cX7_applied 6 = .ok (.invokestatic 374, 3) ∧ decode cX7_applied 9 = .ok (.ireturn, 1) := by decide +kernel
theorem dX7_applied_0 : decode cX7_applied 0 = .ok (.iload_n 0, 1) := DX7_applied_0.1
theorem dX7_applied_1 : decode cX7_applied 1 = .ok (.iload_n 1, 1) := DX7_applied_0.2.1
theorem dX7_applied_2 : decode cX7_applied 2 = .ok (.imul, 1) := DX7_applied_0.2.2.1
theorem dX7_applied_3 : decode cX7_applied 3 = .ok (.sipush 1000, 3) := DX7_applied_0.2.2.2.1
theorem dX7_applied_6 : decode cX7_applied 6 = .ok (.invokestatic 374, 3) := DX7_applied_0.2.2.2.2.1
theorem dX7_applied_9 : decode cX7_applied 9 = .ok (.ireturn, 1) := DX7_applied_0.2.2.2.2.2
set_option maxRecDepth 100000 in
theorem DX7_hashed_0 : decode cX7_hashed 0 = .ok (.ldc2_w 377, 3) ∧ decode cX7_hashed 3 = .ok (.lload_n 0, 1) ∧ decode cX7_hashed 4 = .ok (.lmul, 1) ∧ decode cX7_hashed 5 = .ok (.lload_n 2, 1) ∧ decode cX7_hashed 6 = .ok (.ladd, 1) ∧ decode cX7_hashed 7 = .ok (.lreturn, 1) := by decide +kernel
theorem dX7_hashed_0 : decode cX7_hashed 0 = .ok (.ldc2_w 377, 3) := DX7_hashed_0.1
theorem dX7_hashed_3 : decode cX7_hashed 3 = .ok (.lload_n 0, 1) := DX7_hashed_0.2.1
theorem dX7_hashed_4 : decode cX7_hashed 4 = .ok (.lmul, 1) := DX7_hashed_0.2.2.1
theorem dX7_hashed_5 : decode cX7_hashed 5 = .ok (.lload_n 2, 1) := DX7_hashed_0.2.2.2.1
theorem dX7_hashed_6 : decode cX7_hashed 6 = .ok (.ladd, 1) := DX7_hashed_0.2.2.2.2.1
theorem dX7_hashed_7 : decode cX7_hashed 7 = .ok (.lreturn, 1) := DX7_hashed_0.2.2.2.2.2
set_option maxRecDepth 100000 in
theorem DX7_forgetDucking_0 : decode cX7_forgetDucking 0 = .ok (.iconst 0, 1) ∧ decode cX7_forgetDucking 1 = .ok (.istore_n 1, 1) ∧ decode cX7_forgetDucking 2 = .ok (.iload_n 1, 1) ∧ decode cX7_forgetDucking 3 = .ok (.iconst 4, 1) ∧ decode cX7_forgetDucking 4 = .ok (.if_icmp .ge 18, 3) ∧ decode cX7_forgetDucking 7 = .ok (.aload_n 0, 1) ∧ decode cX7_forgetDucking 8 = .ok (.getfield 25, 3) ∧ decode cX7_forgetDucking 11 = .ok (.iload_n 1, 1) ∧ decode cX7_forgetDucking 12 = .ok (.aaload, 1) ∧ decode cX7_forgetDucking 13 = .ok (.invokevirtual 379, 3) := by decide +kernel
theorem dX7_forgetDucking_0 : decode cX7_forgetDucking 0 = .ok (.iconst 0, 1) := DX7_forgetDucking_0.1
theorem dX7_forgetDucking_1 : decode cX7_forgetDucking 1 = .ok (.istore_n 1, 1) := DX7_forgetDucking_0.2.1
theorem dX7_forgetDucking_2 : decode cX7_forgetDucking 2 = .ok (.iload_n 1, 1) := DX7_forgetDucking_0.2.2.1
theorem dX7_forgetDucking_3 : decode cX7_forgetDucking 3 = .ok (.iconst 4, 1) := DX7_forgetDucking_0.2.2.2.1
theorem dX7_forgetDucking_4 : decode cX7_forgetDucking 4 = .ok (.if_icmp .ge 18, 3) := DX7_forgetDucking_0.2.2.2.2.1
theorem dX7_forgetDucking_7 : decode cX7_forgetDucking 7 = .ok (.aload_n 0, 1) := DX7_forgetDucking_0.2.2.2.2.2.1
theorem dX7_forgetDucking_8 : decode cX7_forgetDucking 8 = .ok (.getfield 25, 3) := DX7_forgetDucking_0.2.2.2.2.2.2.1
theorem dX7_forgetDucking_11 : decode cX7_forgetDucking 11 = .ok (.iload_n 1, 1) := DX7_forgetDucking_0.2.2.2.2.2.2.2.1
theorem dX7_forgetDucking_12 : decode cX7_forgetDucking 12 = .ok (.aaload, 1) := DX7_forgetDucking_0.2.2.2.2.2.2.2.2.1
theorem dX7_forgetDucking_13 : decode cX7_forgetDucking 13 = .ok (.invokevirtual 379, 3) := DX7_forgetDucking_0.2.2.2.2.2.2.2.2.2
set_option maxRecDepth 100000 in
theorem DX7_forgetDucking_1 : decode cX7_forgetDucking 16 = .ok (.iinc 1 1, 3) ∧ decode cX7_forgetDucking 19 = .ok (.goto (-17), 3) ∧ decode cX7_forgetDucking 22 = .ok (.return_, 1) := by decide +kernel
theorem dX7_forgetDucking_16 : decode cX7_forgetDucking 16 = .ok (.iinc 1 1, 3) := DX7_forgetDucking_1.1
theorem dX7_forgetDucking_19 : decode cX7_forgetDucking 19 = .ok (.goto (-17), 3) := DX7_forgetDucking_1.2.1
theorem dX7_forgetDucking_22 : decode cX7_forgetDucking 22 = .ok (.return_, 1) := DX7_forgetDucking_1.2.2
set_option maxRecDepth 100000 in
theorem DX7_learnDucking_0 : decode cX7_learnDucking 0 = .ok (.aload_n 0, 1) ∧ decode cX7_learnDucking 1 = .ok (.getfield 12, 3) ∧ decode cX7_learnDucking 4 = .ok (.getfield 179, 3) ∧ decode cX7_learnDucking 7 = .ok (.iload_n 1, 1) ∧ decode cX7_learnDucking 8 = .ok (.aaload, 1) ∧ decode cX7_learnDucking 9 = .ok (.astore_n 3, 1) ∧ decode cX7_learnDucking 10 = .ok (.aload_n 3, 1) ∧ decode cX7_learnDucking 11 = .ok (.getfield 227, 3) ∧ decode cX7_learnDucking 14 = .ok (.iconst (-1), 1) ∧ decode cX7_learnDucking 15 = .ok (.if_icmp .ne 4, 3) := by decide +kernel
theorem dX7_learnDucking_0 : decode cX7_learnDucking 0 = .ok (.aload_n 0, 1) := DX7_learnDucking_0.1
theorem dX7_learnDucking_1 : decode cX7_learnDucking 1 = .ok (.getfield 12, 3) := DX7_learnDucking_0.2.1
theorem dX7_learnDucking_4 : decode cX7_learnDucking 4 = .ok (.getfield 179, 3) := DX7_learnDucking_0.2.2.1
theorem dX7_learnDucking_7 : decode cX7_learnDucking 7 = .ok (.iload_n 1, 1) := DX7_learnDucking_0.2.2.2.1
theorem dX7_learnDucking_8 : decode cX7_learnDucking 8 = .ok (.aaload, 1) := DX7_learnDucking_0.2.2.2.2.1
theorem dX7_learnDucking_9 : decode cX7_learnDucking 9 = .ok (.astore_n 3, 1) := DX7_learnDucking_0.2.2.2.2.2.1
theorem dX7_learnDucking_10 : decode cX7_learnDucking 10 = .ok (.aload_n 3, 1) := DX7_learnDucking_0.2.2.2.2.2.2.1
theorem dX7_learnDucking_11 : decode cX7_learnDucking 11 = .ok (.getfield 227, 3) := DX7_learnDucking_0.2.2.2.2.2.2.2.1
theorem dX7_learnDucking_14 : decode cX7_learnDucking 14 = .ok (.iconst (-1), 1) := DX7_learnDucking_0.2.2.2.2.2.2.2.2.1
theorem dX7_learnDucking_15 : decode cX7_learnDucking 15 = .ok (.if_icmp .ne 4, 3) := DX7_learnDucking_0.2.2.2.2.2.2.2.2.2
set_option maxRecDepth 100000 in
theorem DX7_learnDucking_1 : decode cX7_learnDucking 18 = .ok (.return_, 1) ∧ decode cX7_learnDucking 19 = .ok (.iload_n 2, 1) ∧ decode cX7_learnDucking 20 = .ok (.bipush 40, 2) ∧ decode cX7_learnDucking 22 = .ok (.idiv, 1) ∧ decode cX7_learnDucking 23 = .ok (.istore 4, 2) ∧ decode cX7_learnDucking 25 = .ok (.aload_n 0, 1) ∧ decode cX7_learnDucking 26 = .ok (.getfield 25, 3) ∧ decode cX7_learnDucking 29 = .ok (.iload_n 1, 1) ∧ decode cX7_learnDucking 30 = .ok (.aaload, 1) ∧ decode cX7_learnDucking 31 = .ok (.getfield 382, 3) := by decide +kernel
theorem dX7_learnDucking_18 : decode cX7_learnDucking 18 = .ok (.return_, 1) := DX7_learnDucking_1.1
theorem dX7_learnDucking_19 : decode cX7_learnDucking 19 = .ok (.iload_n 2, 1) := DX7_learnDucking_1.2.1
theorem dX7_learnDucking_20 : decode cX7_learnDucking 20 = .ok (.bipush 40, 2) := DX7_learnDucking_1.2.2.1
theorem dX7_learnDucking_22 : decode cX7_learnDucking 22 = .ok (.idiv, 1) := DX7_learnDucking_1.2.2.2.1
theorem dX7_learnDucking_23 : decode cX7_learnDucking 23 = .ok (.istore 4, 2) := DX7_learnDucking_1.2.2.2.2.1
theorem dX7_learnDucking_25 : decode cX7_learnDucking 25 = .ok (.aload_n 0, 1) := DX7_learnDucking_1.2.2.2.2.2.1
theorem dX7_learnDucking_26 : decode cX7_learnDucking 26 = .ok (.getfield 25, 3) := DX7_learnDucking_1.2.2.2.2.2.2.1
theorem dX7_learnDucking_29 : decode cX7_learnDucking 29 = .ok (.iload_n 1, 1) := DX7_learnDucking_1.2.2.2.2.2.2.2.1
theorem dX7_learnDucking_30 : decode cX7_learnDucking 30 = .ok (.aaload, 1) := DX7_learnDucking_1.2.2.2.2.2.2.2.2.1
theorem dX7_learnDucking_31 : decode cX7_learnDucking 31 = .ok (.getfield 382, 3) := DX7_learnDucking_1.2.2.2.2.2.2.2.2.2
set_option maxRecDepth 100000 in
theorem DX7_learnDucking_2 : decode cX7_learnDucking 34 = .ok (.istore 5, 2) ∧ decode cX7_learnDucking 36 = .ok (.iload 5, 2) ∧ decode cX7_learnDucking 38 = .ok (.iload 4, 2) ∧ decode cX7_learnDucking 40 = .ok (.if_icmp .gt 38, 3) ∧ decode cX7_learnDucking 43 = .ok (.aload_n 0, 1) ∧ decode cX7_learnDucking 44 = .ok (.getfield 25, 3) ∧ decode cX7_learnDucking 47 = .ok (.iload_n 1, 1) ∧ decode cX7_learnDucking 48 = .ok (.aaload, 1) ∧ decode cX7_learnDucking 49 = .ok (.aload_n 3, 1) ∧ decode cX7_learnDucking 50 = .ok (.aload_n 0, 1) := by decide +kernel
theorem dX7_learnDucking_34 : decode cX7_learnDucking 34 = .ok (.istore 5, 2) := DX7_learnDucking_2.1
theorem dX7_learnDucking_36 : decode cX7_learnDucking 36 = .ok (.iload 5, 2) := DX7_learnDucking_2.2.1
theorem dX7_learnDucking_38 : decode cX7_learnDucking 38 = .ok (.iload 4, 2) := DX7_learnDucking_2.2.2.1
theorem dX7_learnDucking_40 : decode cX7_learnDucking 40 = .ok (.if_icmp .gt 38, 3) := DX7_learnDucking_2.2.2.2.1
theorem dX7_learnDucking_43 : decode cX7_learnDucking 43 = .ok (.aload_n 0, 1) := DX7_learnDucking_2.2.2.2.2.1
theorem dX7_learnDucking_44 : decode cX7_learnDucking 44 = .ok (.getfield 25, 3) := DX7_learnDucking_2.2.2.2.2.2.1
theorem dX7_learnDucking_47 : decode cX7_learnDucking 47 = .ok (.iload_n 1, 1) := DX7_learnDucking_2.2.2.2.2.2.2.1
theorem dX7_learnDucking_48 : decode cX7_learnDucking 48 = .ok (.aaload, 1) := DX7_learnDucking_2.2.2.2.2.2.2.2.1
theorem dX7_learnDucking_49 : decode cX7_learnDucking 49 = .ok (.aload_n 3, 1) := DX7_learnDucking_2.2.2.2.2.2.2.2.2.1
theorem dX7_learnDucking_50 : decode cX7_learnDucking 50 = .ok (.aload_n 0, 1) := DX7_learnDucking_2.2.2.2.2.2.2.2.2.2
set_option maxRecDepth 100000 in
theorem DX7_learnDucking_3 : decode cX7_learnDucking 51 = .ok (.getfield 12, 3) ∧ decode cX7_learnDucking 54 = .ok (.aload_n 3, 1) ∧ decode cX7_learnDucking 55 = .ok (.getfield 227, 3) ∧ decode cX7_learnDucking 58 = .ok (.iload 5, 2) ∧ decode cX7_learnDucking 60 = .ok (.iconst 1, 1) ∧ decode cX7_learnDucking 61 = .ok (.isub, 1) ∧ decode cX7_learnDucking 62 = .ok (.aload_n 3, 1) ∧ decode cX7_learnDucking 63 = .ok (.getfield 235, 3) ∧ decode cX7_learnDucking 66 = .ok (.invokevirtual 385, 3) ∧ decode cX7_learnDucking 69 = .ok (.invokevirtual 388, 3) := by decide +kernel
theorem dX7_learnDucking_51 : decode cX7_learnDucking 51 = .ok (.getfield 12, 3) := DX7_learnDucking_3.1
theorem dX7_learnDucking_54 : decode cX7_learnDucking 54 = .ok (.aload_n 3, 1) := DX7_learnDucking_3.2.1
theorem dX7_learnDucking_55 : decode cX7_learnDucking 55 = .ok (.getfield 227, 3) := DX7_learnDucking_3.2.2.1
theorem dX7_learnDucking_58 : decode cX7_learnDucking 58 = .ok (.iload 5, 2) := DX7_learnDucking_3.2.2.2.1
theorem dX7_learnDucking_60 : decode cX7_learnDucking 60 = .ok (.iconst 1, 1) := DX7_learnDucking_3.2.2.2.2.1
theorem dX7_learnDucking_61 : decode cX7_learnDucking 61 = .ok (.isub, 1) := DX7_learnDucking_3.2.2.2.2.2.1
theorem dX7_learnDucking_62 : decode cX7_learnDucking 62 = .ok (.aload_n 3, 1) := DX7_learnDucking_3.2.2.2.2.2.2.1
theorem dX7_learnDucking_63 : decode cX7_learnDucking 63 = .ok (.getfield 235, 3) := DX7_learnDucking_3.2.2.2.2.2.2.2.1
theorem dX7_learnDucking_66 : decode cX7_learnDucking 66 = .ok (.invokevirtual 385, 3) := DX7_learnDucking_3.2.2.2.2.2.2.2.2.1
theorem dX7_learnDucking_69 : decode cX7_learnDucking 69 = .ok (.invokevirtual 388, 3) := DX7_learnDucking_3.2.2.2.2.2.2.2.2.2
set_option maxRecDepth 100000 in
theorem DX7_learnDucking_4 : decode cX7_learnDucking 72 = .ok (.iinc 5 1, 3) ∧ decode cX7_learnDucking 75 = .ok (.goto (-39), 3) ∧ decode cX7_learnDucking 78 = .ok (.return_, 1) := by decide +kernel
theorem dX7_learnDucking_72 : decode cX7_learnDucking 72 = .ok (.iinc 5 1, 3) := DX7_learnDucking_4.1
theorem dX7_learnDucking_75 : decode cX7_learnDucking 75 = .ok (.goto (-39), 3) := DX7_learnDucking_4.2.1
theorem dX7_learnDucking_78 : decode cX7_learnDucking 78 = .ok (.return_, 1) := DX7_learnDucking_4.2.2
set_option maxRecDepth 100000 in
theorem DX7_duckGainAt_0 : decode cX7_duckGainAt 0 = .ok (.aload_n 0, 1) ∧ decode cX7_duckGainAt 1 = .ok (.getfield 12, 3) ∧ decode cX7_duckGainAt 4 = .ok (.getfield 179, 3) ∧ decode cX7_duckGainAt 7 = .ok (.iload_n 1, 1) ∧ decode cX7_duckGainAt 8 = .ok (.aaload, 1) ∧ decode cX7_duckGainAt 9 = .ok (.getfield 227, 3) ∧ decode cX7_duckGainAt 12 = .ok (.iconst (-1), 1) ∧ decode cX7_duckGainAt 13 = .ok (.if_icmp .ne 9, 3) ∧ decode cX7_duckGainAt 16 = .ok (.sipush 1000, 3) ∧ decode cX7_duckGainAt 19 = .ok (.goto 13, 3) := by decide +kernel
theorem dX7_duckGainAt_0 : decode cX7_duckGainAt 0 = .ok (.aload_n 0, 1) := DX7_duckGainAt_0.1
theorem dX7_duckGainAt_1 : decode cX7_duckGainAt 1 = .ok (.getfield 12, 3) := DX7_duckGainAt_0.2.1
theorem dX7_duckGainAt_4 : decode cX7_duckGainAt 4 = .ok (.getfield 179, 3) := DX7_duckGainAt_0.2.2.1
theorem dX7_duckGainAt_7 : decode cX7_duckGainAt 7 = .ok (.iload_n 1, 1) := DX7_duckGainAt_0.2.2.2.1
theorem dX7_duckGainAt_8 : decode cX7_duckGainAt 8 = .ok (.aaload, 1) := DX7_duckGainAt_0.2.2.2.2.1
theorem dX7_duckGainAt_9 : decode cX7_duckGainAt 9 = .ok (.getfield 227, 3) := DX7_duckGainAt_0.2.2.2.2.2.1
theorem dX7_duckGainAt_12 : decode cX7_duckGainAt 12 = .ok (.iconst (-1), 1) := DX7_duckGainAt_0.2.2.2.2.2.2.1
theorem dX7_duckGainAt_13 : decode cX7_duckGainAt 13 = .ok (.if_icmp .ne 9, 3) := DX7_duckGainAt_0.2.2.2.2.2.2.2.1
theorem dX7_duckGainAt_16 : decode cX7_duckGainAt 16 = .ok (.sipush 1000, 3) := DX7_duckGainAt_0.2.2.2.2.2.2.2.2.1
theorem dX7_duckGainAt_19 : decode cX7_duckGainAt 19 = .ok (.goto 13, 3) := DX7_duckGainAt_0.2.2.2.2.2.2.2.2.2
set_option maxRecDepth 100000 in
theorem DX7_duckGainAt_1 : decode cX7_duckGainAt 22 = .ok (.aload_n 0, 1) ∧ decode cX7_duckGainAt 23 = .ok (.getfield 25, 3) ∧ decode cX7_duckGainAt 26 = .ok (.iload_n 1, 1) ∧ decode cX7_duckGainAt 27 = .ok (.aaload, 1) ∧ decode cX7_duckGainAt 28 = .ok (.iload_n 2, 1) ∧ decode cX7_duckGainAt 29 = .ok (.invokevirtual 392, 3) ∧ decode cX7_duckGainAt 32 = .ok (.ireturn, 1) := by decide +kernel
theorem dX7_duckGainAt_22 : decode cX7_duckGainAt 22 = .ok (.aload_n 0, 1) := DX7_duckGainAt_1.1
theorem dX7_duckGainAt_23 : decode cX7_duckGainAt 23 = .ok (.getfield 25, 3) := DX7_duckGainAt_1.2.1
theorem dX7_duckGainAt_26 : decode cX7_duckGainAt 26 = .ok (.iload_n 1, 1) := DX7_duckGainAt_1.2.2.1
theorem dX7_duckGainAt_27 : decode cX7_duckGainAt 27 = .ok (.aaload, 1) := DX7_duckGainAt_1.2.2.2.1
theorem dX7_duckGainAt_28 : decode cX7_duckGainAt 28 = .ok (.iload_n 2, 1) := DX7_duckGainAt_1.2.2.2.2.1
theorem dX7_duckGainAt_29 : decode cX7_duckGainAt 29 = .ok (.invokevirtual 392, 3) := DX7_duckGainAt_1.2.2.2.2.2.1
theorem dX7_duckGainAt_32 : decode cX7_duckGainAt 32 = .ok (.ireturn, 1) := DX7_duckGainAt_1.2.2.2.2.2.2
set_option maxRecDepth 100000 in
theorem DX7_valueOfTrack_0 : decode cX7_valueOfTrack 0 = .ok (.aload_n 0, 1) ∧ decode cX7_valueOfTrack 1 = .ok (.getfield 12, 3) ∧ decode cX7_valueOfTrack 4 = .ok (.iload_n 1, 1) ∧ decode cX7_valueOfTrack 5 = .ok (.iload_n 2, 1) ∧ decode cX7_valueOfTrack 6 = .ok (.invokevirtual 395, 3) ∧ decode cX7_valueOfTrack 9 = .ok (.aload_n 0, 1) ∧ decode cX7_valueOfTrack 10 = .ok (.iload_n 1, 1) ∧ decode cX7_valueOfTrack 11 = .ok (.iload_n 2, 1) ∧ decode cX7_valueOfTrack 12 = .ok (.invokevirtual 250, 3) ∧ decode cX7_valueOfTrack 15 = .ok (.invokestatic 398, 3) := by decide +kernel
theorem dX7_valueOfTrack_0 : decode cX7_valueOfTrack 0 = .ok (.aload_n 0, 1) := DX7_valueOfTrack_0.1
theorem dX7_valueOfTrack_1 : decode cX7_valueOfTrack 1 = .ok (.getfield 12, 3) := DX7_valueOfTrack_0.2.1
theorem dX7_valueOfTrack_4 : decode cX7_valueOfTrack 4 = .ok (.iload_n 1, 1) := DX7_valueOfTrack_0.2.2.1
theorem dX7_valueOfTrack_5 : decode cX7_valueOfTrack 5 = .ok (.iload_n 2, 1) := DX7_valueOfTrack_0.2.2.2.1
theorem dX7_valueOfTrack_6 : decode cX7_valueOfTrack 6 = .ok (.invokevirtual 395, 3) := DX7_valueOfTrack_0.2.2.2.2.1
theorem dX7_valueOfTrack_9 : decode cX7_valueOfTrack 9 = .ok (.aload_n 0, 1) := DX7_valueOfTrack_0.2.2.2.2.2.1
theorem dX7_valueOfTrack_10 : decode cX7_valueOfTrack 10 = .ok (.iload_n 1, 1) := DX7_valueOfTrack_0.2.2.2.2.2.2.1
theorem dX7_valueOfTrack_11 : decode cX7_valueOfTrack 11 = .ok (.iload_n 2, 1) := DX7_valueOfTrack_0.2.2.2.2.2.2.2.1
theorem dX7_valueOfTrack_12 : decode cX7_valueOfTrack 12 = .ok (.invokevirtual 250, 3) := DX7_valueOfTrack_0.2.2.2.2.2.2.2.2.1
theorem dX7_valueOfTrack_15 : decode cX7_valueOfTrack 15 = .ok (.invokestatic 398, 3) := DX7_valueOfTrack_0.2.2.2.2.2.2.2.2.2
set_option maxRecDepth 100000 in
theorem DX7_valueOfTrack_1 : decode cX7_valueOfTrack 18 = .ok (.ireturn, 1) := by decide +kernel
theorem dX7_valueOfTrack_18 : decode cX7_valueOfTrack 18 = .ok (.ireturn, 1) := DX7_valueOfTrack_1
set_option maxRecDepth 100000 in
theorem DX7_mixInto_0 : decode cX7_mixInto 0 = .ok (.aload_n 0, 1) ∧ decode cX7_mixInto 1 = .ok (.getfield 12, 3) ∧ decode cX7_mixInto 4 = .ok (.invokevirtual 256, 3) ∧ decode cX7_mixInto 7 = .ok (.istore_n 3, 1) ∧ decode cX7_mixInto 8 = .ok (.iconst 0, 1) ∧ decode cX7_mixInto 9 = .ok (.istore 4, 2) ∧ decode cX7_mixInto 11 = .ok (.iconst 0, 1) ∧ decode cX7_mixInto 12 = .ok (.istore 5, 2) ∧ decode cX7_mixInto 14 = .ok (.iconst 0, 1) ∧ decode cX7_mixInto 15 = .ok (.istore 6, 2) := by decide +kernel
theorem dX7_mixInto_0 : decode cX7_mixInto 0 = .ok (.aload_n 0, 1) := DX7_mixInto_0.1
theorem dX7_mixInto_1 : decode cX7_mixInto 1 = .ok (.getfield 12, 3) := DX7_mixInto_0.2.1
theorem dX7_mixInto_4 : decode cX7_mixInto 4 = .ok (.invokevirtual 256, 3) := DX7_mixInto_0.2.2.1
theorem dX7_mixInto_7 : decode cX7_mixInto 7 = .ok (.istore_n 3, 1) := DX7_mixInto_0.2.2.2.1
theorem dX7_mixInto_8 : decode cX7_mixInto 8 = .ok (.iconst 0, 1) := DX7_mixInto_0.2.2.2.2.1
theorem dX7_mixInto_9 : decode cX7_mixInto 9 = .ok (.istore 4, 2) := DX7_mixInto_0.2.2.2.2.2.1
theorem dX7_mixInto_11 : decode cX7_mixInto 11 = .ok (.iconst 0, 1) := DX7_mixInto_0.2.2.2.2.2.2.1
theorem dX7_mixInto_12 : decode cX7_mixInto 12 = .ok (.istore 5, 2) := DX7_mixInto_0.2.2.2.2.2.2.2.1
theorem dX7_mixInto_14 : decode cX7_mixInto 14 = .ok (.iconst 0, 1) := DX7_mixInto_0.2.2.2.2.2.2.2.2.1
theorem dX7_mixInto_15 : decode cX7_mixInto 15 = .ok (.istore 6, 2) := DX7_mixInto_0.2.2.2.2.2.2.2.2.2
set_option maxRecDepth 100000 in
theorem DX7_mixInto_1 : decode cX7_mixInto 17 = .ok (.iload 6, 2) ∧ decode cX7_mixInto 19 = .ok (.iconst 4, 1) ∧ decode cX7_mixInto 20 = .ok (.if_icmp .ge 96, 3) ∧ decode cX7_mixInto 23 = .ok (.aload_n 0, 1) ∧ decode cX7_mixInto 24 = .ok (.getfield 12, 3) ∧ decode cX7_mixInto 27 = .ok (.getfield 179, 3) ∧ decode cX7_mixInto 30 = .ok (.iload 6, 2) ∧ decode cX7_mixInto 32 = .ok (.aaload, 1) ∧ decode cX7_mixInto 33 = .ok (.astore 7, 2) ∧ decode cX7_mixInto 35 = .ok (.aload 7, 2) := by decide +kernel
theorem dX7_mixInto_17 : decode cX7_mixInto 17 = .ok (.iload 6, 2) := DX7_mixInto_1.1
theorem dX7_mixInto_19 : decode cX7_mixInto 19 = .ok (.iconst 4, 1) := DX7_mixInto_1.2.1
theorem dX7_mixInto_20 : decode cX7_mixInto 20 = .ok (.if_icmp .ge 96, 3) := DX7_mixInto_1.2.2.1
theorem dX7_mixInto_23 : decode cX7_mixInto 23 = .ok (.aload_n 0, 1) := DX7_mixInto_1.2.2.2.1
theorem dX7_mixInto_24 : decode cX7_mixInto 24 = .ok (.getfield 12, 3) := DX7_mixInto_1.2.2.2.2.1
theorem dX7_mixInto_27 : decode cX7_mixInto 27 = .ok (.getfield 179, 3) := DX7_mixInto_1.2.2.2.2.2.1
theorem dX7_mixInto_30 : decode cX7_mixInto 30 = .ok (.iload 6, 2) := DX7_mixInto_1.2.2.2.2.2.2.1
theorem dX7_mixInto_32 : decode cX7_mixInto 32 = .ok (.aaload, 1) := DX7_mixInto_1.2.2.2.2.2.2.2.1
theorem dX7_mixInto_33 : decode cX7_mixInto 33 = .ok (.astore 7, 2) := DX7_mixInto_1.2.2.2.2.2.2.2.2.1
theorem dX7_mixInto_35 : decode cX7_mixInto 35 = .ok (.aload 7, 2) := DX7_mixInto_1.2.2.2.2.2.2.2.2.2
set_option maxRecDepth 100000 in
theorem DX7_mixInto_2 : decode cX7_mixInto 37 = .ok (.iload_n 3, 1) ∧ decode cX7_mixInto 38 = .ok (.invokevirtual 259, 3) ∧ decode cX7_mixInto 41 = .ok (.ifCond .eq 69, 3) ∧ decode cX7_mixInto 44 = .ok (.aload_n 0, 1) ∧ decode cX7_mixInto 45 = .ok (.iload 6, 2) ∧ decode cX7_mixInto 47 = .ok (.iload_n 2, 1) ∧ decode cX7_mixInto 48 = .ok (.invokevirtual 247, 3) ∧ decode cX7_mixInto 51 = .ok (.aload_n 0, 1) ∧ decode cX7_mixInto 52 = .ok (.iload 6, 2) ∧ decode cX7_mixInto 54 = .ok (.iload_n 2, 1) := by decide +kernel
theorem dX7_mixInto_37 : decode cX7_mixInto 37 = .ok (.iload_n 3, 1) := DX7_mixInto_2.1
theorem dX7_mixInto_38 : decode cX7_mixInto 38 = .ok (.invokevirtual 259, 3) := DX7_mixInto_2.2.1
theorem dX7_mixInto_41 : decode cX7_mixInto 41 = .ok (.ifCond .eq 69, 3) := DX7_mixInto_2.2.2.1
theorem dX7_mixInto_44 : decode cX7_mixInto 44 = .ok (.aload_n 0, 1) := DX7_mixInto_2.2.2.2.1
theorem dX7_mixInto_45 : decode cX7_mixInto 45 = .ok (.iload 6, 2) := DX7_mixInto_2.2.2.2.2.1
theorem dX7_mixInto_47 : decode cX7_mixInto 47 = .ok (.iload_n 2, 1) := DX7_mixInto_2.2.2.2.2.2.1
theorem dX7_mixInto_48 : decode cX7_mixInto 48 = .ok (.invokevirtual 247, 3) := DX7_mixInto_2.2.2.2.2.2.2.1
theorem dX7_mixInto_51 : decode cX7_mixInto 51 = .ok (.aload_n 0, 1) := DX7_mixInto_2.2.2.2.2.2.2.2.1
theorem dX7_mixInto_52 : decode cX7_mixInto 52 = .ok (.iload 6, 2) := DX7_mixInto_2.2.2.2.2.2.2.2.2.1
theorem dX7_mixInto_54 : decode cX7_mixInto 54 = .ok (.iload_n 2, 1) := DX7_mixInto_2.2.2.2.2.2.2.2.2.2
set_option maxRecDepth 100000 in
theorem DX7_mixInto_3 : decode cX7_mixInto 55 = .ok (.invokevirtual 253, 3) ∧ decode cX7_mixInto 58 = .ok (.istore 8, 2) ∧ decode cX7_mixInto 60 = .ok (.iload 4, 2) ∧ decode cX7_mixInto 62 = .ok (.iload 8, 2) ∧ decode cX7_mixInto 64 = .ok (.bipush 100, 2) ∧ decode cX7_mixInto 66 = .ok (.iconst 0, 1) ∧ decode cX7_mixInto 67 = .ok (.aload 7, 2) ∧ decode cX7_mixInto 69 = .ok (.getfield 188, 3) ∧ decode cX7_mixInto 72 = .ok (.invokestatic 318, 3) ∧ decode cX7_mixInto 75 = .ok (.isub, 1) := by decide +kernel
theorem dX7_mixInto_55 : decode cX7_mixInto 55 = .ok (.invokevirtual 253, 3) := DX7_mixInto_3.1
theorem dX7_mixInto_58 : decode cX7_mixInto 58 = .ok (.istore 8, 2) := DX7_mixInto_3.2.1
theorem dX7_mixInto_60 : decode cX7_mixInto 60 = .ok (.iload 4, 2) := DX7_mixInto_3.2.2.1
theorem dX7_mixInto_62 : decode cX7_mixInto 62 = .ok (.iload 8, 2) := DX7_mixInto_3.2.2.2.1
theorem dX7_mixInto_64 : decode cX7_mixInto 64 = .ok (.bipush 100, 2) := DX7_mixInto_3.2.2.2.2.1
theorem dX7_mixInto_66 : decode cX7_mixInto 66 = .ok (.iconst 0, 1) := DX7_mixInto_3.2.2.2.2.2.1
theorem dX7_mixInto_67 : decode cX7_mixInto 67 = .ok (.aload 7, 2) := DX7_mixInto_3.2.2.2.2.2.2.1
theorem dX7_mixInto_69 : decode cX7_mixInto 69 = .ok (.getfield 188, 3) := DX7_mixInto_3.2.2.2.2.2.2.2.1
theorem dX7_mixInto_72 : decode cX7_mixInto 72 = .ok (.invokestatic 318, 3) := DX7_mixInto_3.2.2.2.2.2.2.2.2.1
theorem dX7_mixInto_75 : decode cX7_mixInto 75 = .ok (.isub, 1) := DX7_mixInto_3.2.2.2.2.2.2.2.2.2
set_option maxRecDepth 100000 in
theorem DX7_mixInto_4 : decode cX7_mixInto 76 = .ok (.imul, 1) ∧ decode cX7_mixInto 77 = .ok (.bipush 100, 2) ∧ decode cX7_mixInto 79 = .ok (.invokestatic 374, 3) ∧ decode cX7_mixInto 82 = .ok (.iadd, 1) ∧ decode cX7_mixInto 83 = .ok (.istore 4, 2) ∧ decode cX7_mixInto 85 = .ok (.iload 5, 2) ∧ decode cX7_mixInto 87 = .ok (.iload 8, 2) ∧ decode cX7_mixInto 89 = .ok (.bipush 100, 2) ∧ decode cX7_mixInto 91 = .ok (.iconst 0, 1) ∧ decode cX7_mixInto 92 = .ok (.aload 7, 2) := by decide +kernel
theorem dX7_mixInto_76 : decode cX7_mixInto 76 = .ok (.imul, 1) := DX7_mixInto_4.1
theorem dX7_mixInto_77 : decode cX7_mixInto 77 = .ok (.bipush 100, 2) := DX7_mixInto_4.2.1
theorem dX7_mixInto_79 : decode cX7_mixInto 79 = .ok (.invokestatic 374, 3) := DX7_mixInto_4.2.2.1
theorem dX7_mixInto_82 : decode cX7_mixInto 82 = .ok (.iadd, 1) := DX7_mixInto_4.2.2.2.1
theorem dX7_mixInto_83 : decode cX7_mixInto 83 = .ok (.istore 4, 2) := DX7_mixInto_4.2.2.2.2.1
theorem dX7_mixInto_85 : decode cX7_mixInto 85 = .ok (.iload 5, 2) := DX7_mixInto_4.2.2.2.2.2.1
theorem dX7_mixInto_87 : decode cX7_mixInto 87 = .ok (.iload 8, 2) := DX7_mixInto_4.2.2.2.2.2.2.1
theorem dX7_mixInto_89 : decode cX7_mixInto 89 = .ok (.bipush 100, 2) := DX7_mixInto_4.2.2.2.2.2.2.2.1
theorem dX7_mixInto_91 : decode cX7_mixInto 91 = .ok (.iconst 0, 1) := DX7_mixInto_4.2.2.2.2.2.2.2.2.1
theorem dX7_mixInto_92 : decode cX7_mixInto 92 = .ok (.aload 7, 2) := DX7_mixInto_4.2.2.2.2.2.2.2.2.2
set_option maxRecDepth 100000 in
theorem DX7_mixInto_5 : decode cX7_mixInto 94 = .ok (.getfield 188, 3) ∧ decode cX7_mixInto 97 = .ok (.invokestatic 401, 3) ∧ decode cX7_mixInto 100 = .ok (.iadd, 1) ∧ decode cX7_mixInto 101 = .ok (.imul, 1) ∧ decode cX7_mixInto 102 = .ok (.bipush 100, 2) ∧ decode cX7_mixInto 104 = .ok (.invokestatic 374, 3) ∧ decode cX7_mixInto 107 = .ok (.iadd, 1) ∧ decode cX7_mixInto 108 = .ok (.istore 5, 2) ∧ decode cX7_mixInto 110 = .ok (.iinc 6 1, 3) ∧ decode cX7_mixInto 113 = .ok (.goto (-96), 3) := by decide +kernel
theorem dX7_mixInto_94 : decode cX7_mixInto 94 = .ok (.getfield 188, 3) := DX7_mixInto_5.1
theorem dX7_mixInto_97 : decode cX7_mixInto 97 = .ok (.invokestatic 401, 3) := DX7_mixInto_5.2.1
theorem dX7_mixInto_100 : decode cX7_mixInto 100 = .ok (.iadd, 1) := DX7_mixInto_5.2.2.1
theorem dX7_mixInto_101 : decode cX7_mixInto 101 = .ok (.imul, 1) := DX7_mixInto_5.2.2.2.1
theorem dX7_mixInto_102 : decode cX7_mixInto 102 = .ok (.bipush 100, 2) := DX7_mixInto_5.2.2.2.2.1
theorem dX7_mixInto_104 : decode cX7_mixInto 104 = .ok (.invokestatic 374, 3) := DX7_mixInto_5.2.2.2.2.2.1
theorem dX7_mixInto_107 : decode cX7_mixInto 107 = .ok (.iadd, 1) := DX7_mixInto_5.2.2.2.2.2.2.1
theorem dX7_mixInto_108 : decode cX7_mixInto 108 = .ok (.istore 5, 2) := DX7_mixInto_5.2.2.2.2.2.2.2.1
theorem dX7_mixInto_110 : decode cX7_mixInto 110 = .ok (.iinc 6 1, 3) := DX7_mixInto_5.2.2.2.2.2.2.2.2.1
theorem dX7_mixInto_113 : decode cX7_mixInto 113 = .ok (.goto (-96), 3) := DX7_mixInto_5.2.2.2.2.2.2.2.2.2
set_option maxRecDepth 100000 in
theorem DX7_mixInto_6 : decode cX7_mixInto 116 = .ok (.aload_n 1, 1) ∧ decode cX7_mixInto 117 = .ok (.iload 4, 2) ∧ decode cX7_mixInto 119 = .ok (.aload_n 0, 1) ∧ decode cX7_mixInto 120 = .ok (.getfield 12, 3) ∧ decode cX7_mixInto 123 = .ok (.getfield 265, 3) ∧ decode cX7_mixInto 126 = .ok (.invokestatic 398, 3) ∧ decode cX7_mixInto 129 = .ok (.iload 5, 2) ∧ decode cX7_mixInto 131 = .ok (.aload_n 0, 1) ∧ decode cX7_mixInto 132 = .ok (.getfield 12, 3) ∧ decode cX7_mixInto 135 = .ok (.getfield 265, 3) := by decide +kernel
theorem dX7_mixInto_116 : decode cX7_mixInto 116 = .ok (.aload_n 1, 1) := DX7_mixInto_6.1
theorem dX7_mixInto_117 : decode cX7_mixInto 117 = .ok (.iload 4, 2) := DX7_mixInto_6.2.1
theorem dX7_mixInto_119 : decode cX7_mixInto 119 = .ok (.aload_n 0, 1) := DX7_mixInto_6.2.2.1
theorem dX7_mixInto_120 : decode cX7_mixInto 120 = .ok (.getfield 12, 3) := DX7_mixInto_6.2.2.2.1
theorem dX7_mixInto_123 : decode cX7_mixInto 123 = .ok (.getfield 265, 3) := DX7_mixInto_6.2.2.2.2.1
theorem dX7_mixInto_126 : decode cX7_mixInto 126 = .ok (.invokestatic 398, 3) := DX7_mixInto_6.2.2.2.2.2.1
theorem dX7_mixInto_129 : decode cX7_mixInto 129 = .ok (.iload 5, 2) := DX7_mixInto_6.2.2.2.2.2.2.1
theorem dX7_mixInto_131 : decode cX7_mixInto 131 = .ok (.aload_n 0, 1) := DX7_mixInto_6.2.2.2.2.2.2.2.1
theorem dX7_mixInto_132 : decode cX7_mixInto 132 = .ok (.getfield 12, 3) := DX7_mixInto_6.2.2.2.2.2.2.2.2.1
theorem dX7_mixInto_135 : decode cX7_mixInto 135 = .ok (.getfield 265, 3) := DX7_mixInto_6.2.2.2.2.2.2.2.2.2
set_option maxRecDepth 100000 in
theorem DX7_mixInto_7 : decode cX7_mixInto 138 = .ok (.invokestatic 398, 3) ∧ decode cX7_mixInto 141 = .ok (.invokevirtual 404, 3) ∧ decode cX7_mixInto 144 = .ok (.return_, 1) := by decide +kernel
theorem dX7_mixInto_138 : decode cX7_mixInto 138 = .ok (.invokestatic 398, 3) := DX7_mixInto_7.1
theorem dX7_mixInto_141 : decode cX7_mixInto 141 = .ok (.invokevirtual 404, 3) := DX7_mixInto_7.2.1
theorem dX7_mixInto_144 : decode cX7_mixInto 144 = .ok (.return_, 1) := DX7_mixInto_7.2.2
set_option maxRecDepth 100000 in
theorem DJ9_floorDiv_7cf53_0 : decode cJ9_floorDiv_7cf53 0 = .ok (.iload_n 0, 1) ∧ decode cJ9_floorDiv_7cf53 1 = .ok (.iload_n 1, 1) ∧ decode cJ9_floorDiv_7cf53 2 = .ok (.idiv, 1) ∧ decode cJ9_floorDiv_7cf53 3 = .ok (.istore_n 2, 1) ∧ decode cJ9_floorDiv_7cf53 4 = .ok (.iload_n 0, 1) ∧ decode cJ9_floorDiv_7cf53 5 = .ok (.iload_n 1, 1) ∧ decode cJ9_floorDiv_7cf53 6 = .ok (.ixor, 1) ∧ decode cJ9_floorDiv_7cf53 7 = .ok (.ifCond .ge 14, 3) ∧ decode cJ9_floorDiv_7cf53 10 = .ok (.iload_n 2, 1) ∧ decode cJ9_floorDiv_7cf53 11 = .ok (.iload_n 1, 1) := by decide +kernel
theorem dJ9_floorDiv_7cf53_0 : decode cJ9_floorDiv_7cf53 0 = .ok (.iload_n 0, 1) := DJ9_floorDiv_7cf53_0.1
theorem dJ9_floorDiv_7cf53_1 : decode cJ9_floorDiv_7cf53 1 = .ok (.iload_n 1, 1) := DJ9_floorDiv_7cf53_0.2.1
theorem dJ9_floorDiv_7cf53_2 : decode cJ9_floorDiv_7cf53 2 = .ok (.idiv, 1) := DJ9_floorDiv_7cf53_0.2.2.1
theorem dJ9_floorDiv_7cf53_3 : decode cJ9_floorDiv_7cf53 3 = .ok (.istore_n 2, 1) := DJ9_floorDiv_7cf53_0.2.2.2.1
theorem dJ9_floorDiv_7cf53_4 : decode cJ9_floorDiv_7cf53 4 = .ok (.iload_n 0, 1) := DJ9_floorDiv_7cf53_0.2.2.2.2.1
theorem dJ9_floorDiv_7cf53_5 : decode cJ9_floorDiv_7cf53 5 = .ok (.iload_n 1, 1) := DJ9_floorDiv_7cf53_0.2.2.2.2.2.1
theorem dJ9_floorDiv_7cf53_6 : decode cJ9_floorDiv_7cf53 6 = .ok (.ixor, 1) := DJ9_floorDiv_7cf53_0.2.2.2.2.2.2.1
theorem dJ9_floorDiv_7cf53_7 : decode cJ9_floorDiv_7cf53 7 = .ok (.ifCond .ge 14, 3) := DJ9_floorDiv_7cf53_0.2.2.2.2.2.2.2.1
theorem dJ9_floorDiv_7cf53_10 : decode cJ9_floorDiv_7cf53 10 = .ok (.iload_n 2, 1) := DJ9_floorDiv_7cf53_0.2.2.2.2.2.2.2.2.1
theorem dJ9_floorDiv_7cf53_11 : decode cJ9_floorDiv_7cf53 11 = .ok (.iload_n 1, 1) := DJ9_floorDiv_7cf53_0.2.2.2.2.2.2.2.2.2
set_option maxRecDepth 100000 in
theorem DJ9_floorDiv_7cf53_1 : decode cJ9_floorDiv_7cf53 12 = .ok (.imul, 1) ∧ decode cJ9_floorDiv_7cf53 13 = .ok (.iload_n 0, 1) ∧ decode cJ9_floorDiv_7cf53 14 = .ok (.if_icmp .eq 7, 3) ∧ decode cJ9_floorDiv_7cf53 17 = .ok (.iload_n 2, 1) ∧ decode cJ9_floorDiv_7cf53 18 = .ok (.iconst 1, 1) ∧ decode cJ9_floorDiv_7cf53 19 = .ok (.isub, 1) ∧ decode cJ9_floorDiv_7cf53 20 = .ok (.ireturn, 1) ∧ decode cJ9_floorDiv_7cf53 21 = .ok (.iload_n 2, 1) ∧ decode cJ9_floorDiv_7cf53 22 = .ok (.ireturn, 1) := by decide +kernel
theorem dJ9_floorDiv_7cf53_12 : decode cJ9_floorDiv_7cf53 12 = .ok (.imul, 1) := DJ9_floorDiv_7cf53_1.1
theorem dJ9_floorDiv_7cf53_13 : decode cJ9_floorDiv_7cf53 13 = .ok (.iload_n 0, 1) := DJ9_floorDiv_7cf53_1.2.1
theorem dJ9_floorDiv_7cf53_14 : decode cJ9_floorDiv_7cf53 14 = .ok (.if_icmp .eq 7, 3) := DJ9_floorDiv_7cf53_1.2.2.1
theorem dJ9_floorDiv_7cf53_17 : decode cJ9_floorDiv_7cf53 17 = .ok (.iload_n 2, 1) := DJ9_floorDiv_7cf53_1.2.2.2.1
theorem dJ9_floorDiv_7cf53_18 : decode cJ9_floorDiv_7cf53 18 = .ok (.iconst 1, 1) := DJ9_floorDiv_7cf53_1.2.2.2.2.1
theorem dJ9_floorDiv_7cf53_19 : decode cJ9_floorDiv_7cf53 19 = .ok (.isub, 1) := DJ9_floorDiv_7cf53_1.2.2.2.2.2.1
theorem dJ9_floorDiv_7cf53_20 : decode cJ9_floorDiv_7cf53 20 = .ok (.ireturn, 1) := DJ9_floorDiv_7cf53_1.2.2.2.2.2.2.1
theorem dJ9_floorDiv_7cf53_21 : decode cJ9_floorDiv_7cf53 21 = .ok (.iload_n 2, 1) := DJ9_floorDiv_7cf53_1.2.2.2.2.2.2.2.1
theorem dJ9_floorDiv_7cf53_22 : decode cJ9_floorDiv_7cf53 22 = .ok (.ireturn, 1) := DJ9_floorDiv_7cf53_1.2.2.2.2.2.2.2.2
set_option maxRecDepth 100000 in
theorem DJ9_abs_0f7a4_0 : decode cJ9_abs_0f7a4 0 = .ok (.iload_n 0, 1) ∧ decode cJ9_abs_0f7a4 1 = .ok (.ifCond .ge 8, 3) ∧ decode cJ9_abs_0f7a4 4 = .ok (.iload_n 0, 1) ∧ decode cJ9_abs_0f7a4 5 = .ok (.ineg, 1) ∧ decode cJ9_abs_0f7a4 6 = .ok (.goto 4, 3) ∧ decode cJ9_abs_0f7a4 9 = .ok (.iload_n 0, 1) ∧ decode cJ9_abs_0f7a4 10 = .ok (.ireturn, 1) := by decide +kernel
theorem dJ9_abs_0f7a4_0 : decode cJ9_abs_0f7a4 0 = .ok (.iload_n 0, 1) := DJ9_abs_0f7a4_0.1
theorem dJ9_abs_0f7a4_1 : decode cJ9_abs_0f7a4 1 = .ok (.ifCond .ge 8, 3) := DJ9_abs_0f7a4_0.2.1
theorem dJ9_abs_0f7a4_4 : decode cJ9_abs_0f7a4 4 = .ok (.iload_n 0, 1) := DJ9_abs_0f7a4_0.2.2.1
theorem dJ9_abs_0f7a4_5 : decode cJ9_abs_0f7a4 5 = .ok (.ineg, 1) := DJ9_abs_0f7a4_0.2.2.2.1
theorem dJ9_abs_0f7a4_6 : decode cJ9_abs_0f7a4 6 = .ok (.goto 4, 3) := DJ9_abs_0f7a4_0.2.2.2.2.1
theorem dJ9_abs_0f7a4_9 : decode cJ9_abs_0f7a4 9 = .ok (.iload_n 0, 1) := DJ9_abs_0f7a4_0.2.2.2.2.2.1
theorem dJ9_abs_0f7a4_10 : decode cJ9_abs_0f7a4 10 = .ok (.ireturn, 1) := DJ9_abs_0f7a4_0.2.2.2.2.2.2
set_option maxRecDepth 100000 in
theorem DJ9_max_7cf53_0 : decode cJ9_max_7cf53 0 = .ok (.iload_n 0, 1) ∧ decode cJ9_max_7cf53 1 = .ok (.iload_n 1, 1) ∧ decode cJ9_max_7cf53 2 = .ok (.if_icmp .lt 7, 3) ∧ decode cJ9_max_7cf53 5 = .ok (.iload_n 0, 1) ∧ decode cJ9_max_7cf53 6 = .ok (.goto 4, 3) ∧ decode cJ9_max_7cf53 9 = .ok (.iload_n 1, 1) ∧ decode cJ9_max_7cf53 10 = .ok (.ireturn, 1) := by decide +kernel
theorem dJ9_max_7cf53_0 : decode cJ9_max_7cf53 0 = .ok (.iload_n 0, 1) := DJ9_max_7cf53_0.1
theorem dJ9_max_7cf53_1 : decode cJ9_max_7cf53 1 = .ok (.iload_n 1, 1) := DJ9_max_7cf53_0.2.1
theorem dJ9_max_7cf53_2 : decode cJ9_max_7cf53 2 = .ok (.if_icmp .lt 7, 3) := DJ9_max_7cf53_0.2.2.1
theorem dJ9_max_7cf53_5 : decode cJ9_max_7cf53 5 = .ok (.iload_n 0, 1) := DJ9_max_7cf53_0.2.2.2.1
theorem dJ9_max_7cf53_6 : decode cJ9_max_7cf53 6 = .ok (.goto 4, 3) := DJ9_max_7cf53_0.2.2.2.2.1
theorem dJ9_max_7cf53_9 : decode cJ9_max_7cf53 9 = .ok (.iload_n 1, 1) := DJ9_max_7cf53_0.2.2.2.2.2.1
theorem dJ9_max_7cf53_10 : decode cJ9_max_7cf53 10 = .ok (.ireturn, 1) := DJ9_max_7cf53_0.2.2.2.2.2.2
set_option maxRecDepth 100000 in
theorem DJ9_max_f86c9_0 : decode cJ9_max_f86c9 0 = .ok (.lload_n 0, 1) ∧ decode cJ9_max_f86c9 1 = .ok (.lload_n 2, 1) ∧ decode cJ9_max_f86c9 2 = .ok (.lcmp, 1) ∧ decode cJ9_max_f86c9 3 = .ok (.ifCond .lt 7, 3) ∧ decode cJ9_max_f86c9 6 = .ok (.lload_n 0, 1) ∧ decode cJ9_max_f86c9 7 = .ok (.goto 4, 3) ∧ decode cJ9_max_f86c9 10 = .ok (.lload_n 2, 1) ∧ decode cJ9_max_f86c9 11 = .ok (.lreturn, 1) := by decide +kernel
theorem dJ9_max_f86c9_0 : decode cJ9_max_f86c9 0 = .ok (.lload_n 0, 1) := DJ9_max_f86c9_0.1
theorem dJ9_max_f86c9_1 : decode cJ9_max_f86c9 1 = .ok (.lload_n 2, 1) := DJ9_max_f86c9_0.2.1
theorem dJ9_max_f86c9_2 : decode cJ9_max_f86c9 2 = .ok (.lcmp, 1) := DJ9_max_f86c9_0.2.2.1
theorem dJ9_max_f86c9_3 : decode cJ9_max_f86c9 3 = .ok (.ifCond .lt 7, 3) := DJ9_max_f86c9_0.2.2.2.1
theorem dJ9_max_f86c9_6 : decode cJ9_max_f86c9 6 = .ok (.lload_n 0, 1) := DJ9_max_f86c9_0.2.2.2.2.1
theorem dJ9_max_f86c9_7 : decode cJ9_max_f86c9 7 = .ok (.goto 4, 3) := DJ9_max_f86c9_0.2.2.2.2.2.1
theorem dJ9_max_f86c9_10 : decode cJ9_max_f86c9 10 = .ok (.lload_n 2, 1) := DJ9_max_f86c9_0.2.2.2.2.2.2.1
theorem dJ9_max_f86c9_11 : decode cJ9_max_f86c9 11 = .ok (.lreturn, 1) := DJ9_max_f86c9_0.2.2.2.2.2.2.2
set_option maxRecDepth 100000 in
theorem DJ9_min_7cf53_0 : decode cJ9_min_7cf53 0 = .ok (.iload_n 0, 1) ∧ decode cJ9_min_7cf53 1 = .ok (.iload_n 1, 1) ∧ decode cJ9_min_7cf53 2 = .ok (.if_icmp .gt 7, 3) ∧ decode cJ9_min_7cf53 5 = .ok (.iload_n 0, 1) ∧ decode cJ9_min_7cf53 6 = .ok (.goto 4, 3) ∧ decode cJ9_min_7cf53 9 = .ok (.iload_n 1, 1) ∧ decode cJ9_min_7cf53 10 = .ok (.ireturn, 1) := by decide +kernel
theorem dJ9_min_7cf53_0 : decode cJ9_min_7cf53 0 = .ok (.iload_n 0, 1) := DJ9_min_7cf53_0.1
theorem dJ9_min_7cf53_1 : decode cJ9_min_7cf53 1 = .ok (.iload_n 1, 1) := DJ9_min_7cf53_0.2.1
theorem dJ9_min_7cf53_2 : decode cJ9_min_7cf53 2 = .ok (.if_icmp .gt 7, 3) := DJ9_min_7cf53_0.2.2.1
theorem dJ9_min_7cf53_5 : decode cJ9_min_7cf53 5 = .ok (.iload_n 0, 1) := DJ9_min_7cf53_0.2.2.2.1
theorem dJ9_min_7cf53_6 : decode cJ9_min_7cf53 6 = .ok (.goto 4, 3) := DJ9_min_7cf53_0.2.2.2.2.1
theorem dJ9_min_7cf53_9 : decode cJ9_min_7cf53 9 = .ok (.iload_n 1, 1) := DJ9_min_7cf53_0.2.2.2.2.2.1
theorem dJ9_min_7cf53_10 : decode cJ9_min_7cf53 10 = .ok (.ireturn, 1) := DJ9_min_7cf53_0.2.2.2.2.2.2
