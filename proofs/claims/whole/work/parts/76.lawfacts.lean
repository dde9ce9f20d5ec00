/-! The law's class: words and facts -/
theorem is254 : mw_is 255 254 11 := ⟨by decide +kernel, by decide, by decide⟩
theorem vi254 : vp_in 0 (Ln 254) := by unfold vp_in; decide +kernel
theorem hS1_is {e : Nat} {E : String} (h : hS1[e]? = some E) : (e = 0 ∧ E = "java/lang/IndexOutOfBoundsException") := by
  rcases e with _ | e
  · exact ⟨rfl, (Option.some.inj h).symm⟩
  · cases h
theorem hS2_is {e : Nat} {E : String} (h : hS2[e]? = some E) : (e = 0 ∧ E = "java/lang/IndexOutOfBoundsException") ∨ (e = 1 ∧ E = "java/lang/IllegalArgumentException") := by
  rcases e with _ | _ | e
  · exact Or.inl ⟨rfl, (Option.some.inj h).symm⟩
  · exact Or.inr (⟨rfl, (Option.some.inj h).symm⟩)
  · cases h
theorem hS3_is {e : Nat} {E : String} (h : hS3[e]? = some E) : (e = 0 ∧ E = "java/lang/IndexOutOfBoundsException") ∨ (e = 1 ∧ E = "java/lang/IllegalArgumentException") ∨ (e = 2 ∧ E = "java/lang/IllegalStateException") := by
  rcases e with _ | _ | _ | e
  · exact Or.inl ⟨rfl, (Option.some.inj h).symm⟩
  · exact Or.inr (Or.inl ⟨rfl, (Option.some.inj h).symm⟩)
  · exact Or.inr (Or.inr (⟨rfl, (Option.some.inj h).symm⟩))
  · cases h
theorem hSU_is {e : Nat} {E : String} (h : hSU[e]? = some E) : (e = 0 ∧ E = "java/lang/IndexOutOfBoundsException") ∨ (e = 1 ∧ E = "java/lang/IllegalArgumentException") ∨ (e = 2 ∧ E = "java/lang/UnsupportedOperationException") := by
  rcases e with _ | _ | _ | e
  · exact Or.inl ⟨rfl, (Option.some.inj h).symm⟩
  · exact Or.inr (Or.inl ⟨rfl, (Option.some.inj h).symm⟩)
  · exact Or.inr (Or.inr (⟨rfl, (Option.some.inj h).symm⟩))
  · cases h
theorem hS4_is {e : Nat} {E : String} (h : hS4[e]? = some E) : (e = 0 ∧ E = "java/lang/IndexOutOfBoundsException") ∨ (e = 1 ∧ E = "java/lang/IllegalArgumentException") ∨ (e = 2 ∧ E = "java/lang/IllegalStateException") ∨ (e = 3 ∧ E = "java/lang/UnsupportedOperationException") := by
  rcases e with _ | _ | _ | _ | e
  · exact Or.inl ⟨rfl, (Option.some.inj h).symm⟩
  · exact Or.inr (Or.inl ⟨rfl, (Option.some.inj h).symm⟩)
  · exact Or.inr (Or.inr (Or.inl ⟨rfl, (Option.some.inj h).symm⟩))
  · exact Or.inr (Or.inr (Or.inr (⟨rfl, (Option.some.inj h).symm⟩)))
  · cases h
theorem hSA_is {e : Nat} {E : String} (h : hSA[e]? = some E) : (e = 0 ∧ E = "java/lang/IllegalArgumentException") ∨ (e = 1 ∧ E = "java/lang/IllegalStateException") ∨ (e = 2 ∧ E = "java/lang/UnsupportedOperationException") := by
  rcases e with _ | _ | _ | e
  · exact Or.inl ⟨rfl, (Option.some.inj h).symm⟩
  · exact Or.inr (Or.inl ⟨rfl, (Option.some.inj h).symm⟩)
  · exact Or.inr (Or.inr (⟨rfl, (Option.some.inj h).symm⟩))
  · cases h
theorem hA1_is {e : Nat} {E : String} (h : hA1[e]? = some E) : (e = 0 ∧ E = "java/lang/IllegalArgumentException") := by
  rcases e with _ | e
  · exact ⟨rfl, (Option.some.inj h).symm⟩
  · cases h
theorem hT1_is {e : Nat} {E : String} (h : hT1[e]? = some E) : (e = 0 ∧ E = "java/lang/IllegalStateException") := by
  rcases e with _ | e
  · exact ⟨rfl, (Option.some.inj h).symm⟩
  · cases h
set_option maxRecDepth 100000 in
theorem TX_0 : lw_tbl[59]? = some (Cond.initialized RL) ∧ goodWord (Cond.initialized RL) = true ∧ lw_tbl[60]? = some (Cond.initialized RX7) ∧ goodWord (Cond.initialized RX7) = true ∧ lw_tbl[68]? = some (Cond.initialized RX8) ∧ goodWord (Cond.initialized RX8) = true ∧ lw_tbl[77]? = some (Cond.classLink RL 8 RX7) ∧ goodWord (Cond.classLink RL 8 RX7) = true := by decide +kernel
theorem tx_59 : Cond.initialized RL ∈ TB := tb_in 59 TX_0.1 TX_0.2.1
theorem tx_60 : Cond.initialized RX7 ∈ TB := tb_in 60 TX_0.2.2.1 TX_0.2.2.2.1
theorem tx_68 : Cond.initialized RX8 ∈ TB := tb_in 68 TX_0.2.2.2.2.1 TX_0.2.2.2.2.2.1
theorem tx_77 : Cond.classLink RL 8 RX7 ∈ TB := tb_in 77 TX_0.2.2.2.2.2.2.1 TX_0.2.2.2.2.2.2.2
set_option maxRecDepth 100000 in
theorem TX_1 : lw_tbl[79]? = some (Cond.methodLink RL 110 yX7_init) ∧ goodWord (Cond.methodLink RL 110 yX7_init) = true ∧ lw_tbl[80]? = some (Cond.instanceMethod yX7_init) ∧ goodWord (Cond.instanceMethod yX7_init) = true ∧ lw_tbl[81]? = some (Cond.code yX7_init cX7_init 2 none) ∧ goodWord (Cond.code yX7_init cX7_init 2 none) = true ∧ lw_tbl[345]? = some (Cond.methodLink RL 152 yX7_clips) ∧ goodWord (Cond.methodLink RL 152 yX7_clips) = true := by decide +kernel
theorem tx_79 : Cond.methodLink RL 110 yX7_init ∈ TB := tb_in 79 TX_1.1 TX_1.2.1
theorem tx_80 : Cond.instanceMethod yX7_init ∈ TB := tb_in 80 TX_1.2.2.1 TX_1.2.2.2.1
theorem tx_81 : Cond.code yX7_init cX7_init 2 none ∈ TB := tb_in 81 TX_1.2.2.2.2.1 TX_1.2.2.2.2.2.1
theorem tx_345 : Cond.methodLink RL 152 yX7_clips ∈ TB := tb_in 345 TX_1.2.2.2.2.2.2.1 TX_1.2.2.2.2.2.2.2
set_option maxRecDepth 100000 in
theorem TX_2 : lw_tbl[346]? = some (Cond.instanceMethod yX7_clips) ∧ goodWord (Cond.instanceMethod yX7_clips) = true ∧ lw_tbl[347]? = some (Cond.selects RX7 yX7_clips yX7_clips) ∧ goodWord (Cond.selects RX7 yX7_clips yX7_clips) = true ∧ lw_tbl[348]? = some (Cond.code yX7_clips cX7_clips 1 (some .int)) ∧ goodWord (Cond.code yX7_clips cX7_clips 1 (some .int)) = true ∧ lw_tbl[349]? = some (Cond.methodLink RL 210 yX7_clearMeters) ∧ goodWord (Cond.methodLink RL 210 yX7_clearMeters) = true := by decide +kernel
theorem tx_346 : Cond.instanceMethod yX7_clips ∈ TB := tb_in 346 TX_2.1 TX_2.2.1
theorem tx_347 : Cond.selects RX7 yX7_clips yX7_clips ∈ TB := tb_in 347 TX_2.2.2.1 TX_2.2.2.2.1
theorem tx_348 : Cond.code yX7_clips cX7_clips 1 (some .int) ∈ TB := tb_in 348 TX_2.2.2.2.2.1 TX_2.2.2.2.2.2.1
theorem tx_349 : Cond.methodLink RL 210 yX7_clearMeters ∈ TB := tb_in 349 TX_2.2.2.2.2.2.2.1 TX_2.2.2.2.2.2.2.2
set_option maxRecDepth 100000 in
theorem TX_3 : lw_tbl[350]? = some (Cond.instanceMethod yX7_clearMeters) ∧ goodWord (Cond.instanceMethod yX7_clearMeters) = true ∧ lw_tbl[351]? = some (Cond.selects RX7 yX7_clearMeters yX7_clearMeters) ∧ goodWord (Cond.selects RX7 yX7_clearMeters yX7_clearMeters) = true ∧ lw_tbl[352]? = some (Cond.code yX7_clearMeters cX7_clearMeters 3 (some .long)) ∧ goodWord (Cond.code yX7_clearMeters cX7_clearMeters 3 (some .long)) = true ∧ lw_tbl[409]? = some (Cond.methodLink RL 215 yX7_length) ∧ goodWord (Cond.methodLink RL 215 yX7_length) = true := by decide +kernel
theorem tx_350 : Cond.instanceMethod yX7_clearMeters ∈ TB := tb_in 350 TX_3.1 TX_3.2.1
theorem tx_351 : Cond.selects RX7 yX7_clearMeters yX7_clearMeters ∈ TB := tb_in 351 TX_3.2.2.1 TX_3.2.2.2.1
theorem tx_352 : Cond.code yX7_clearMeters cX7_clearMeters 3 (some .long) ∈ TB := tb_in 352 TX_3.2.2.2.2.1 TX_3.2.2.2.2.2.1
theorem tx_409 : Cond.methodLink RL 215 yX7_length ∈ TB := tb_in 409 TX_3.2.2.2.2.2.2.1 TX_3.2.2.2.2.2.2.2
set_option maxRecDepth 100000 in
theorem TX_4 : lw_tbl[410]? = some (Cond.instanceMethod yX7_length) ∧ goodWord (Cond.instanceMethod yX7_length) = true ∧ lw_tbl[411]? = some (Cond.selects RX7 yX7_length yX7_length) ∧ goodWord (Cond.selects RX7 yX7_length yX7_length) = true ∧ lw_tbl[412]? = some (Cond.code yX7_length cX7_length 3 (some .int)) ∧ goodWord (Cond.code yX7_length cX7_length 3 (some .int)) = true ∧ lw_tbl[420]? = some (Cond.methodLink RL 223 yX7_digest) ∧ goodWord (Cond.methodLink RL 223 yX7_digest) = true := by decide +kernel
theorem tx_410 : Cond.instanceMethod yX7_length ∈ TB := tb_in 410 TX_4.1 TX_4.2.1
theorem tx_411 : Cond.selects RX7 yX7_length yX7_length ∈ TB := tb_in 411 TX_4.2.2.1 TX_4.2.2.2.1
theorem tx_412 : Cond.code yX7_length cX7_length 3 (some .int) ∈ TB := tb_in 412 TX_4.2.2.2.2.1 TX_4.2.2.2.2.2.1
theorem tx_420 : Cond.methodLink RL 223 yX7_digest ∈ TB := tb_in 420 TX_4.2.2.2.2.2.2.1 TX_4.2.2.2.2.2.2.2
set_option maxRecDepth 100000 in
theorem TX_5 : lw_tbl[421]? = some (Cond.instanceMethod yX7_digest) ∧ goodWord (Cond.instanceMethod yX7_digest) = true ∧ lw_tbl[422]? = some (Cond.selects RX7 yX7_digest yX7_digest) ∧ goodWord (Cond.selects RX7 yX7_digest yX7_digest) = true ∧ lw_tbl[423]? = some (Cond.code yX7_digest cX7_digest 4 (some .long)) ∧ goodWord (Cond.code yX7_digest cX7_digest 4 (some .long)) = true ∧ lw_tbl[557]? = some (Cond.methodLink RL 114 yL_setSource) ∧ goodWord (Cond.methodLink RL 114 yL_setSource) = true := by decide +kernel
theorem tx_421 : Cond.instanceMethod yX7_digest ∈ TB := tb_in 421 TX_5.1 TX_5.2.1
theorem tx_422 : Cond.selects RX7 yX7_digest yX7_digest ∈ TB := tb_in 422 TX_5.2.2.1 TX_5.2.2.2.1
theorem tx_423 : Cond.code yX7_digest cX7_digest 4 (some .long) ∈ TB := tb_in 423 TX_5.2.2.2.2.1 TX_5.2.2.2.2.2.1
theorem tx_557 : Cond.methodLink RL 114 yL_setSource ∈ TB := tb_in 557 TX_5.2.2.2.2.2.2.1 TX_5.2.2.2.2.2.2.2
set_option maxRecDepth 100000 in
theorem TX_6 : lw_tbl[558]? = some (Cond.static yL_setSource) ∧ goodWord (Cond.static yL_setSource) = true ∧ lw_tbl[559]? = some (Cond.codeWith yL_setSource cL_setSource 8 (some .int) [(0, 16, 19, 13), (0, 16, 23, 15)]) ∧ goodWord (Cond.codeWith yL_setSource cL_setSource 8 (some .int) [(0, 16, 19, 13), (0, 16, 23, 15)]) = true ∧ lw_tbl[560]? = some (Cond.classLink RL 13 "java/lang/IndexOutOfBoundsException") ∧ goodWord (Cond.classLink RL 13 "java/lang/IndexOutOfBoundsException") = true ∧ lw_tbl[561]? = some (Cond.classLink RL 15 "java/lang/IllegalArgumentException") ∧ goodWord (Cond.classLink RL 15 "java/lang/IllegalArgumentException") = true := by decide +kernel
theorem tx_558 : Cond.static yL_setSource ∈ TB := tb_in 558 TX_6.1 TX_6.2.1
theorem tx_559 : Cond.codeWith yL_setSource cL_setSource 8 (some .int) [(0, 16, 19, 13), (0, 16, 23, 15)] ∈ TB := tb_in 559 TX_6.2.2.1 TX_6.2.2.2.1
theorem tx_560 : Cond.classLink RL 13 "java/lang/IndexOutOfBoundsException" ∈ TB := tb_in 560 TX_6.2.2.2.2.1 TX_6.2.2.2.2.2.1
theorem tx_561 : Cond.classLink RL 15 "java/lang/IllegalArgumentException" ∈ TB := tb_in 561 TX_6.2.2.2.2.2.2.1 TX_6.2.2.2.2.2.2.2
set_option maxRecDepth 100000 in
theorem TX_7 : lw_tbl[562]? = some (Cond.methodLink RL 7 yX7_setSource) ∧ goodWord (Cond.methodLink RL 7 yX7_setSource) = true ∧ lw_tbl[563]? = some (Cond.instanceMethod yX7_setSource) ∧ goodWord (Cond.instanceMethod yX7_setSource) = true ∧ lw_tbl[564]? = some (Cond.selects RX7 yX7_setSource yX7_setSource) ∧ goodWord (Cond.selects RX7 yX7_setSource yX7_setSource) = true ∧ lw_tbl[565]? = some (Cond.code yX7_setSource cX7_setSource 7 (some .int)) ∧ goodWord (Cond.code yX7_setSource cX7_setSource 7 (some .int)) = true := by decide +kernel
theorem tx_562 : Cond.methodLink RL 7 yX7_setSource ∈ TB := tb_in 562 TX_7.1 TX_7.2.1
theorem tx_563 : Cond.instanceMethod yX7_setSource ∈ TB := tb_in 563 TX_7.2.2.1 TX_7.2.2.2.1
theorem tx_564 : Cond.selects RX7 yX7_setSource yX7_setSource ∈ TB := tb_in 564 TX_7.2.2.2.2.1 TX_7.2.2.2.2.2.1
theorem tx_565 : Cond.code yX7_setSource cX7_setSource 7 (some .int) ∈ TB := tb_in 565 TX_7.2.2.2.2.2.2.1 TX_7.2.2.2.2.2.2.2
set_option maxRecDepth 100000 in
theorem TX_8 : lw_tbl[670]? = some (Cond.methodLink RL 123 yL_sample) ∧ goodWord (Cond.methodLink RL 123 yL_sample) = true ∧ lw_tbl[671]? = some (Cond.static yL_sample) ∧ goodWord (Cond.static yL_sample) = true ∧ lw_tbl[672]? = some (Cond.codeWith yL_sample cL_sample 5 (some .int) [(0, 10, 13, 13)]) ∧ goodWord (Cond.codeWith yL_sample cL_sample 5 (some .int) [(0, 10, 13, 13)]) = true ∧ lw_tbl[673]? = some (Cond.methodLink RL 17 yX7_sample) ∧ goodWord (Cond.methodLink RL 17 yX7_sample) = true := by decide +kernel
theorem tx_670 : Cond.methodLink RL 123 yL_sample ∈ TB := tb_in 670 TX_8.1 TX_8.2.1
theorem tx_671 : Cond.static yL_sample ∈ TB := tb_in 671 TX_8.2.2.1 TX_8.2.2.2.1
theorem tx_672 : Cond.codeWith yL_sample cL_sample 5 (some .int) [(0, 10, 13, 13)] ∈ TB := tb_in 672 TX_8.2.2.2.2.1 TX_8.2.2.2.2.2.1
theorem tx_673 : Cond.methodLink RL 17 yX7_sample ∈ TB := tb_in 673 TX_8.2.2.2.2.2.2.1 TX_8.2.2.2.2.2.2.2
set_option maxRecDepth 100000 in
theorem TX_9 : lw_tbl[674]? = some (Cond.instanceMethod yX7_sample) ∧ goodWord (Cond.instanceMethod yX7_sample) = true ∧ lw_tbl[675]? = some (Cond.selects RX7 yX7_sample yX7_sample) ∧ goodWord (Cond.selects RX7 yX7_sample yX7_sample) = true ∧ lw_tbl[676]? = some (Cond.code yX7_sample cX7_sample 3 (some .int)) ∧ goodWord (Cond.code yX7_sample cX7_sample 3 (some .int)) = true ∧ lw_tbl[679]? = some (Cond.methodLink RL 127 yL_addClip) ∧ goodWord (Cond.methodLink RL 127 yL_addClip) = true := by decide +kernel
theorem tx_674 : Cond.instanceMethod yX7_sample ∈ TB := tb_in 674 TX_9.1 TX_9.2.1
theorem tx_675 : Cond.selects RX7 yX7_sample yX7_sample ∈ TB := tb_in 675 TX_9.2.2.1 TX_9.2.2.2.1
theorem tx_676 : Cond.code yX7_sample cX7_sample 3 (some .int) ∈ TB := tb_in 676 TX_9.2.2.2.2.1 TX_9.2.2.2.2.2.1
theorem tx_679 : Cond.methodLink RL 127 yL_addClip ∈ TB := tb_in 679 TX_9.2.2.2.2.2.2.1 TX_9.2.2.2.2.2.2.2
set_option maxRecDepth 100000 in
theorem TX_10 : lw_tbl[680]? = some (Cond.static yL_addClip) ∧ goodWord (Cond.static yL_addClip) = true ∧ lw_tbl[681]? = some (Cond.codeWith yL_addClip cL_addClip 9 (some .int) [(0, 18, 21, 15), (0, 18, 25, 25), (0, 18, 29, 27)]) ∧ goodWord (Cond.codeWith yL_addClip cL_addClip 9 (some .int) [(0, 18, 21, 15), (0, 18, 25, 25), (0, 18, 29, 27)]) = true ∧ lw_tbl[682]? = some (Cond.classLink RL 25 "java/lang/IllegalStateException") ∧ goodWord (Cond.classLink RL 25 "java/lang/IllegalStateException") = true ∧ lw_tbl[683]? = some (Cond.classLink RL 27 "java/lang/UnsupportedOperationException") ∧ goodWord (Cond.classLink RL 27 "java/lang/UnsupportedOperationException") = true := by decide +kernel
theorem tx_680 : Cond.static yL_addClip ∈ TB := tb_in 680 TX_10.1 TX_10.2.1
theorem tx_681 : Cond.codeWith yL_addClip cL_addClip 9 (some .int) [(0, 18, 21, 15), (0, 18, 25, 25), (0, 18, 29, 27)] ∈ TB := tb_in 681 TX_10.2.2.1 TX_10.2.2.2.1
theorem tx_682 : Cond.classLink RL 25 "java/lang/IllegalStateException" ∈ TB := tb_in 682 TX_10.2.2.2.2.1 TX_10.2.2.2.2.2.1
theorem tx_683 : Cond.classLink RL 27 "java/lang/UnsupportedOperationException" ∈ TB := tb_in 683 TX_10.2.2.2.2.2.2.1 TX_10.2.2.2.2.2.2.2
set_option maxRecDepth 100000 in
theorem TX_11 : lw_tbl[684]? = some (Cond.methodLink RL 21 yX7_addClip) ∧ goodWord (Cond.methodLink RL 21 yX7_addClip) = true ∧ lw_tbl[685]? = some (Cond.instanceMethod yX7_addClip) ∧ goodWord (Cond.instanceMethod yX7_addClip) = true ∧ lw_tbl[686]? = some (Cond.selects RX7 yX7_addClip yX7_addClip) ∧ goodWord (Cond.selects RX7 yX7_addClip yX7_addClip) = true ∧ lw_tbl[687]? = some (Cond.code yX7_addClip cX7_addClip 9 (some .int)) ∧ goodWord (Cond.code yX7_addClip cX7_addClip 9 (some .int)) = true := by decide +kernel
theorem tx_684 : Cond.methodLink RL 21 yX7_addClip ∈ TB := tb_in 684 TX_11.1 TX_11.2.1
theorem tx_685 : Cond.instanceMethod yX7_addClip ∈ TB := tb_in 685 TX_11.2.2.1 TX_11.2.2.2.1
theorem tx_686 : Cond.selects RX7 yX7_addClip yX7_addClip ∈ TB := tb_in 686 TX_11.2.2.2.2.1 TX_11.2.2.2.2.2.1
theorem tx_687 : Cond.code yX7_addClip cX7_addClip 9 (some .int) ∈ TB := tb_in 687 TX_11.2.2.2.2.2.2.1 TX_11.2.2.2.2.2.2.2
set_option maxRecDepth 100000 in
theorem TX_12 : lw_tbl[751]? = some (Cond.methodLink RL 131 yL_setFades) ∧ goodWord (Cond.methodLink RL 131 yL_setFades) = true ∧ lw_tbl[752]? = some (Cond.static yL_setFades) ∧ goodWord (Cond.static yL_setFades) = true ∧ lw_tbl[753]? = some (Cond.codeWith yL_setFades cL_setFades 7 (some .int) [(0, 14, 17, 13), (0, 14, 21, 15)]) ∧ goodWord (Cond.codeWith yL_setFades cL_setFades 7 (some .int) [(0, 14, 17, 13), (0, 14, 21, 15)]) = true ∧ lw_tbl[754]? = some (Cond.methodLink RL 29 yX7_setFades) ∧ goodWord (Cond.methodLink RL 29 yX7_setFades) = true := by decide +kernel
theorem tx_751 : Cond.methodLink RL 131 yL_setFades ∈ TB := tb_in 751 TX_12.1 TX_12.2.1
theorem tx_752 : Cond.static yL_setFades ∈ TB := tb_in 752 TX_12.2.2.1 TX_12.2.2.2.1
theorem tx_753 : Cond.codeWith yL_setFades cL_setFades 7 (some .int) [(0, 14, 17, 13), (0, 14, 21, 15)] ∈ TB := tb_in 753 TX_12.2.2.2.2.1 TX_12.2.2.2.2.2.1
theorem tx_754 : Cond.methodLink RL 29 yX7_setFades ∈ TB := tb_in 754 TX_12.2.2.2.2.2.2.1 TX_12.2.2.2.2.2.2.2
set_option maxRecDepth 100000 in
theorem TX_13 : lw_tbl[755]? = some (Cond.instanceMethod yX7_setFades) ∧ goodWord (Cond.instanceMethod yX7_setFades) = true ∧ lw_tbl[756]? = some (Cond.selects RX7 yX7_setFades yX7_setFades) ∧ goodWord (Cond.selects RX7 yX7_setFades yX7_setFades) = true ∧ lw_tbl[757]? = some (Cond.code yX7_setFades cX7_setFades 6 (some .int)) ∧ goodWord (Cond.code yX7_setFades cX7_setFades 6 (some .int)) = true ∧ lw_tbl[765]? = some (Cond.methodLink RL 135 yL_moveClip) ∧ goodWord (Cond.methodLink RL 135 yL_moveClip) = true := by decide +kernel
theorem tx_755 : Cond.instanceMethod yX7_setFades ∈ TB := tb_in 755 TX_13.1 TX_13.2.1
theorem tx_756 : Cond.selects RX7 yX7_setFades yX7_setFades ∈ TB := tb_in 756 TX_13.2.2.1 TX_13.2.2.2.1
theorem tx_757 : Cond.code yX7_setFades cX7_setFades 6 (some .int) ∈ TB := tb_in 757 TX_13.2.2.2.2.1 TX_13.2.2.2.2.2.1
theorem tx_765 : Cond.methodLink RL 135 yL_moveClip ∈ TB := tb_in 765 TX_13.2.2.2.2.2.2.1 TX_13.2.2.2.2.2.2.2
set_option maxRecDepth 100000 in
theorem TX_14 : lw_tbl[766]? = some (Cond.static yL_moveClip) ∧ goodWord (Cond.static yL_moveClip) = true ∧ lw_tbl[767]? = some (Cond.codeWith yL_moveClip cL_moveClip 5 (some .int) [(0, 10, 13, 13), (0, 10, 17, 15), (0, 10, 21, 27)]) ∧ goodWord (Cond.codeWith yL_moveClip cL_moveClip 5 (some .int) [(0, 10, 13, 13), (0, 10, 17, 15), (0, 10, 21, 27)]) = true ∧ lw_tbl[768]? = some (Cond.methodLink RL 33 yX7_moveClip) ∧ goodWord (Cond.methodLink RL 33 yX7_moveClip) = true ∧ lw_tbl[769]? = some (Cond.instanceMethod yX7_moveClip) ∧ goodWord (Cond.instanceMethod yX7_moveClip) = true := by decide +kernel
theorem tx_766 : Cond.static yL_moveClip ∈ TB := tb_in 766 TX_14.1 TX_14.2.1
theorem tx_767 : Cond.codeWith yL_moveClip cL_moveClip 5 (some .int) [(0, 10, 13, 13), (0, 10, 17, 15), (0, 10, 21, 27)] ∈ TB := tb_in 767 TX_14.2.2.1 TX_14.2.2.2.1
theorem tx_768 : Cond.methodLink RL 33 yX7_moveClip ∈ TB := tb_in 768 TX_14.2.2.2.2.1 TX_14.2.2.2.2.2.1
theorem tx_769 : Cond.instanceMethod yX7_moveClip ∈ TB := tb_in 769 TX_14.2.2.2.2.2.2.1 TX_14.2.2.2.2.2.2.2
set_option maxRecDepth 100000 in
theorem TX_15 : lw_tbl[770]? = some (Cond.selects RX7 yX7_moveClip yX7_moveClip) ∧ goodWord (Cond.selects RX7 yX7_moveClip yX7_moveClip) = true ∧ lw_tbl[771]? = some (Cond.code yX7_moveClip cX7_moveClip 5 (some .int)) ∧ goodWord (Cond.code yX7_moveClip cX7_moveClip 5 (some .int)) = true ∧ lw_tbl[774]? = some (Cond.methodLink RL 138 yL_trimClip) ∧ goodWord (Cond.methodLink RL 138 yL_trimClip) = true ∧ lw_tbl[775]? = some (Cond.static yL_trimClip) ∧ goodWord (Cond.static yL_trimClip) = true := by decide +kernel
theorem tx_770 : Cond.selects RX7 yX7_moveClip yX7_moveClip ∈ TB := tb_in 770 TX_15.1 TX_15.2.1
theorem tx_771 : Cond.code yX7_moveClip cX7_moveClip 5 (some .int) ∈ TB := tb_in 771 TX_15.2.2.1 TX_15.2.2.2.1
theorem tx_774 : Cond.methodLink RL 138 yL_trimClip ∈ TB := tb_in 774 TX_15.2.2.2.2.1 TX_15.2.2.2.2.2.1
theorem tx_775 : Cond.static yL_trimClip ∈ TB := tb_in 775 TX_15.2.2.2.2.2.2.1 TX_15.2.2.2.2.2.2.2
set_option maxRecDepth 100000 in
theorem TX_16 : lw_tbl[776]? = some (Cond.codeWith yL_trimClip cL_trimClip 6 (some .int) [(0, 12, 15, 13), (0, 12, 19, 15), (0, 12, 23, 27)]) ∧ goodWord (Cond.codeWith yL_trimClip cL_trimClip 6 (some .int) [(0, 12, 15, 13), (0, 12, 19, 15), (0, 12, 23, 27)]) = true ∧ lw_tbl[777]? = some (Cond.methodLink RL 36 yX7_trimClip) ∧ goodWord (Cond.methodLink RL 36 yX7_trimClip) = true ∧ lw_tbl[778]? = some (Cond.instanceMethod yX7_trimClip) ∧ goodWord (Cond.instanceMethod yX7_trimClip) = true ∧ lw_tbl[779]? = some (Cond.selects RX7 yX7_trimClip yX7_trimClip) ∧ goodWord (Cond.selects RX7 yX7_trimClip yX7_trimClip) = true := by decide +kernel
theorem tx_776 : Cond.codeWith yL_trimClip cL_trimClip 6 (some .int) [(0, 12, 15, 13), (0, 12, 19, 15), (0, 12, 23, 27)] ∈ TB := tb_in 776 TX_16.1 TX_16.2.1
theorem tx_777 : Cond.methodLink RL 36 yX7_trimClip ∈ TB := tb_in 777 TX_16.2.2.1 TX_16.2.2.2.1
theorem tx_778 : Cond.instanceMethod yX7_trimClip ∈ TB := tb_in 778 TX_16.2.2.2.2.1 TX_16.2.2.2.2.2.1
theorem tx_779 : Cond.selects RX7 yX7_trimClip yX7_trimClip ∈ TB := tb_in 779 TX_16.2.2.2.2.2.2.1 TX_16.2.2.2.2.2.2.2
set_option maxRecDepth 100000 in
theorem TX_17 : lw_tbl[780]? = some (Cond.code yX7_trimClip cX7_trimClip 6 (some .int)) ∧ goodWord (Cond.code yX7_trimClip cX7_trimClip 6 (some .int)) = true ∧ lw_tbl[787]? = some (Cond.methodLink RL 142 yL_splitClip) ∧ goodWord (Cond.methodLink RL 142 yL_splitClip) = true ∧ lw_tbl[788]? = some (Cond.static yL_splitClip) ∧ goodWord (Cond.static yL_splitClip) = true ∧ lw_tbl[789]? = some (Cond.codeWith yL_splitClip cL_splitClip 5 (some .int) [(0, 10, 13, 13), (0, 10, 17, 15), (0, 10, 21, 25), (0, 10, 25, 27)]) ∧ goodWord (Cond.codeWith yL_splitClip cL_splitClip 5 (some .int) [(0, 10, 13, 13), (0, 10, 17, 15), (0, 10, 21, 25), (0, 10, 25, 27)]) = true := by decide +kernel
theorem tx_780 : Cond.code yX7_trimClip cX7_trimClip 6 (some .int) ∈ TB := tb_in 780 TX_17.1 TX_17.2.1
theorem tx_787 : Cond.methodLink RL 142 yL_splitClip ∈ TB := tb_in 787 TX_17.2.2.1 TX_17.2.2.2.1
theorem tx_788 : Cond.static yL_splitClip ∈ TB := tb_in 788 TX_17.2.2.2.2.1 TX_17.2.2.2.2.2.1
theorem tx_789 : Cond.codeWith yL_splitClip cL_splitClip 5 (some .int) [(0, 10, 13, 13), (0, 10, 17, 15), (0, 10, 21, 25), (0, 10, 25, 27)] ∈ TB := tb_in 789 TX_17.2.2.2.2.2.2.1 TX_17.2.2.2.2.2.2.2
set_option maxRecDepth 100000 in
theorem TX_18 : lw_tbl[790]? = some (Cond.methodLink RL 40 yX7_splitClip) ∧ goodWord (Cond.methodLink RL 40 yX7_splitClip) = true ∧ lw_tbl[791]? = some (Cond.instanceMethod yX7_splitClip) ∧ goodWord (Cond.instanceMethod yX7_splitClip) = true ∧ lw_tbl[792]? = some (Cond.selects RX7 yX7_splitClip yX7_splitClip) ∧ goodWord (Cond.selects RX7 yX7_splitClip yX7_splitClip) = true ∧ lw_tbl[793]? = some (Cond.code yX7_splitClip cX7_splitClip 6 (some .int)) ∧ goodWord (Cond.code yX7_splitClip cX7_splitClip 6 (some .int)) = true := by decide +kernel
theorem tx_790 : Cond.methodLink RL 40 yX7_splitClip ∈ TB := tb_in 790 TX_18.1 TX_18.2.1
theorem tx_791 : Cond.instanceMethod yX7_splitClip ∈ TB := tb_in 791 TX_18.2.2.1 TX_18.2.2.2.1
theorem tx_792 : Cond.selects RX7 yX7_splitClip yX7_splitClip ∈ TB := tb_in 792 TX_18.2.2.2.2.1 TX_18.2.2.2.2.2.1
theorem tx_793 : Cond.code yX7_splitClip cX7_splitClip 6 (some .int) ∈ TB := tb_in 793 TX_18.2.2.2.2.2.2.1 TX_18.2.2.2.2.2.2.2
set_option maxRecDepth 100000 in
theorem TX_19 : lw_tbl[800]? = some (Cond.methodLink RL 145 yL_removeClip) ∧ goodWord (Cond.methodLink RL 145 yL_removeClip) = true ∧ lw_tbl[801]? = some (Cond.static yL_removeClip) ∧ goodWord (Cond.static yL_removeClip) = true ∧ lw_tbl[802]? = some (Cond.codeWith yL_removeClip cL_removeClip 4 (some .int) [(0, 9, 12, 13)]) ∧ goodWord (Cond.codeWith yL_removeClip cL_removeClip 4 (some .int) [(0, 9, 12, 13)]) = true ∧ lw_tbl[803]? = some (Cond.methodLink RL 43 yX7_removeClip) ∧ goodWord (Cond.methodLink RL 43 yX7_removeClip) = true := by decide +kernel
theorem tx_800 : Cond.methodLink RL 145 yL_removeClip ∈ TB := tb_in 800 TX_19.1 TX_19.2.1
theorem tx_801 : Cond.static yL_removeClip ∈ TB := tb_in 801 TX_19.2.2.1 TX_19.2.2.2.1
theorem tx_802 : Cond.codeWith yL_removeClip cL_removeClip 4 (some .int) [(0, 9, 12, 13)] ∈ TB := tb_in 802 TX_19.2.2.2.2.1 TX_19.2.2.2.2.2.1
theorem tx_803 : Cond.methodLink RL 43 yX7_removeClip ∈ TB := tb_in 803 TX_19.2.2.2.2.2.2.1 TX_19.2.2.2.2.2.2.2
set_option maxRecDepth 100000 in
theorem TX_20 : lw_tbl[804]? = some (Cond.instanceMethod yX7_removeClip) ∧ goodWord (Cond.instanceMethod yX7_removeClip) = true ∧ lw_tbl[805]? = some (Cond.selects RX7 yX7_removeClip yX7_removeClip) ∧ goodWord (Cond.selects RX7 yX7_removeClip yX7_removeClip) = true ∧ lw_tbl[806]? = some (Cond.code yX7_removeClip cX7_removeClip 2 (some .int)) ∧ goodWord (Cond.code yX7_removeClip cX7_removeClip 2 (some .int)) = true ∧ lw_tbl[811]? = some (Cond.methodLink RL 149 yL_deleteTime) ∧ goodWord (Cond.methodLink RL 149 yL_deleteTime) = true := by decide +kernel
theorem tx_804 : Cond.instanceMethod yX7_removeClip ∈ TB := tb_in 804 TX_20.1 TX_20.2.1
theorem tx_805 : Cond.selects RX7 yX7_removeClip yX7_removeClip ∈ TB := tb_in 805 TX_20.2.2.1 TX_20.2.2.2.1
theorem tx_806 : Cond.code yX7_removeClip cX7_removeClip 2 (some .int) ∈ TB := tb_in 806 TX_20.2.2.2.2.1 TX_20.2.2.2.2.2.1
theorem tx_811 : Cond.methodLink RL 149 yL_deleteTime ∈ TB := tb_in 811 TX_20.2.2.2.2.2.2.1 TX_20.2.2.2.2.2.2.2
set_option maxRecDepth 100000 in
theorem TX_21 : lw_tbl[812]? = some (Cond.static yL_deleteTime) ∧ goodWord (Cond.static yL_deleteTime) = true ∧ lw_tbl[813]? = some (Cond.codeWith yL_deleteTime cL_deleteTime 6 (some .int) [(0, 12, 15, 13), (0, 12, 19, 15), (0, 12, 23, 27)]) ∧ goodWord (Cond.codeWith yL_deleteTime cL_deleteTime 6 (some .int) [(0, 12, 15, 13), (0, 12, 19, 15), (0, 12, 23, 27)]) = true ∧ lw_tbl[814]? = some (Cond.methodLink RL 47 yX7_deleteTime) ∧ goodWord (Cond.methodLink RL 47 yX7_deleteTime) = true ∧ lw_tbl[815]? = some (Cond.instanceMethod yX7_deleteTime) ∧ goodWord (Cond.instanceMethod yX7_deleteTime) = true := by decide +kernel
theorem tx_812 : Cond.static yL_deleteTime ∈ TB := tb_in 812 TX_21.1 TX_21.2.1
theorem tx_813 : Cond.codeWith yL_deleteTime cL_deleteTime 6 (some .int) [(0, 12, 15, 13), (0, 12, 19, 15), (0, 12, 23, 27)] ∈ TB := tb_in 813 TX_21.2.2.1 TX_21.2.2.2.1
theorem tx_814 : Cond.methodLink RL 47 yX7_deleteTime ∈ TB := tb_in 814 TX_21.2.2.2.2.1 TX_21.2.2.2.2.2.1
theorem tx_815 : Cond.instanceMethod yX7_deleteTime ∈ TB := tb_in 815 TX_21.2.2.2.2.2.2.1 TX_21.2.2.2.2.2.2.2
set_option maxRecDepth 100000 in
theorem TX_22 : lw_tbl[816]? = some (Cond.selects RX7 yX7_deleteTime yX7_deleteTime) ∧ goodWord (Cond.selects RX7 yX7_deleteTime yX7_deleteTime) = true ∧ lw_tbl[817]? = some (Cond.code yX7_deleteTime cX7_deleteTime 6 (some .int)) ∧ goodWord (Cond.code yX7_deleteTime cX7_deleteTime 6 (some .int)) = true ∧ lw_tbl[839]? = some (Cond.methodLink RL 156 yL_clip) ∧ goodWord (Cond.methodLink RL 156 yL_clip) = true ∧ lw_tbl[840]? = some (Cond.static yL_clip) ∧ goodWord (Cond.static yL_clip) = true := by decide +kernel
theorem tx_816 : Cond.selects RX7 yX7_deleteTime yX7_deleteTime ∈ TB := tb_in 816 TX_22.1 TX_22.2.1
theorem tx_817 : Cond.code yX7_deleteTime cX7_deleteTime 6 (some .int) ∈ TB := tb_in 817 TX_22.2.2.1 TX_22.2.2.2.1
theorem tx_839 : Cond.methodLink RL 156 yL_clip ∈ TB := tb_in 839 TX_22.2.2.2.2.1 TX_22.2.2.2.2.2.1
theorem tx_840 : Cond.static yL_clip ∈ TB := tb_in 840 TX_22.2.2.2.2.2.2.1 TX_22.2.2.2.2.2.2.2
set_option maxRecDepth 100000 in
theorem TX_23 : lw_tbl[841]? = some (Cond.codeWith yL_clip cL_clip 5 (some .int) [(0, 10, 13, 13), (0, 10, 17, 15)]) ∧ goodWord (Cond.codeWith yL_clip cL_clip 5 (some .int) [(0, 10, 13, 13), (0, 10, 17, 15)]) = true ∧ lw_tbl[842]? = some (Cond.methodLink RL 50 yX7_clip) ∧ goodWord (Cond.methodLink RL 50 yX7_clip) = true ∧ lw_tbl[843]? = some (Cond.instanceMethod yX7_clip) ∧ goodWord (Cond.instanceMethod yX7_clip) = true ∧ lw_tbl[844]? = some (Cond.selects RX7 yX7_clip yX7_clip) ∧ goodWord (Cond.selects RX7 yX7_clip yX7_clip) = true := by decide +kernel
theorem tx_841 : Cond.codeWith yL_clip cL_clip 5 (some .int) [(0, 10, 13, 13), (0, 10, 17, 15)] ∈ TB := tb_in 841 TX_23.1 TX_23.2.1
theorem tx_842 : Cond.methodLink RL 50 yX7_clip ∈ TB := tb_in 842 TX_23.2.2.1 TX_23.2.2.2.1
theorem tx_843 : Cond.instanceMethod yX7_clip ∈ TB := tb_in 843 TX_23.2.2.2.2.1 TX_23.2.2.2.2.2.1
theorem tx_844 : Cond.selects RX7 yX7_clip yX7_clip ∈ TB := tb_in 844 TX_23.2.2.2.2.2.2.1 TX_23.2.2.2.2.2.2.2
set_option maxRecDepth 100000 in
theorem TX_24 : lw_tbl[845]? = some (Cond.code yX7_clip cX7_clip 3 (some .int)) ∧ goodWord (Cond.code yX7_clip cX7_clip 3 (some .int)) = true ∧ lw_tbl[848]? = some (Cond.methodLink RL 159 yL_clipValue) ∧ goodWord (Cond.methodLink RL 159 yL_clipValue) = true ∧ lw_tbl[849]? = some (Cond.static yL_clipValue) ∧ goodWord (Cond.static yL_clipValue) = true ∧ lw_tbl[850]? = some (Cond.codeWith yL_clipValue cL_clipValue 5 (some .int) [(0, 10, 13, 13), (0, 10, 17, 15)]) ∧ goodWord (Cond.codeWith yL_clipValue cL_clipValue 5 (some .int) [(0, 10, 13, 13), (0, 10, 17, 15)]) = true := by decide +kernel
theorem tx_845 : Cond.code yX7_clip cX7_clip 3 (some .int) ∈ TB := tb_in 845 TX_24.1 TX_24.2.1
theorem tx_848 : Cond.methodLink RL 159 yL_clipValue ∈ TB := tb_in 848 TX_24.2.2.1 TX_24.2.2.2.1
theorem tx_849 : Cond.static yL_clipValue ∈ TB := tb_in 849 TX_24.2.2.2.2.1 TX_24.2.2.2.2.2.1
theorem tx_850 : Cond.codeWith yL_clipValue cL_clipValue 5 (some .int) [(0, 10, 13, 13), (0, 10, 17, 15)] ∈ TB := tb_in 850 TX_24.2.2.2.2.2.2.1 TX_24.2.2.2.2.2.2.2
set_option maxRecDepth 100000 in
theorem TX_25 : lw_tbl[851]? = some (Cond.methodLink RL 53 yX7_clipValue) ∧ goodWord (Cond.methodLink RL 53 yX7_clipValue) = true ∧ lw_tbl[852]? = some (Cond.instanceMethod yX7_clipValue) ∧ goodWord (Cond.instanceMethod yX7_clipValue) = true ∧ lw_tbl[853]? = some (Cond.selects RX7 yX7_clipValue yX7_clipValue) ∧ goodWord (Cond.selects RX7 yX7_clipValue yX7_clipValue) = true ∧ lw_tbl[854]? = some (Cond.code yX7_clipValue cX7_clipValue 3 (some .int)) ∧ goodWord (Cond.code yX7_clipValue cX7_clipValue 3 (some .int)) = true := by decide +kernel
theorem tx_851 : Cond.methodLink RL 53 yX7_clipValue ∈ TB := tb_in 851 TX_25.1 TX_25.2.1
theorem tx_852 : Cond.instanceMethod yX7_clipValue ∈ TB := tb_in 852 TX_25.2.2.1 TX_25.2.2.2.1
theorem tx_853 : Cond.selects RX7 yX7_clipValue yX7_clipValue ∈ TB := tb_in 853 TX_25.2.2.2.2.1 TX_25.2.2.2.2.2.1
theorem tx_854 : Cond.code yX7_clipValue cX7_clipValue 3 (some .int) ∈ TB := tb_in 854 TX_25.2.2.2.2.2.2.1 TX_25.2.2.2.2.2.2.2
set_option maxRecDepth 100000 in
theorem TX_26 : lw_tbl[858]? = some (Cond.methodLink RL 162 yL_setTrack) ∧ goodWord (Cond.methodLink RL 162 yL_setTrack) = true ∧ lw_tbl[859]? = some (Cond.static yL_setTrack) ∧ goodWord (Cond.static yL_setTrack) = true ∧ lw_tbl[860]? = some (Cond.codeWith yL_setTrack cL_setTrack 8 (some .int) [(0, 16, 19, 13), (0, 16, 23, 15)]) ∧ goodWord (Cond.codeWith yL_setTrack cL_setTrack 8 (some .int) [(0, 16, 19, 13), (0, 16, 23, 15)]) = true ∧ lw_tbl[861]? = some (Cond.methodLink RL 56 yX7_setTrack) ∧ goodWord (Cond.methodLink RL 56 yX7_setTrack) = true := by decide +kernel
theorem tx_858 : Cond.methodLink RL 162 yL_setTrack ∈ TB := tb_in 858 TX_26.1 TX_26.2.1
theorem tx_859 : Cond.static yL_setTrack ∈ TB := tb_in 859 TX_26.2.2.1 TX_26.2.2.2.1
theorem tx_860 : Cond.codeWith yL_setTrack cL_setTrack 8 (some .int) [(0, 16, 19, 13), (0, 16, 23, 15)] ∈ TB := tb_in 860 TX_26.2.2.2.2.1 TX_26.2.2.2.2.2.1
theorem tx_861 : Cond.methodLink RL 56 yX7_setTrack ∈ TB := tb_in 861 TX_26.2.2.2.2.2.2.1 TX_26.2.2.2.2.2.2.2
set_option maxRecDepth 100000 in
theorem TX_27 : lw_tbl[862]? = some (Cond.instanceMethod yX7_setTrack) ∧ goodWord (Cond.instanceMethod yX7_setTrack) = true ∧ lw_tbl[863]? = some (Cond.selects RX7 yX7_setTrack yX7_setTrack) ∧ goodWord (Cond.selects RX7 yX7_setTrack yX7_setTrack) = true ∧ lw_tbl[864]? = some (Cond.code yX7_setTrack cX7_setTrack 8 (some .int)) ∧ goodWord (Cond.code yX7_setTrack cX7_setTrack 8 (some .int)) = true ∧ lw_tbl[866]? = some (Cond.methodLink RL 166 yL_setPoint) ∧ goodWord (Cond.methodLink RL 166 yL_setPoint) = true := by decide +kernel
theorem tx_862 : Cond.instanceMethod yX7_setTrack ∈ TB := tb_in 862 TX_27.1 TX_27.2.1
theorem tx_863 : Cond.selects RX7 yX7_setTrack yX7_setTrack ∈ TB := tb_in 863 TX_27.2.2.1 TX_27.2.2.2.1
theorem tx_864 : Cond.code yX7_setTrack cX7_setTrack 8 (some .int) ∈ TB := tb_in 864 TX_27.2.2.2.2.1 TX_27.2.2.2.2.2.1
theorem tx_866 : Cond.methodLink RL 166 yL_setPoint ∈ TB := tb_in 866 TX_27.2.2.2.2.2.2.1 TX_27.2.2.2.2.2.2.2
set_option maxRecDepth 100000 in
theorem TX_28 : lw_tbl[867]? = some (Cond.static yL_setPoint) ∧ goodWord (Cond.static yL_setPoint) = true ∧ lw_tbl[868]? = some (Cond.codeWith yL_setPoint cL_setPoint 7 (some .int) [(0, 14, 17, 13), (0, 14, 21, 15), (0, 14, 25, 25)]) ∧ goodWord (Cond.codeWith yL_setPoint cL_setPoint 7 (some .int) [(0, 14, 17, 13), (0, 14, 21, 15), (0, 14, 25, 25)]) = true ∧ lw_tbl[869]? = some (Cond.methodLink RL 60 yX7_setPoint) ∧ goodWord (Cond.methodLink RL 60 yX7_setPoint) = true ∧ lw_tbl[870]? = some (Cond.instanceMethod yX7_setPoint) ∧ goodWord (Cond.instanceMethod yX7_setPoint) = true := by decide +kernel
theorem tx_867 : Cond.static yL_setPoint ∈ TB := tb_in 867 TX_28.1 TX_28.2.1
theorem tx_868 : Cond.codeWith yL_setPoint cL_setPoint 7 (some .int) [(0, 14, 17, 13), (0, 14, 21, 15), (0, 14, 25, 25)] ∈ TB := tb_in 868 TX_28.2.2.1 TX_28.2.2.2.1
theorem tx_869 : Cond.methodLink RL 60 yX7_setPoint ∈ TB := tb_in 869 TX_28.2.2.2.2.1 TX_28.2.2.2.2.2.1
theorem tx_870 : Cond.instanceMethod yX7_setPoint ∈ TB := tb_in 870 TX_28.2.2.2.2.2.2.1 TX_28.2.2.2.2.2.2.2
set_option maxRecDepth 100000 in
theorem TX_29 : lw_tbl[871]? = some (Cond.selects RX7 yX7_setPoint yX7_setPoint) ∧ goodWord (Cond.selects RX7 yX7_setPoint yX7_setPoint) = true ∧ lw_tbl[872]? = some (Cond.code yX7_setPoint cX7_setPoint 6 (some .int)) ∧ goodWord (Cond.code yX7_setPoint cX7_setPoint 6 (some .int)) = true ∧ lw_tbl[891]? = some (Cond.methodLink RL 170 yL_removePoint) ∧ goodWord (Cond.methodLink RL 170 yL_removePoint) = true ∧ lw_tbl[892]? = some (Cond.static yL_removePoint) ∧ goodWord (Cond.static yL_removePoint) = true := by decide +kernel
theorem tx_871 : Cond.selects RX7 yX7_setPoint yX7_setPoint ∈ TB := tb_in 871 TX_29.1 TX_29.2.1
theorem tx_872 : Cond.code yX7_setPoint cX7_setPoint 6 (some .int) ∈ TB := tb_in 872 TX_29.2.2.1 TX_29.2.2.2.1
theorem tx_891 : Cond.methodLink RL 170 yL_removePoint ∈ TB := tb_in 891 TX_29.2.2.2.2.1 TX_29.2.2.2.2.2.1
theorem tx_892 : Cond.static yL_removePoint ∈ TB := tb_in 892 TX_29.2.2.2.2.2.2.1 TX_29.2.2.2.2.2.2.2
set_option maxRecDepth 100000 in
theorem TX_30 : lw_tbl[893]? = some (Cond.codeWith yL_removePoint cL_removePoint 5 (some .int) [(0, 10, 13, 13), (0, 10, 17, 15)]) ∧ goodWord (Cond.codeWith yL_removePoint cL_removePoint 5 (some .int) [(0, 10, 13, 13), (0, 10, 17, 15)]) = true ∧ lw_tbl[894]? = some (Cond.methodLink RL 64 yX7_removePoint) ∧ goodWord (Cond.methodLink RL 64 yX7_removePoint) = true ∧ lw_tbl[895]? = some (Cond.instanceMethod yX7_removePoint) ∧ goodWord (Cond.instanceMethod yX7_removePoint) = true ∧ lw_tbl[896]? = some (Cond.selects RX7 yX7_removePoint yX7_removePoint) ∧ goodWord (Cond.selects RX7 yX7_removePoint yX7_removePoint) = true := by decide +kernel
theorem tx_893 : Cond.codeWith yL_removePoint cL_removePoint 5 (some .int) [(0, 10, 13, 13), (0, 10, 17, 15)] ∈ TB := tb_in 893 TX_30.1 TX_30.2.1
theorem tx_894 : Cond.methodLink RL 64 yX7_removePoint ∈ TB := tb_in 894 TX_30.2.2.1 TX_30.2.2.2.1
theorem tx_895 : Cond.instanceMethod yX7_removePoint ∈ TB := tb_in 895 TX_30.2.2.2.2.1 TX_30.2.2.2.2.2.1
theorem tx_896 : Cond.selects RX7 yX7_removePoint yX7_removePoint ∈ TB := tb_in 896 TX_30.2.2.2.2.2.2.1 TX_30.2.2.2.2.2.2.2
set_option maxRecDepth 100000 in
theorem TX_31 : lw_tbl[897]? = some (Cond.code yX7_removePoint cX7_removePoint 4 (some .int)) ∧ goodWord (Cond.code yX7_removePoint cX7_removePoint 4 (some .int)) = true ∧ lw_tbl[903]? = some (Cond.methodLink RL 173 yL_automation) ∧ goodWord (Cond.methodLink RL 173 yL_automation) = true ∧ lw_tbl[904]? = some (Cond.static yL_automation) ∧ goodWord (Cond.static yL_automation) = true ∧ lw_tbl[905]? = some (Cond.codeWith yL_automation cL_automation 5 (some .int) [(0, 10, 13, 13), (0, 10, 17, 15)]) ∧ goodWord (Cond.codeWith yL_automation cL_automation 5 (some .int) [(0, 10, 13, 13), (0, 10, 17, 15)]) = true := by decide +kernel
theorem tx_897 : Cond.code yX7_removePoint cX7_removePoint 4 (some .int) ∈ TB := tb_in 897 TX_31.1 TX_31.2.1
theorem tx_903 : Cond.methodLink RL 173 yL_automation ∈ TB := tb_in 903 TX_31.2.2.1 TX_31.2.2.2.1
theorem tx_904 : Cond.static yL_automation ∈ TB := tb_in 904 TX_31.2.2.2.2.1 TX_31.2.2.2.2.2.1
theorem tx_905 : Cond.codeWith yL_automation cL_automation 5 (some .int) [(0, 10, 13, 13), (0, 10, 17, 15)] ∈ TB := tb_in 905 TX_31.2.2.2.2.2.2.1 TX_31.2.2.2.2.2.2.2
set_option maxRecDepth 100000 in
theorem TX_32 : lw_tbl[906]? = some (Cond.methodLink RL 67 yX7_automation) ∧ goodWord (Cond.methodLink RL 67 yX7_automation) = true ∧ lw_tbl[907]? = some (Cond.instanceMethod yX7_automation) ∧ goodWord (Cond.instanceMethod yX7_automation) = true ∧ lw_tbl[908]? = some (Cond.selects RX7 yX7_automation yX7_automation) ∧ goodWord (Cond.selects RX7 yX7_automation yX7_automation) = true ∧ lw_tbl[909]? = some (Cond.code yX7_automation cX7_automation 3 (some .int)) ∧ goodWord (Cond.code yX7_automation cX7_automation 3 (some .int)) = true := by decide +kernel
theorem tx_906 : Cond.methodLink RL 67 yX7_automation ∈ TB := tb_in 906 TX_32.1 TX_32.2.1
theorem tx_907 : Cond.instanceMethod yX7_automation ∈ TB := tb_in 907 TX_32.2.2.1 TX_32.2.2.2.1
theorem tx_908 : Cond.selects RX7 yX7_automation yX7_automation ∈ TB := tb_in 908 TX_32.2.2.2.2.1 TX_32.2.2.2.2.2.1
theorem tx_909 : Cond.code yX7_automation cX7_automation 3 (some .int) ∈ TB := tb_in 909 TX_32.2.2.2.2.2.2.1 TX_32.2.2.2.2.2.2.2
set_option maxRecDepth 100000 in
theorem TX_33 : lw_tbl[911]? = some (Cond.methodLink RL 176 yL_duck) ∧ goodWord (Cond.methodLink RL 176 yL_duck) = true ∧ lw_tbl[912]? = some (Cond.static yL_duck) ∧ goodWord (Cond.static yL_duck) = true ∧ lw_tbl[913]? = some (Cond.codeWith yL_duck cL_duck 9 (some .int) [(0, 18, 21, 13), (0, 18, 25, 15), (0, 18, 29, 25)]) ∧ goodWord (Cond.codeWith yL_duck cL_duck 9 (some .int) [(0, 18, 21, 13), (0, 18, 25, 15), (0, 18, 29, 25)]) = true ∧ lw_tbl[914]? = some (Cond.methodLink RL 70 yX7_duck) ∧ goodWord (Cond.methodLink RL 70 yX7_duck) = true := by decide +kernel
theorem tx_911 : Cond.methodLink RL 176 yL_duck ∈ TB := tb_in 911 TX_33.1 TX_33.2.1
theorem tx_912 : Cond.static yL_duck ∈ TB := tb_in 912 TX_33.2.2.1 TX_33.2.2.2.1
theorem tx_913 : Cond.codeWith yL_duck cL_duck 9 (some .int) [(0, 18, 21, 13), (0, 18, 25, 15), (0, 18, 29, 25)] ∈ TB := tb_in 913 TX_33.2.2.2.2.1 TX_33.2.2.2.2.2.1
theorem tx_914 : Cond.methodLink RL 70 yX7_duck ∈ TB := tb_in 914 TX_33.2.2.2.2.2.2.1 TX_33.2.2.2.2.2.2.2
set_option maxRecDepth 100000 in
theorem TX_34 : lw_tbl[915]? = some (Cond.instanceMethod yX7_duck) ∧ goodWord (Cond.instanceMethod yX7_duck) = true ∧ lw_tbl[916]? = some (Cond.selects RX7 yX7_duck yX7_duck) ∧ goodWord (Cond.selects RX7 yX7_duck yX7_duck) = true ∧ lw_tbl[917]? = some (Cond.code yX7_duck cX7_duck 9 (some .int)) ∧ goodWord (Cond.code yX7_duck cX7_duck 9 (some .int)) = true ∧ lw_tbl[924]? = some (Cond.methodLink RL 179 yL_endDuck) ∧ goodWord (Cond.methodLink RL 179 yL_endDuck) = true := by decide +kernel
theorem tx_915 : Cond.instanceMethod yX7_duck ∈ TB := tb_in 915 TX_34.1 TX_34.2.1
theorem tx_916 : Cond.selects RX7 yX7_duck yX7_duck ∈ TB := tb_in 916 TX_34.2.2.1 TX_34.2.2.2.1
theorem tx_917 : Cond.code yX7_duck cX7_duck 9 (some .int) ∈ TB := tb_in 917 TX_34.2.2.2.2.1 TX_34.2.2.2.2.2.1
theorem tx_924 : Cond.methodLink RL 179 yL_endDuck ∈ TB := tb_in 924 TX_34.2.2.2.2.2.2.1 TX_34.2.2.2.2.2.2.2
set_option maxRecDepth 100000 in
theorem TX_35 : lw_tbl[925]? = some (Cond.static yL_endDuck) ∧ goodWord (Cond.static yL_endDuck) = true ∧ lw_tbl[926]? = some (Cond.codeWith yL_endDuck cL_endDuck 4 (some .int) [(0, 9, 12, 13)]) ∧ goodWord (Cond.codeWith yL_endDuck cL_endDuck 4 (some .int) [(0, 9, 12, 13)]) = true ∧ lw_tbl[927]? = some (Cond.methodLink RL 73 yX7_endDuck) ∧ goodWord (Cond.methodLink RL 73 yX7_endDuck) = true ∧ lw_tbl[928]? = some (Cond.instanceMethod yX7_endDuck) ∧ goodWord (Cond.instanceMethod yX7_endDuck) = true := by decide +kernel
theorem tx_925 : Cond.static yL_endDuck ∈ TB := tb_in 925 TX_35.1 TX_35.2.1
theorem tx_926 : Cond.codeWith yL_endDuck cL_endDuck 4 (some .int) [(0, 9, 12, 13)] ∈ TB := tb_in 926 TX_35.2.2.1 TX_35.2.2.2.1
theorem tx_927 : Cond.methodLink RL 73 yX7_endDuck ∈ TB := tb_in 927 TX_35.2.2.2.2.1 TX_35.2.2.2.2.2.1
theorem tx_928 : Cond.instanceMethod yX7_endDuck ∈ TB := tb_in 928 TX_35.2.2.2.2.2.2.1 TX_35.2.2.2.2.2.2.2
set_option maxRecDepth 100000 in
theorem TX_36 : lw_tbl[929]? = some (Cond.selects RX7 yX7_endDuck yX7_endDuck) ∧ goodWord (Cond.selects RX7 yX7_endDuck yX7_endDuck) = true ∧ lw_tbl[930]? = some (Cond.code yX7_endDuck cX7_endDuck 3 (some .int)) ∧ goodWord (Cond.code yX7_endDuck cX7_endDuck 3 (some .int)) = true ∧ lw_tbl[931]? = some (Cond.methodLink RL 182 yL_duckGain) ∧ goodWord (Cond.methodLink RL 182 yL_duckGain) = true ∧ lw_tbl[932]? = some (Cond.static yL_duckGain) ∧ goodWord (Cond.static yL_duckGain) = true := by decide +kernel
theorem tx_929 : Cond.selects RX7 yX7_endDuck yX7_endDuck ∈ TB := tb_in 929 TX_36.1 TX_36.2.1
theorem tx_930 : Cond.code yX7_endDuck cX7_endDuck 3 (some .int) ∈ TB := tb_in 930 TX_36.2.2.1 TX_36.2.2.2.1
theorem tx_931 : Cond.methodLink RL 182 yL_duckGain ∈ TB := tb_in 931 TX_36.2.2.2.2.1 TX_36.2.2.2.2.2.1
theorem tx_932 : Cond.static yL_duckGain ∈ TB := tb_in 932 TX_36.2.2.2.2.2.2.1 TX_36.2.2.2.2.2.2.2
set_option maxRecDepth 100000 in
theorem TX_37 : lw_tbl[933]? = some (Cond.codeWith yL_duckGain cL_duckGain 5 (some .int) [(0, 10, 13, 13), (0, 10, 17, 15)]) ∧ goodWord (Cond.codeWith yL_duckGain cL_duckGain 5 (some .int) [(0, 10, 13, 13), (0, 10, 17, 15)]) = true ∧ lw_tbl[934]? = some (Cond.methodLink RL 76 yX7_duckGain) ∧ goodWord (Cond.methodLink RL 76 yX7_duckGain) = true ∧ lw_tbl[935]? = some (Cond.instanceMethod yX7_duckGain) ∧ goodWord (Cond.instanceMethod yX7_duckGain) = true ∧ lw_tbl[936]? = some (Cond.selects RX7 yX7_duckGain yX7_duckGain) ∧ goodWord (Cond.selects RX7 yX7_duckGain yX7_duckGain) = true := by decide +kernel
theorem tx_933 : Cond.codeWith yL_duckGain cL_duckGain 5 (some .int) [(0, 10, 13, 13), (0, 10, 17, 15)] ∈ TB := tb_in 933 TX_37.1 TX_37.2.1
theorem tx_934 : Cond.methodLink RL 76 yX7_duckGain ∈ TB := tb_in 934 TX_37.2.2.1 TX_37.2.2.2.1
theorem tx_935 : Cond.instanceMethod yX7_duckGain ∈ TB := tb_in 935 TX_37.2.2.2.2.1 TX_37.2.2.2.2.2.1
theorem tx_936 : Cond.selects RX7 yX7_duckGain yX7_duckGain ∈ TB := tb_in 936 TX_37.2.2.2.2.2.2.1 TX_37.2.2.2.2.2.2.2
set_option maxRecDepth 100000 in
theorem TX_38 : lw_tbl[937]? = some (Cond.code yX7_duckGain cX7_duckGain 3 (some .int)) ∧ goodWord (Cond.code yX7_duckGain cX7_duckGain 3 (some .int)) = true ∧ lw_tbl[938]? = some (Cond.methodLink RL 185 yL_trackValue) ∧ goodWord (Cond.methodLink RL 185 yL_trackValue) = true ∧ lw_tbl[939]? = some (Cond.static yL_trackValue) ∧ goodWord (Cond.static yL_trackValue) = true ∧ lw_tbl[940]? = some (Cond.codeWith yL_trackValue cL_trackValue 5 (some .int) [(0, 10, 13, 13), (0, 10, 17, 15)]) ∧ goodWord (Cond.codeWith yL_trackValue cL_trackValue 5 (some .int) [(0, 10, 13, 13), (0, 10, 17, 15)]) = true := by decide +kernel
theorem tx_937 : Cond.code yX7_duckGain cX7_duckGain 3 (some .int) ∈ TB := tb_in 937 TX_38.1 TX_38.2.1
theorem tx_938 : Cond.methodLink RL 185 yL_trackValue ∈ TB := tb_in 938 TX_38.2.2.1 TX_38.2.2.2.1
theorem tx_939 : Cond.static yL_trackValue ∈ TB := tb_in 939 TX_38.2.2.2.2.1 TX_38.2.2.2.2.2.1
theorem tx_940 : Cond.codeWith yL_trackValue cL_trackValue 5 (some .int) [(0, 10, 13, 13), (0, 10, 17, 15)] ∈ TB := tb_in 940 TX_38.2.2.2.2.2.2.1 TX_38.2.2.2.2.2.2.2
set_option maxRecDepth 100000 in
theorem TX_39 : lw_tbl[941]? = some (Cond.methodLink RL 79 yX7_trackValue) ∧ goodWord (Cond.methodLink RL 79 yX7_trackValue) = true ∧ lw_tbl[942]? = some (Cond.instanceMethod yX7_trackValue) ∧ goodWord (Cond.instanceMethod yX7_trackValue) = true ∧ lw_tbl[943]? = some (Cond.selects RX7 yX7_trackValue yX7_trackValue) ∧ goodWord (Cond.selects RX7 yX7_trackValue yX7_trackValue) = true ∧ lw_tbl[944]? = some (Cond.code yX7_trackValue cX7_trackValue 3 (some .int)) ∧ goodWord (Cond.code yX7_trackValue cX7_trackValue 3 (some .int)) = true := by decide +kernel
theorem tx_941 : Cond.methodLink RL 79 yX7_trackValue ∈ TB := tb_in 941 TX_39.1 TX_39.2.1
theorem tx_942 : Cond.instanceMethod yX7_trackValue ∈ TB := tb_in 942 TX_39.2.2.1 TX_39.2.2.2.1
theorem tx_943 : Cond.selects RX7 yX7_trackValue yX7_trackValue ∈ TB := tb_in 943 TX_39.2.2.2.2.1 TX_39.2.2.2.2.2.1
theorem tx_944 : Cond.code yX7_trackValue cX7_trackValue 3 (some .int) ∈ TB := tb_in 944 TX_39.2.2.2.2.2.2.1 TX_39.2.2.2.2.2.2.2
set_option maxRecDepth 100000 in
theorem TX_40 : lw_tbl[945]? = some (Cond.methodLink RL 188 yL_isAudible) ∧ goodWord (Cond.methodLink RL 188 yL_isAudible) = true ∧ lw_tbl[946]? = some (Cond.static yL_isAudible) ∧ goodWord (Cond.static yL_isAudible) = true ∧ lw_tbl[947]? = some (Cond.codeWith yL_isAudible cL_isAudible 4 (some .int) [(0, 16, 19, 13)]) ∧ goodWord (Cond.codeWith yL_isAudible cL_isAudible 4 (some .int) [(0, 16, 19, 13)]) = true ∧ lw_tbl[948]? = some (Cond.methodLink RL 82 yX7_isAudible) ∧ goodWord (Cond.methodLink RL 82 yX7_isAudible) = true := by decide +kernel
theorem tx_945 : Cond.methodLink RL 188 yL_isAudible ∈ TB := tb_in 945 TX_40.1 TX_40.2.1
theorem tx_946 : Cond.static yL_isAudible ∈ TB := tb_in 946 TX_40.2.2.1 TX_40.2.2.2.1
theorem tx_947 : Cond.codeWith yL_isAudible cL_isAudible 4 (some .int) [(0, 16, 19, 13)] ∈ TB := tb_in 947 TX_40.2.2.2.2.1 TX_40.2.2.2.2.2.1
theorem tx_948 : Cond.methodLink RL 82 yX7_isAudible ∈ TB := tb_in 948 TX_40.2.2.2.2.2.2.1 TX_40.2.2.2.2.2.2.2
set_option maxRecDepth 100000 in
theorem TX_41 : lw_tbl[949]? = some (Cond.instanceMethod yX7_isAudible) ∧ goodWord (Cond.instanceMethod yX7_isAudible) = true ∧ lw_tbl[950]? = some (Cond.selects RX7 yX7_isAudible yX7_isAudible) ∧ goodWord (Cond.selects RX7 yX7_isAudible yX7_isAudible) = true ∧ lw_tbl[951]? = some (Cond.code yX7_isAudible cX7_isAudible 2 (some .boolean)) ∧ goodWord (Cond.code yX7_isAudible cX7_isAudible 2 (some .boolean)) = true ∧ lw_tbl[952]? = some (Cond.methodLink RL 191 yL_setMaster) ∧ goodWord (Cond.methodLink RL 191 yL_setMaster) = true := by decide +kernel
theorem tx_949 : Cond.instanceMethod yX7_isAudible ∈ TB := tb_in 949 TX_41.1 TX_41.2.1
theorem tx_950 : Cond.selects RX7 yX7_isAudible yX7_isAudible ∈ TB := tb_in 950 TX_41.2.2.1 TX_41.2.2.2.1
theorem tx_951 : Cond.code yX7_isAudible cX7_isAudible 2 (some .boolean) ∈ TB := tb_in 951 TX_41.2.2.2.2.1 TX_41.2.2.2.2.2.1
theorem tx_952 : Cond.methodLink RL 191 yL_setMaster ∈ TB := tb_in 952 TX_41.2.2.2.2.2.2.1 TX_41.2.2.2.2.2.2.2
set_option maxRecDepth 100000 in
theorem TX_42 : lw_tbl[953]? = some (Cond.static yL_setMaster) ∧ goodWord (Cond.static yL_setMaster) = true ∧ lw_tbl[954]? = some (Cond.codeWith yL_setMaster cL_setMaster 4 (some .int) [(0, 9, 12, 15)]) ∧ goodWord (Cond.codeWith yL_setMaster cL_setMaster 4 (some .int) [(0, 9, 12, 15)]) = true ∧ lw_tbl[955]? = some (Cond.methodLink RL 86 yX7_setMaster) ∧ goodWord (Cond.methodLink RL 86 yX7_setMaster) = true ∧ lw_tbl[956]? = some (Cond.instanceMethod yX7_setMaster) ∧ goodWord (Cond.instanceMethod yX7_setMaster) = true := by decide +kernel
theorem tx_953 : Cond.static yL_setMaster ∈ TB := tb_in 953 TX_42.1 TX_42.2.1
theorem tx_954 : Cond.codeWith yL_setMaster cL_setMaster 4 (some .int) [(0, 9, 12, 15)] ∈ TB := tb_in 954 TX_42.2.2.1 TX_42.2.2.2.1
theorem tx_955 : Cond.methodLink RL 86 yX7_setMaster ∈ TB := tb_in 955 TX_42.2.2.2.2.1 TX_42.2.2.2.2.2.1
theorem tx_956 : Cond.instanceMethod yX7_setMaster ∈ TB := tb_in 956 TX_42.2.2.2.2.2.2.1 TX_42.2.2.2.2.2.2.2
set_option maxRecDepth 100000 in
theorem TX_43 : lw_tbl[957]? = some (Cond.selects RX7 yX7_setMaster yX7_setMaster) ∧ goodWord (Cond.selects RX7 yX7_setMaster yX7_setMaster) = true ∧ lw_tbl[958]? = some (Cond.code yX7_setMaster cX7_setMaster 3 (some .int)) ∧ goodWord (Cond.code yX7_setMaster cX7_setMaster 3 (some .int)) = true ∧ lw_tbl[960]? = some (Cond.methodLink RL 194 yL_mix) ∧ goodWord (Cond.methodLink RL 194 yL_mix) = true ∧ lw_tbl[961]? = some (Cond.static yL_mix) ∧ goodWord (Cond.static yL_mix) = true := by decide +kernel
theorem tx_957 : Cond.selects RX7 yX7_setMaster yX7_setMaster ∈ TB := tb_in 957 TX_43.1 TX_43.2.1
theorem tx_958 : Cond.code yX7_setMaster cX7_setMaster 3 (some .int) ∈ TB := tb_in 958 TX_43.2.2.1 TX_43.2.2.2.1
theorem tx_960 : Cond.methodLink RL 194 yL_mix ∈ TB := tb_in 960 TX_43.2.2.2.2.1 TX_43.2.2.2.2.2.1
theorem tx_961 : Cond.static yL_mix ∈ TB := tb_in 961 TX_43.2.2.2.2.2.2.1 TX_43.2.2.2.2.2.2.2
set_option maxRecDepth 100000 in
theorem TX_44 : lw_tbl[962]? = some (Cond.codeWith yL_mix cL_mix 5 (some .int) [(0, 10, 13, 15)]) ∧ goodWord (Cond.codeWith yL_mix cL_mix 5 (some .int) [(0, 10, 13, 15)]) = true ∧ lw_tbl[963]? = some (Cond.methodLink RL 89 yX7_mix) ∧ goodWord (Cond.methodLink RL 89 yX7_mix) = true ∧ lw_tbl[964]? = some (Cond.instanceMethod yX7_mix) ∧ goodWord (Cond.instanceMethod yX7_mix) = true ∧ lw_tbl[965]? = some (Cond.selects RX7 yX7_mix yX7_mix) ∧ goodWord (Cond.selects RX7 yX7_mix yX7_mix) = true := by decide +kernel
theorem tx_962 : Cond.codeWith yL_mix cL_mix 5 (some .int) [(0, 10, 13, 15)] ∈ TB := tb_in 962 TX_44.1 TX_44.2.1
theorem tx_963 : Cond.methodLink RL 89 yX7_mix ∈ TB := tb_in 963 TX_44.2.2.1 TX_44.2.2.2.1
theorem tx_964 : Cond.instanceMethod yX7_mix ∈ TB := tb_in 964 TX_44.2.2.2.2.1 TX_44.2.2.2.2.2.1
theorem tx_965 : Cond.selects RX7 yX7_mix yX7_mix ∈ TB := tb_in 965 TX_44.2.2.2.2.2.2.1 TX_44.2.2.2.2.2.2.2
set_option maxRecDepth 100000 in
theorem TX_45 : lw_tbl[966]? = some (Cond.code yX7_mix cX7_mix 3 (some .int)) ∧ goodWord (Cond.code yX7_mix cX7_mix 3 (some .int)) = true ∧ lw_tbl[967]? = some (Cond.methodLink RL 198 yL_setLoop) ∧ goodWord (Cond.methodLink RL 198 yL_setLoop) = true ∧ lw_tbl[968]? = some (Cond.static yL_setLoop) ∧ goodWord (Cond.static yL_setLoop) = true ∧ lw_tbl[969]? = some (Cond.codeWith yL_setLoop cL_setLoop 5 (some .int) [(0, 10, 13, 15)]) ∧ goodWord (Cond.codeWith yL_setLoop cL_setLoop 5 (some .int) [(0, 10, 13, 15)]) = true := by decide +kernel
theorem tx_966 : Cond.code yX7_mix cX7_mix 3 (some .int) ∈ TB := tb_in 966 TX_45.1 TX_45.2.1
theorem tx_967 : Cond.methodLink RL 198 yL_setLoop ∈ TB := tb_in 967 TX_45.2.2.1 TX_45.2.2.2.1
theorem tx_968 : Cond.static yL_setLoop ∈ TB := tb_in 968 TX_45.2.2.2.2.1 TX_45.2.2.2.2.2.1
theorem tx_969 : Cond.codeWith yL_setLoop cL_setLoop 5 (some .int) [(0, 10, 13, 15)] ∈ TB := tb_in 969 TX_45.2.2.2.2.2.2.1 TX_45.2.2.2.2.2.2.2
set_option maxRecDepth 100000 in
theorem TX_46 : lw_tbl[970]? = some (Cond.methodLink RL 93 yX7_setLoop) ∧ goodWord (Cond.methodLink RL 93 yX7_setLoop) = true ∧ lw_tbl[971]? = some (Cond.instanceMethod yX7_setLoop) ∧ goodWord (Cond.instanceMethod yX7_setLoop) = true ∧ lw_tbl[972]? = some (Cond.selects RX7 yX7_setLoop yX7_setLoop) ∧ goodWord (Cond.selects RX7 yX7_setLoop yX7_setLoop) = true ∧ lw_tbl[973]? = some (Cond.code yX7_setLoop cX7_setLoop 5 (some .int)) ∧ goodWord (Cond.code yX7_setLoop cX7_setLoop 5 (some .int)) = true := by decide +kernel
theorem tx_970 : Cond.methodLink RL 93 yX7_setLoop ∈ TB := tb_in 970 TX_46.1 TX_46.2.1
theorem tx_971 : Cond.instanceMethod yX7_setLoop ∈ TB := tb_in 971 TX_46.2.2.1 TX_46.2.2.2.1
theorem tx_972 : Cond.selects RX7 yX7_setLoop yX7_setLoop ∈ TB := tb_in 972 TX_46.2.2.2.2.1 TX_46.2.2.2.2.2.1
theorem tx_973 : Cond.code yX7_setLoop cX7_setLoop 5 (some .int) ∈ TB := tb_in 973 TX_46.2.2.2.2.2.2.1 TX_46.2.2.2.2.2.2.2
set_option maxRecDepth 100000 in
theorem TX_47 : lw_tbl[974]? = some (Cond.methodLink RL 201 yL_seek) ∧ goodWord (Cond.methodLink RL 201 yL_seek) = true ∧ lw_tbl[975]? = some (Cond.static yL_seek) ∧ goodWord (Cond.static yL_seek) = true ∧ lw_tbl[976]? = some (Cond.codeWith yL_seek cL_seek 4 (some .int) [(0, 9, 12, 15)]) ∧ goodWord (Cond.codeWith yL_seek cL_seek 4 (some .int) [(0, 9, 12, 15)]) = true ∧ lw_tbl[977]? = some (Cond.methodLink RL 96 yX7_seek) ∧ goodWord (Cond.methodLink RL 96 yX7_seek) = true := by decide +kernel
theorem tx_974 : Cond.methodLink RL 201 yL_seek ∈ TB := tb_in 974 TX_47.1 TX_47.2.1
theorem tx_975 : Cond.static yL_seek ∈ TB := tb_in 975 TX_47.2.2.1 TX_47.2.2.2.1
theorem tx_976 : Cond.codeWith yL_seek cL_seek 4 (some .int) [(0, 9, 12, 15)] ∈ TB := tb_in 976 TX_47.2.2.2.2.1 TX_47.2.2.2.2.2.1
theorem tx_977 : Cond.methodLink RL 96 yX7_seek ∈ TB := tb_in 977 TX_47.2.2.2.2.2.2.1 TX_47.2.2.2.2.2.2.2
set_option maxRecDepth 100000 in
theorem TX_48 : lw_tbl[978]? = some (Cond.instanceMethod yX7_seek) ∧ goodWord (Cond.instanceMethod yX7_seek) = true ∧ lw_tbl[979]? = some (Cond.selects RX7 yX7_seek yX7_seek) ∧ goodWord (Cond.selects RX7 yX7_seek yX7_seek) = true ∧ lw_tbl[980]? = some (Cond.code yX7_seek cX7_seek 3 (some .int)) ∧ goodWord (Cond.code yX7_seek cX7_seek 3 (some .int)) = true ∧ lw_tbl[981]? = some (Cond.methodLink RL 204 yL_render) ∧ goodWord (Cond.methodLink RL 204 yL_render) = true := by decide +kernel
theorem tx_978 : Cond.instanceMethod yX7_seek ∈ TB := tb_in 978 TX_48.1 TX_48.2.1
theorem tx_979 : Cond.selects RX7 yX7_seek yX7_seek ∈ TB := tb_in 979 TX_48.2.2.1 TX_48.2.2.2.1
theorem tx_980 : Cond.code yX7_seek cX7_seek 3 (some .int) ∈ TB := tb_in 980 TX_48.2.2.2.2.1 TX_48.2.2.2.2.2.1
theorem tx_981 : Cond.methodLink RL 204 yL_render ∈ TB := tb_in 981 TX_48.2.2.2.2.2.2.1 TX_48.2.2.2.2.2.2.2
set_option maxRecDepth 100000 in
theorem TX_49 : lw_tbl[982]? = some (Cond.static yL_render) ∧ goodWord (Cond.static yL_render) = true ∧ lw_tbl[983]? = some (Cond.codeWith yL_render cL_render 4 (some .int) [(0, 9, 12, 15)]) ∧ goodWord (Cond.codeWith yL_render cL_render 4 (some .int) [(0, 9, 12, 15)]) = true ∧ lw_tbl[984]? = some (Cond.methodLink RL 99 yX7_render) ∧ goodWord (Cond.methodLink RL 99 yX7_render) = true ∧ lw_tbl[985]? = some (Cond.instanceMethod yX7_render) ∧ goodWord (Cond.instanceMethod yX7_render) = true := by decide +kernel
theorem tx_982 : Cond.static yL_render ∈ TB := tb_in 982 TX_49.1 TX_49.2.1
theorem tx_983 : Cond.codeWith yL_render cL_render 4 (some .int) [(0, 9, 12, 15)] ∈ TB := tb_in 983 TX_49.2.2.1 TX_49.2.2.2.1
theorem tx_984 : Cond.methodLink RL 99 yX7_render ∈ TB := tb_in 984 TX_49.2.2.2.2.1 TX_49.2.2.2.2.2.1
theorem tx_985 : Cond.instanceMethod yX7_render ∈ TB := tb_in 985 TX_49.2.2.2.2.2.2.1 TX_49.2.2.2.2.2.2.2
set_option maxRecDepth 100000 in
theorem TX_50 : lw_tbl[986]? = some (Cond.selects RX7 yX7_render yX7_render) ∧ goodWord (Cond.selects RX7 yX7_render yX7_render) = true ∧ lw_tbl[987]? = some (Cond.code yX7_render cX7_render 4 (some .int)) ∧ goodWord (Cond.code yX7_render cX7_render 4 (some .int)) = true ∧ lw_tbl[1002]? = some (Cond.methodLink RL 207 yL_meter) ∧ goodWord (Cond.methodLink RL 207 yL_meter) = true ∧ lw_tbl[1003]? = some (Cond.static yL_meter) ∧ goodWord (Cond.static yL_meter) = true := by decide +kernel
theorem tx_986 : Cond.selects RX7 yX7_render yX7_render ∈ TB := tb_in 986 TX_50.1 TX_50.2.1
theorem tx_987 : Cond.code yX7_render cX7_render 4 (some .int) ∈ TB := tb_in 987 TX_50.2.2.1 TX_50.2.2.2.1
theorem tx_1002 : Cond.methodLink RL 207 yL_meter ∈ TB := tb_in 1002 TX_50.2.2.2.2.1 TX_50.2.2.2.2.2.1
theorem tx_1003 : Cond.static yL_meter ∈ TB := tb_in 1003 TX_50.2.2.2.2.2.2.1 TX_50.2.2.2.2.2.2.2
set_option maxRecDepth 100000 in
theorem TX_51 : lw_tbl[1004]? = some (Cond.codeWith yL_meter cL_meter 4 (some .int) [(0, 8, 11, 15)]) ∧ goodWord (Cond.codeWith yL_meter cL_meter 4 (some .int) [(0, 8, 11, 15)]) = true ∧ lw_tbl[1005]? = some (Cond.methodLink RL 102 yX7_meter) ∧ goodWord (Cond.methodLink RL 102 yX7_meter) = true ∧ lw_tbl[1006]? = some (Cond.instanceMethod yX7_meter) ∧ goodWord (Cond.instanceMethod yX7_meter) = true ∧ lw_tbl[1007]? = some (Cond.selects RX7 yX7_meter yX7_meter) ∧ goodWord (Cond.selects RX7 yX7_meter yX7_meter) = true := by decide +kernel
theorem tx_1004 : Cond.codeWith yL_meter cL_meter 4 (some .int) [(0, 8, 11, 15)] ∈ TB := tb_in 1004 TX_51.1 TX_51.2.1
theorem tx_1005 : Cond.methodLink RL 102 yX7_meter ∈ TB := tb_in 1005 TX_51.2.2.1 TX_51.2.2.2.1
theorem tx_1006 : Cond.instanceMethod yX7_meter ∈ TB := tb_in 1006 TX_51.2.2.2.2.1 TX_51.2.2.2.2.2.1
theorem tx_1007 : Cond.selects RX7 yX7_meter yX7_meter ∈ TB := tb_in 1007 TX_51.2.2.2.2.2.2.1 TX_51.2.2.2.2.2.2.2
set_option maxRecDepth 100000 in
theorem TX_52 : lw_tbl[1008]? = some (Cond.code yX7_meter cX7_meter 2 (some .long)) ∧ goodWord (Cond.code yX7_meter cX7_meter 2 (some .long)) = true ∧ lw_tbl[1011]? = some (Cond.methodLink RL 219 yL_undo) ∧ goodWord (Cond.methodLink RL 219 yL_undo) = true ∧ lw_tbl[1012]? = some (Cond.static yL_undo) ∧ goodWord (Cond.static yL_undo) = true ∧ lw_tbl[1013]? = some (Cond.codeWith yL_undo cL_undo 3 (some .int) [(0, 8, 11, 25)]) ∧ goodWord (Cond.codeWith yL_undo cL_undo 3 (some .int) [(0, 8, 11, 25)]) = true := by decide +kernel
theorem tx_1008 : Cond.code yX7_meter cX7_meter 2 (some .long) ∈ TB := tb_in 1008 TX_52.1 TX_52.2.1
theorem tx_1011 : Cond.methodLink RL 219 yL_undo ∈ TB := tb_in 1011 TX_52.2.2.1 TX_52.2.2.2.1
theorem tx_1012 : Cond.static yL_undo ∈ TB := tb_in 1012 TX_52.2.2.2.2.1 TX_52.2.2.2.2.2.1
theorem tx_1013 : Cond.codeWith yL_undo cL_undo 3 (some .int) [(0, 8, 11, 25)] ∈ TB := tb_in 1013 TX_52.2.2.2.2.2.2.1 TX_52.2.2.2.2.2.2.2
set_option maxRecDepth 100000 in
theorem TX_53 : lw_tbl[1014]? = some (Cond.methodLink RL 106 yX7_undo) ∧ goodWord (Cond.methodLink RL 106 yX7_undo) = true ∧ lw_tbl[1015]? = some (Cond.instanceMethod yX7_undo) ∧ goodWord (Cond.instanceMethod yX7_undo) = true ∧ lw_tbl[1016]? = some (Cond.selects RX7 yX7_undo yX7_undo) ∧ goodWord (Cond.selects RX7 yX7_undo yX7_undo) = true ∧ lw_tbl[1017]? = some (Cond.code yX7_undo cX7_undo 2 (some .int)) ∧ goodWord (Cond.code yX7_undo cX7_undo 2 (some .int)) = true := by decide +kernel
theorem tx_1014 : Cond.methodLink RL 106 yX7_undo ∈ TB := tb_in 1014 TX_53.1 TX_53.2.1
theorem tx_1015 : Cond.instanceMethod yX7_undo ∈ TB := tb_in 1015 TX_53.2.2.1 TX_53.2.2.2.1
theorem tx_1016 : Cond.selects RX7 yX7_undo yX7_undo ∈ TB := tb_in 1016 TX_53.2.2.2.2.1 TX_53.2.2.2.2.2.1
theorem tx_1017 : Cond.code yX7_undo cX7_undo 2 (some .int) ∈ TB := tb_in 1017 TX_53.2.2.2.2.2.2.1 TX_53.2.2.2.2.2.2.2
set_option maxRecDepth 100000 in
theorem TX_54 : lw_tbl[1019]? = some (Cond.classLink RL 111 RX8) ∧ goodWord (Cond.classLink RL 111 RX8) = true ∧ lw_tbl[1021]? = some (Cond.methodLink RL 113 yX8_init) ∧ goodWord (Cond.methodLink RL 113 yX8_init) = true ∧ lw_tbl[1022]? = some (Cond.instanceMethod yX8_init) ∧ goodWord (Cond.instanceMethod yX8_init) = true ∧ lw_tbl[1023]? = some (Cond.code yX8_init cX8_init 2 none) ∧ goodWord (Cond.code yX8_init cX8_init 2 none) = true := by decide +kernel
theorem tx_1019 : Cond.classLink RL 111 RX8 ∈ TB := tb_in 1019 TX_54.1 TX_54.2.1
theorem tx_1021 : Cond.methodLink RL 113 yX8_init ∈ TB := tb_in 1021 TX_54.2.2.1 TX_54.2.2.2.1
theorem tx_1022 : Cond.instanceMethod yX8_init ∈ TB := tb_in 1022 TX_54.2.2.2.2.1 TX_54.2.2.2.2.2.1
theorem tx_1023 : Cond.code yX8_init cX8_init 2 none ∈ TB := tb_in 1023 TX_54.2.2.2.2.2.2.1 TX_54.2.2.2.2.2.2.2
set_option maxRecDepth 100000 in
theorem TX_55 : lw_tbl[1073]? = some (Cond.methodLink RL 120 yX8_thrown) ∧ goodWord (Cond.methodLink RL 120 yX8_thrown) = true ∧ lw_tbl[1074]? = some (Cond.instanceMethod yX8_thrown) ∧ goodWord (Cond.instanceMethod yX8_thrown) = true ∧ lw_tbl[1075]? = some (Cond.selects RX8 yX8_thrown yX8_thrown) ∧ goodWord (Cond.selects RX8 yX8_thrown yX8_thrown) = true ∧ lw_tbl[1076]? = some (Cond.code yX8_thrown cX8_thrown 1 (some .int)) ∧ goodWord (Cond.code yX8_thrown cX8_thrown 1 (some .int)) = true := by decide +kernel
theorem tx_1073 : Cond.methodLink RL 120 yX8_thrown ∈ TB := tb_in 1073 TX_55.1 TX_55.2.1
theorem tx_1074 : Cond.instanceMethod yX8_thrown ∈ TB := tb_in 1074 TX_55.2.2.1 TX_55.2.2.2.1
theorem tx_1075 : Cond.selects RX8 yX8_thrown yX8_thrown ∈ TB := tb_in 1075 TX_55.2.2.2.2.1 TX_55.2.2.2.2.2.1
theorem tx_1076 : Cond.code yX8_thrown cX8_thrown 1 (some .int) ∈ TB := tb_in 1076 TX_55.2.2.2.2.2.2.1 TX_55.2.2.2.2.2.2.2
set_option maxRecDepth 100000 in
theorem TX_56 : lw_tbl[1077]? = some (Cond.methodLink RL 119 yX8_setSource) ∧ goodWord (Cond.methodLink RL 119 yX8_setSource) = true ∧ lw_tbl[1078]? = some (Cond.instanceMethod yX8_setSource) ∧ goodWord (Cond.instanceMethod yX8_setSource) = true ∧ lw_tbl[1079]? = some (Cond.selects RX8 yX8_setSource yX8_setSource) ∧ goodWord (Cond.selects RX8 yX8_setSource yX8_setSource) = true ∧ lw_tbl[1080]? = some (Cond.code yX8_setSource cX8_setSource 8 (some .int)) ∧ goodWord (Cond.code yX8_setSource cX8_setSource 8 (some .int)) = true := by decide +kernel
theorem tx_1077 : Cond.methodLink RL 119 yX8_setSource ∈ TB := tb_in 1077 TX_56.1 TX_56.2.1
theorem tx_1078 : Cond.instanceMethod yX8_setSource ∈ TB := tb_in 1078 TX_56.2.2.1 TX_56.2.2.2.1
theorem tx_1079 : Cond.selects RX8 yX8_setSource yX8_setSource ∈ TB := tb_in 1079 TX_56.2.2.2.2.1 TX_56.2.2.2.2.2.1
theorem tx_1080 : Cond.code yX8_setSource cX8_setSource 8 (some .int) ∈ TB := tb_in 1080 TX_56.2.2.2.2.2.2.1 TX_56.2.2.2.2.2.2.2
set_option maxRecDepth 100000 in
theorem TX_57 : lw_tbl[1104]? = some (Cond.methodLink RL 126 yX8_sample) ∧ goodWord (Cond.methodLink RL 126 yX8_sample) = true ∧ lw_tbl[1105]? = some (Cond.instanceMethod yX8_sample) ∧ goodWord (Cond.instanceMethod yX8_sample) = true ∧ lw_tbl[1106]? = some (Cond.selects RX8 yX8_sample yX8_sample) ∧ goodWord (Cond.selects RX8 yX8_sample yX8_sample) = true ∧ lw_tbl[1107]? = some (Cond.code yX8_sample cX8_sample 3 (some .int)) ∧ goodWord (Cond.code yX8_sample cX8_sample 3 (some .int)) = true := by decide +kernel
theorem tx_1104 : Cond.methodLink RL 126 yX8_sample ∈ TB := tb_in 1104 TX_57.1 TX_57.2.1
theorem tx_1105 : Cond.instanceMethod yX8_sample ∈ TB := tb_in 1105 TX_57.2.2.1 TX_57.2.2.2.1
theorem tx_1106 : Cond.selects RX8 yX8_sample yX8_sample ∈ TB := tb_in 1106 TX_57.2.2.2.2.1 TX_57.2.2.2.2.2.1
theorem tx_1107 : Cond.code yX8_sample cX8_sample 3 (some .int) ∈ TB := tb_in 1107 TX_57.2.2.2.2.2.2.1 TX_57.2.2.2.2.2.2.2
set_option maxRecDepth 100000 in
theorem TX_58 : lw_tbl[1120]? = some (Cond.methodLink RL 130 yX8_addClip) ∧ goodWord (Cond.methodLink RL 130 yX8_addClip) = true ∧ lw_tbl[1121]? = some (Cond.instanceMethod yX8_addClip) ∧ goodWord (Cond.instanceMethod yX8_addClip) = true ∧ lw_tbl[1122]? = some (Cond.selects RX8 yX8_addClip yX8_addClip) ∧ goodWord (Cond.selects RX8 yX8_addClip yX8_addClip) = true ∧ lw_tbl[1123]? = some (Cond.code yX8_addClip cX8_addClip 9 (some .int)) ∧ goodWord (Cond.code yX8_addClip cX8_addClip 9 (some .int)) = true := by decide +kernel
theorem tx_1120 : Cond.methodLink RL 130 yX8_addClip ∈ TB := tb_in 1120 TX_58.1 TX_58.2.1
theorem tx_1121 : Cond.instanceMethod yX8_addClip ∈ TB := tb_in 1121 TX_58.2.2.1 TX_58.2.2.2.1
theorem tx_1122 : Cond.selects RX8 yX8_addClip yX8_addClip ∈ TB := tb_in 1122 TX_58.2.2.2.2.1 TX_58.2.2.2.2.2.1
theorem tx_1123 : Cond.code yX8_addClip cX8_addClip 9 (some .int) ∈ TB := tb_in 1123 TX_58.2.2.2.2.2.2.1 TX_58.2.2.2.2.2.2.2
set_option maxRecDepth 100000 in
theorem TX_59 : lw_tbl[1168]? = some (Cond.methodLink RL 134 yX8_setFades) ∧ goodWord (Cond.methodLink RL 134 yX8_setFades) = true ∧ lw_tbl[1169]? = some (Cond.instanceMethod yX8_setFades) ∧ goodWord (Cond.instanceMethod yX8_setFades) = true ∧ lw_tbl[1170]? = some (Cond.selects RX8 yX8_setFades yX8_setFades) ∧ goodWord (Cond.selects RX8 yX8_setFades yX8_setFades) = true ∧ lw_tbl[1171]? = some (Cond.code yX8_setFades cX8_setFades 7 (some .int)) ∧ goodWord (Cond.code yX8_setFades cX8_setFades 7 (some .int)) = true := by decide +kernel
theorem tx_1168 : Cond.methodLink RL 134 yX8_setFades ∈ TB := tb_in 1168 TX_59.1 TX_59.2.1
theorem tx_1169 : Cond.instanceMethod yX8_setFades ∈ TB := tb_in 1169 TX_59.2.2.1 TX_59.2.2.2.1
theorem tx_1170 : Cond.selects RX8 yX8_setFades yX8_setFades ∈ TB := tb_in 1170 TX_59.2.2.2.2.1 TX_59.2.2.2.2.2.1
theorem tx_1171 : Cond.code yX8_setFades cX8_setFades 7 (some .int) ∈ TB := tb_in 1171 TX_59.2.2.2.2.2.2.1 TX_59.2.2.2.2.2.2.2
set_option maxRecDepth 100000 in
theorem TX_60 : lw_tbl[1176]? = some (Cond.methodLink RL 137 yX8_moveClip) ∧ goodWord (Cond.methodLink RL 137 yX8_moveClip) = true ∧ lw_tbl[1177]? = some (Cond.instanceMethod yX8_moveClip) ∧ goodWord (Cond.instanceMethod yX8_moveClip) = true ∧ lw_tbl[1178]? = some (Cond.selects RX8 yX8_moveClip yX8_moveClip) ∧ goodWord (Cond.selects RX8 yX8_moveClip yX8_moveClip) = true ∧ lw_tbl[1179]? = some (Cond.code yX8_moveClip cX8_moveClip 5 (some .int)) ∧ goodWord (Cond.code yX8_moveClip cX8_moveClip 5 (some .int)) = true := by decide +kernel
theorem tx_1176 : Cond.methodLink RL 137 yX8_moveClip ∈ TB := tb_in 1176 TX_60.1 TX_60.2.1
theorem tx_1177 : Cond.instanceMethod yX8_moveClip ∈ TB := tb_in 1177 TX_60.2.2.1 TX_60.2.2.2.1
theorem tx_1178 : Cond.selects RX8 yX8_moveClip yX8_moveClip ∈ TB := tb_in 1178 TX_60.2.2.2.2.1 TX_60.2.2.2.2.2.1
theorem tx_1179 : Cond.code yX8_moveClip cX8_moveClip 5 (some .int) ∈ TB := tb_in 1179 TX_60.2.2.2.2.2.2.1 TX_60.2.2.2.2.2.2.2
set_option maxRecDepth 100000 in
theorem TX_61 : lw_tbl[1180]? = some (Cond.methodLink RL 141 yX8_trimClip) ∧ goodWord (Cond.methodLink RL 141 yX8_trimClip) = true ∧ lw_tbl[1181]? = some (Cond.instanceMethod yX8_trimClip) ∧ goodWord (Cond.instanceMethod yX8_trimClip) = true ∧ lw_tbl[1182]? = some (Cond.selects RX8 yX8_trimClip yX8_trimClip) ∧ goodWord (Cond.selects RX8 yX8_trimClip yX8_trimClip) = true ∧ lw_tbl[1183]? = some (Cond.code yX8_trimClip cX8_trimClip 7 (some .int)) ∧ goodWord (Cond.code yX8_trimClip cX8_trimClip 7 (some .int)) = true := by decide +kernel
theorem tx_1180 : Cond.methodLink RL 141 yX8_trimClip ∈ TB := tb_in 1180 TX_61.1 TX_61.2.1
theorem tx_1181 : Cond.instanceMethod yX8_trimClip ∈ TB := tb_in 1181 TX_61.2.2.1 TX_61.2.2.2.1
theorem tx_1182 : Cond.selects RX8 yX8_trimClip yX8_trimClip ∈ TB := tb_in 1182 TX_61.2.2.2.2.1 TX_61.2.2.2.2.2.1
theorem tx_1183 : Cond.code yX8_trimClip cX8_trimClip 7 (some .int) ∈ TB := tb_in 1183 TX_61.2.2.2.2.2.2.1 TX_61.2.2.2.2.2.2.2
set_option maxRecDepth 100000 in
theorem TX_62 : lw_tbl[1192]? = some (Cond.methodLink RL 144 yX8_splitClip) ∧ goodWord (Cond.methodLink RL 144 yX8_splitClip) = true ∧ lw_tbl[1193]? = some (Cond.instanceMethod yX8_splitClip) ∧ goodWord (Cond.instanceMethod yX8_splitClip) = true ∧ lw_tbl[1194]? = some (Cond.selects RX8 yX8_splitClip yX8_splitClip) ∧ goodWord (Cond.selects RX8 yX8_splitClip yX8_splitClip) = true ∧ lw_tbl[1195]? = some (Cond.code yX8_splitClip cX8_splitClip 7 (some .int)) ∧ goodWord (Cond.code yX8_splitClip cX8_splitClip 7 (some .int)) = true := by decide +kernel
theorem tx_1192 : Cond.methodLink RL 144 yX8_splitClip ∈ TB := tb_in 1192 TX_62.1 TX_62.2.1
theorem tx_1193 : Cond.instanceMethod yX8_splitClip ∈ TB := tb_in 1193 TX_62.2.2.1 TX_62.2.2.2.1
theorem tx_1194 : Cond.selects RX8 yX8_splitClip yX8_splitClip ∈ TB := tb_in 1194 TX_62.2.2.2.2.1 TX_62.2.2.2.2.2.1
theorem tx_1195 : Cond.code yX8_splitClip cX8_splitClip 7 (some .int) ∈ TB := tb_in 1195 TX_62.2.2.2.2.2.2.1 TX_62.2.2.2.2.2.2.2
set_option maxRecDepth 100000 in
theorem TX_63 : lw_tbl[1196]? = some (Cond.methodLink RL 148 yX8_removeClip) ∧ goodWord (Cond.methodLink RL 148 yX8_removeClip) = true ∧ lw_tbl[1197]? = some (Cond.instanceMethod yX8_removeClip) ∧ goodWord (Cond.instanceMethod yX8_removeClip) = true ∧ lw_tbl[1198]? = some (Cond.selects RX8 yX8_removeClip yX8_removeClip) ∧ goodWord (Cond.selects RX8 yX8_removeClip yX8_removeClip) = true ∧ lw_tbl[1199]? = some (Cond.code yX8_removeClip cX8_removeClip 2 (some .int)) ∧ goodWord (Cond.code yX8_removeClip cX8_removeClip 2 (some .int)) = true := by decide +kernel
theorem tx_1196 : Cond.methodLink RL 148 yX8_removeClip ∈ TB := tb_in 1196 TX_63.1 TX_63.2.1
theorem tx_1197 : Cond.instanceMethod yX8_removeClip ∈ TB := tb_in 1197 TX_63.2.2.1 TX_63.2.2.2.1
theorem tx_1198 : Cond.selects RX8 yX8_removeClip yX8_removeClip ∈ TB := tb_in 1198 TX_63.2.2.2.2.1 TX_63.2.2.2.2.2.1
theorem tx_1199 : Cond.code yX8_removeClip cX8_removeClip 2 (some .int) ∈ TB := tb_in 1199 TX_63.2.2.2.2.2.2.1 TX_63.2.2.2.2.2.2.2
set_option maxRecDepth 100000 in
theorem TX_64 : lw_tbl[1204]? = some (Cond.methodLink RL 151 yX8_deleteTime) ∧ goodWord (Cond.methodLink RL 151 yX8_deleteTime) = true ∧ lw_tbl[1205]? = some (Cond.instanceMethod yX8_deleteTime) ∧ goodWord (Cond.instanceMethod yX8_deleteTime) = true ∧ lw_tbl[1206]? = some (Cond.selects RX8 yX8_deleteTime yX8_deleteTime) ∧ goodWord (Cond.selects RX8 yX8_deleteTime yX8_deleteTime) = true ∧ lw_tbl[1207]? = some (Cond.code yX8_deleteTime cX8_deleteTime 8 (some .int)) ∧ goodWord (Cond.code yX8_deleteTime cX8_deleteTime 8 (some .int)) = true := by decide +kernel
theorem tx_1204 : Cond.methodLink RL 151 yX8_deleteTime ∈ TB := tb_in 1204 TX_64.1 TX_64.2.1
theorem tx_1205 : Cond.instanceMethod yX8_deleteTime ∈ TB := tb_in 1205 TX_64.2.2.1 TX_64.2.2.2.1
theorem tx_1206 : Cond.selects RX8 yX8_deleteTime yX8_deleteTime ∈ TB := tb_in 1206 TX_64.2.2.2.2.1 TX_64.2.2.2.2.2.1
theorem tx_1207 : Cond.code yX8_deleteTime cX8_deleteTime 8 (some .int) ∈ TB := tb_in 1207 TX_64.2.2.2.2.2.2.1 TX_64.2.2.2.2.2.2.2
set_option maxRecDepth 100000 in
theorem TX_65 : lw_tbl[1216]? = some (Cond.methodLink RL 155 yX8_clips) ∧ goodWord (Cond.methodLink RL 155 yX8_clips) = true ∧ lw_tbl[1217]? = some (Cond.instanceMethod yX8_clips) ∧ goodWord (Cond.instanceMethod yX8_clips) = true ∧ lw_tbl[1218]? = some (Cond.selects RX8 yX8_clips yX8_clips) ∧ goodWord (Cond.selects RX8 yX8_clips yX8_clips) = true ∧ lw_tbl[1219]? = some (Cond.code yX8_clips cX8_clips 1 (some .int)) ∧ goodWord (Cond.code yX8_clips cX8_clips 1 (some .int)) = true := by decide +kernel
theorem tx_1216 : Cond.methodLink RL 155 yX8_clips ∈ TB := tb_in 1216 TX_65.1 TX_65.2.1
theorem tx_1217 : Cond.instanceMethod yX8_clips ∈ TB := tb_in 1217 TX_65.2.2.1 TX_65.2.2.2.1
theorem tx_1218 : Cond.selects RX8 yX8_clips yX8_clips ∈ TB := tb_in 1218 TX_65.2.2.2.2.1 TX_65.2.2.2.2.2.1
theorem tx_1219 : Cond.code yX8_clips cX8_clips 1 (some .int) ∈ TB := tb_in 1219 TX_65.2.2.2.2.2.2.1 TX_65.2.2.2.2.2.2.2
set_option maxRecDepth 100000 in
theorem TX_66 : lw_tbl[1220]? = some (Cond.methodLink RL 158 yX8_clip) ∧ goodWord (Cond.methodLink RL 158 yX8_clip) = true ∧ lw_tbl[1221]? = some (Cond.instanceMethod yX8_clip) ∧ goodWord (Cond.instanceMethod yX8_clip) = true ∧ lw_tbl[1222]? = some (Cond.selects RX8 yX8_clip yX8_clip) ∧ goodWord (Cond.selects RX8 yX8_clip yX8_clip) = true ∧ lw_tbl[1223]? = some (Cond.code yX8_clip cX8_clip 3 (some .int)) ∧ goodWord (Cond.code yX8_clip cX8_clip 3 (some .int)) = true := by decide +kernel
theorem tx_1220 : Cond.methodLink RL 158 yX8_clip ∈ TB := tb_in 1220 TX_66.1 TX_66.2.1
theorem tx_1221 : Cond.instanceMethod yX8_clip ∈ TB := tb_in 1221 TX_66.2.2.1 TX_66.2.2.2.1
theorem tx_1222 : Cond.selects RX8 yX8_clip yX8_clip ∈ TB := tb_in 1222 TX_66.2.2.2.2.1 TX_66.2.2.2.2.2.1
theorem tx_1223 : Cond.code yX8_clip cX8_clip 3 (some .int) ∈ TB := tb_in 1223 TX_66.2.2.2.2.2.2.1 TX_66.2.2.2.2.2.2.2
set_option maxRecDepth 100000 in
theorem TX_67 : lw_tbl[1229]? = some (Cond.methodLink RL 161 yX8_clipValue) ∧ goodWord (Cond.methodLink RL 161 yX8_clipValue) = true ∧ lw_tbl[1230]? = some (Cond.instanceMethod yX8_clipValue) ∧ goodWord (Cond.instanceMethod yX8_clipValue) = true ∧ lw_tbl[1231]? = some (Cond.selects RX8 yX8_clipValue yX8_clipValue) ∧ goodWord (Cond.selects RX8 yX8_clipValue yX8_clipValue) = true ∧ lw_tbl[1232]? = some (Cond.code yX8_clipValue cX8_clipValue 3 (some .int)) ∧ goodWord (Cond.code yX8_clipValue cX8_clipValue 3 (some .int)) = true := by decide +kernel
theorem tx_1229 : Cond.methodLink RL 161 yX8_clipValue ∈ TB := tb_in 1229 TX_67.1 TX_67.2.1
theorem tx_1230 : Cond.instanceMethod yX8_clipValue ∈ TB := tb_in 1230 TX_67.2.2.1 TX_67.2.2.2.1
theorem tx_1231 : Cond.selects RX8 yX8_clipValue yX8_clipValue ∈ TB := tb_in 1231 TX_67.2.2.2.2.1 TX_67.2.2.2.2.2.1
theorem tx_1232 : Cond.code yX8_clipValue cX8_clipValue 3 (some .int) ∈ TB := tb_in 1232 TX_67.2.2.2.2.2.2.1 TX_67.2.2.2.2.2.2.2
set_option maxRecDepth 100000 in
theorem TX_68 : lw_tbl[1254]? = some (Cond.methodLink RL 165 yX8_setTrack) ∧ goodWord (Cond.methodLink RL 165 yX8_setTrack) = true ∧ lw_tbl[1255]? = some (Cond.instanceMethod yX8_setTrack) ∧ goodWord (Cond.instanceMethod yX8_setTrack) = true ∧ lw_tbl[1256]? = some (Cond.selects RX8 yX8_setTrack yX8_setTrack) ∧ goodWord (Cond.selects RX8 yX8_setTrack yX8_setTrack) = true ∧ lw_tbl[1257]? = some (Cond.code yX8_setTrack cX8_setTrack 8 (some .int)) ∧ goodWord (Cond.code yX8_setTrack cX8_setTrack 8 (some .int)) = true := by decide +kernel
theorem tx_1254 : Cond.methodLink RL 165 yX8_setTrack ∈ TB := tb_in 1254 TX_68.1 TX_68.2.1
theorem tx_1255 : Cond.instanceMethod yX8_setTrack ∈ TB := tb_in 1255 TX_68.2.2.1 TX_68.2.2.2.1
theorem tx_1256 : Cond.selects RX8 yX8_setTrack yX8_setTrack ∈ TB := tb_in 1256 TX_68.2.2.2.2.1 TX_68.2.2.2.2.2.1
theorem tx_1257 : Cond.code yX8_setTrack cX8_setTrack 8 (some .int) ∈ TB := tb_in 1257 TX_68.2.2.2.2.2.2.1 TX_68.2.2.2.2.2.2.2
set_option maxRecDepth 100000 in
theorem TX_69 : lw_tbl[1260]? = some (Cond.methodLink RL 169 yX8_setPoint) ∧ goodWord (Cond.methodLink RL 169 yX8_setPoint) = true ∧ lw_tbl[1261]? = some (Cond.instanceMethod yX8_setPoint) ∧ goodWord (Cond.instanceMethod yX8_setPoint) = true ∧ lw_tbl[1262]? = some (Cond.selects RX8 yX8_setPoint yX8_setPoint) ∧ goodWord (Cond.selects RX8 yX8_setPoint yX8_setPoint) = true ∧ lw_tbl[1263]? = some (Cond.code yX8_setPoint cX8_setPoint 11 (some .int)) ∧ goodWord (Cond.code yX8_setPoint cX8_setPoint 11 (some .int)) = true := by decide +kernel
theorem tx_1260 : Cond.methodLink RL 169 yX8_setPoint ∈ TB := tb_in 1260 TX_69.1 TX_69.2.1
theorem tx_1261 : Cond.instanceMethod yX8_setPoint ∈ TB := tb_in 1261 TX_69.2.2.1 TX_69.2.2.2.1
theorem tx_1262 : Cond.selects RX8 yX8_setPoint yX8_setPoint ∈ TB := tb_in 1262 TX_69.2.2.2.2.1 TX_69.2.2.2.2.2.1
theorem tx_1263 : Cond.code yX8_setPoint cX8_setPoint 11 (some .int) ∈ TB := tb_in 1263 TX_69.2.2.2.2.2.2.1 TX_69.2.2.2.2.2.2.2
set_option maxRecDepth 100000 in
theorem TX_70 : lw_tbl[1272]? = some (Cond.methodLink RL 172 yX8_removePoint) ∧ goodWord (Cond.methodLink RL 172 yX8_removePoint) = true ∧ lw_tbl[1273]? = some (Cond.instanceMethod yX8_removePoint) ∧ goodWord (Cond.instanceMethod yX8_removePoint) = true ∧ lw_tbl[1274]? = some (Cond.selects RX8 yX8_removePoint yX8_removePoint) ∧ goodWord (Cond.selects RX8 yX8_removePoint yX8_removePoint) = true ∧ lw_tbl[1275]? = some (Cond.code yX8_removePoint cX8_removePoint 5 (some .int)) ∧ goodWord (Cond.code yX8_removePoint cX8_removePoint 5 (some .int)) = true := by decide +kernel
theorem tx_1272 : Cond.methodLink RL 172 yX8_removePoint ∈ TB := tb_in 1272 TX_70.1 TX_70.2.1
theorem tx_1273 : Cond.instanceMethod yX8_removePoint ∈ TB := tb_in 1273 TX_70.2.2.1 TX_70.2.2.2.1
theorem tx_1274 : Cond.selects RX8 yX8_removePoint yX8_removePoint ∈ TB := tb_in 1274 TX_70.2.2.2.2.1 TX_70.2.2.2.2.2.1
theorem tx_1275 : Cond.code yX8_removePoint cX8_removePoint 5 (some .int) ∈ TB := tb_in 1275 TX_70.2.2.2.2.2.2.1 TX_70.2.2.2.2.2.2.2
set_option maxRecDepth 100000 in
theorem TX_71 : lw_tbl[1276]? = some (Cond.methodLink RL 175 yX8_automation) ∧ goodWord (Cond.methodLink RL 175 yX8_automation) = true ∧ lw_tbl[1277]? = some (Cond.instanceMethod yX8_automation) ∧ goodWord (Cond.instanceMethod yX8_automation) = true ∧ lw_tbl[1278]? = some (Cond.selects RX8 yX8_automation yX8_automation) ∧ goodWord (Cond.selects RX8 yX8_automation yX8_automation) = true ∧ lw_tbl[1279]? = some (Cond.code yX8_automation cX8_automation 3 (some .int)) ∧ goodWord (Cond.code yX8_automation cX8_automation 3 (some .int)) = true := by decide +kernel
theorem tx_1276 : Cond.methodLink RL 175 yX8_automation ∈ TB := tb_in 1276 TX_71.1 TX_71.2.1
theorem tx_1277 : Cond.instanceMethod yX8_automation ∈ TB := tb_in 1277 TX_71.2.2.1 TX_71.2.2.2.1
theorem tx_1278 : Cond.selects RX8 yX8_automation yX8_automation ∈ TB := tb_in 1278 TX_71.2.2.2.2.1 TX_71.2.2.2.2.2.1
theorem tx_1279 : Cond.code yX8_automation cX8_automation 3 (some .int) ∈ TB := tb_in 1279 TX_71.2.2.2.2.2.2.1 TX_71.2.2.2.2.2.2.2
set_option maxRecDepth 100000 in
theorem TX_72 : lw_tbl[1284]? = some (Cond.methodLink RL 178 yX8_duck) ∧ goodWord (Cond.methodLink RL 178 yX8_duck) = true ∧ lw_tbl[1285]? = some (Cond.instanceMethod yX8_duck) ∧ goodWord (Cond.instanceMethod yX8_duck) = true ∧ lw_tbl[1286]? = some (Cond.selects RX8 yX8_duck yX8_duck) ∧ goodWord (Cond.selects RX8 yX8_duck yX8_duck) = true ∧ lw_tbl[1287]? = some (Cond.code yX8_duck cX8_duck 11 (some .int)) ∧ goodWord (Cond.code yX8_duck cX8_duck 11 (some .int)) = true := by decide +kernel
theorem tx_1284 : Cond.methodLink RL 178 yX8_duck ∈ TB := tb_in 1284 TX_72.1 TX_72.2.1
theorem tx_1285 : Cond.instanceMethod yX8_duck ∈ TB := tb_in 1285 TX_72.2.2.1 TX_72.2.2.2.1
theorem tx_1286 : Cond.selects RX8 yX8_duck yX8_duck ∈ TB := tb_in 1286 TX_72.2.2.2.2.1 TX_72.2.2.2.2.2.1
theorem tx_1287 : Cond.code yX8_duck cX8_duck 11 (some .int) ∈ TB := tb_in 1287 TX_72.2.2.2.2.2.2.1 TX_72.2.2.2.2.2.2.2
set_option maxRecDepth 100000 in
theorem TX_73 : lw_tbl[1293]? = some (Cond.methodLink RL 181 yX8_endDuck) ∧ goodWord (Cond.methodLink RL 181 yX8_endDuck) = true ∧ lw_tbl[1294]? = some (Cond.instanceMethod yX8_endDuck) ∧ goodWord (Cond.instanceMethod yX8_endDuck) = true ∧ lw_tbl[1295]? = some (Cond.selects RX8 yX8_endDuck yX8_endDuck) ∧ goodWord (Cond.selects RX8 yX8_endDuck yX8_endDuck) = true ∧ lw_tbl[1296]? = some (Cond.code yX8_endDuck cX8_endDuck 2 (some .int)) ∧ goodWord (Cond.code yX8_endDuck cX8_endDuck 2 (some .int)) = true := by decide +kernel
theorem tx_1293 : Cond.methodLink RL 181 yX8_endDuck ∈ TB := tb_in 1293 TX_73.1 TX_73.2.1
theorem tx_1294 : Cond.instanceMethod yX8_endDuck ∈ TB := tb_in 1294 TX_73.2.2.1 TX_73.2.2.2.1
theorem tx_1295 : Cond.selects RX8 yX8_endDuck yX8_endDuck ∈ TB := tb_in 1295 TX_73.2.2.2.2.1 TX_73.2.2.2.2.2.1
theorem tx_1296 : Cond.code yX8_endDuck cX8_endDuck 2 (some .int) ∈ TB := tb_in 1296 TX_73.2.2.2.2.2.2.1 TX_73.2.2.2.2.2.2.2
set_option maxRecDepth 100000 in
theorem TX_74 : lw_tbl[1297]? = some (Cond.methodLink RL 184 yX8_duckGain) ∧ goodWord (Cond.methodLink RL 184 yX8_duckGain) = true ∧ lw_tbl[1298]? = some (Cond.instanceMethod yX8_duckGain) ∧ goodWord (Cond.instanceMethod yX8_duckGain) = true ∧ lw_tbl[1299]? = some (Cond.selects RX8 yX8_duckGain yX8_duckGain) ∧ goodWord (Cond.selects RX8 yX8_duckGain yX8_duckGain) = true ∧ lw_tbl[1300]? = some (Cond.code yX8_duckGain cX8_duckGain 3 (some .int)) ∧ goodWord (Cond.code yX8_duckGain cX8_duckGain 3 (some .int)) = true := by decide +kernel
theorem tx_1297 : Cond.methodLink RL 184 yX8_duckGain ∈ TB := tb_in 1297 TX_74.1 TX_74.2.1
theorem tx_1298 : Cond.instanceMethod yX8_duckGain ∈ TB := tb_in 1298 TX_74.2.2.1 TX_74.2.2.2.1
theorem tx_1299 : Cond.selects RX8 yX8_duckGain yX8_duckGain ∈ TB := tb_in 1299 TX_74.2.2.2.2.1 TX_74.2.2.2.2.2.1
theorem tx_1300 : Cond.code yX8_duckGain cX8_duckGain 3 (some .int) ∈ TB := tb_in 1300 TX_74.2.2.2.2.2.2.1 TX_74.2.2.2.2.2.2.2
set_option maxRecDepth 100000 in
theorem TX_75 : lw_tbl[1318]? = some (Cond.methodLink RL 187 yX8_trackValue) ∧ goodWord (Cond.methodLink RL 187 yX8_trackValue) = true ∧ lw_tbl[1319]? = some (Cond.instanceMethod yX8_trackValue) ∧ goodWord (Cond.instanceMethod yX8_trackValue) = true ∧ lw_tbl[1320]? = some (Cond.selects RX8 yX8_trackValue yX8_trackValue) ∧ goodWord (Cond.selects RX8 yX8_trackValue yX8_trackValue) = true ∧ lw_tbl[1321]? = some (Cond.code yX8_trackValue cX8_trackValue 3 (some .int)) ∧ goodWord (Cond.code yX8_trackValue cX8_trackValue 3 (some .int)) = true := by decide +kernel
theorem tx_1318 : Cond.methodLink RL 187 yX8_trackValue ∈ TB := tb_in 1318 TX_75.1 TX_75.2.1
theorem tx_1319 : Cond.instanceMethod yX8_trackValue ∈ TB := tb_in 1319 TX_75.2.2.1 TX_75.2.2.2.1
theorem tx_1320 : Cond.selects RX8 yX8_trackValue yX8_trackValue ∈ TB := tb_in 1320 TX_75.2.2.2.2.1 TX_75.2.2.2.2.2.1
theorem tx_1321 : Cond.code yX8_trackValue cX8_trackValue 3 (some .int) ∈ TB := tb_in 1321 TX_75.2.2.2.2.2.2.1 TX_75.2.2.2.2.2.2.2
set_option maxRecDepth 100000 in
theorem TX_76 : lw_tbl[1326]? = some (Cond.methodLink RL 190 yX8_isAudible) ∧ goodWord (Cond.methodLink RL 190 yX8_isAudible) = true ∧ lw_tbl[1327]? = some (Cond.instanceMethod yX8_isAudible) ∧ goodWord (Cond.instanceMethod yX8_isAudible) = true ∧ lw_tbl[1328]? = some (Cond.selects RX8 yX8_isAudible yX8_isAudible) ∧ goodWord (Cond.selects RX8 yX8_isAudible yX8_isAudible) = true ∧ lw_tbl[1329]? = some (Cond.code yX8_isAudible cX8_isAudible 2 (some .boolean)) ∧ goodWord (Cond.code yX8_isAudible cX8_isAudible 2 (some .boolean)) = true := by decide +kernel
theorem tx_1326 : Cond.methodLink RL 190 yX8_isAudible ∈ TB := tb_in 1326 TX_76.1 TX_76.2.1
theorem tx_1327 : Cond.instanceMethod yX8_isAudible ∈ TB := tb_in 1327 TX_76.2.2.1 TX_76.2.2.2.1
theorem tx_1328 : Cond.selects RX8 yX8_isAudible yX8_isAudible ∈ TB := tb_in 1328 TX_76.2.2.2.2.1 TX_76.2.2.2.2.2.1
theorem tx_1329 : Cond.code yX8_isAudible cX8_isAudible 2 (some .boolean) ∈ TB := tb_in 1329 TX_76.2.2.2.2.2.2.1 TX_76.2.2.2.2.2.2.2
set_option maxRecDepth 100000 in
theorem TX_77 : lw_tbl[1334]? = some (Cond.methodLink RL 193 yX8_setMaster) ∧ goodWord (Cond.methodLink RL 193 yX8_setMaster) = true ∧ lw_tbl[1335]? = some (Cond.instanceMethod yX8_setMaster) ∧ goodWord (Cond.instanceMethod yX8_setMaster) = true ∧ lw_tbl[1336]? = some (Cond.selects RX8 yX8_setMaster yX8_setMaster) ∧ goodWord (Cond.selects RX8 yX8_setMaster yX8_setMaster) = true ∧ lw_tbl[1337]? = some (Cond.code yX8_setMaster cX8_setMaster 2 (some .int)) ∧ goodWord (Cond.code yX8_setMaster cX8_setMaster 2 (some .int)) = true := by decide +kernel
theorem tx_1334 : Cond.methodLink RL 193 yX8_setMaster ∈ TB := tb_in 1334 TX_77.1 TX_77.2.1
theorem tx_1335 : Cond.instanceMethod yX8_setMaster ∈ TB := tb_in 1335 TX_77.2.2.1 TX_77.2.2.2.1
theorem tx_1336 : Cond.selects RX8 yX8_setMaster yX8_setMaster ∈ TB := tb_in 1336 TX_77.2.2.2.2.1 TX_77.2.2.2.2.2.1
theorem tx_1337 : Cond.code yX8_setMaster cX8_setMaster 2 (some .int) ∈ TB := tb_in 1337 TX_77.2.2.2.2.2.2.1 TX_77.2.2.2.2.2.2.2
set_option maxRecDepth 100000 in
theorem TX_78 : lw_tbl[1338]? = some (Cond.methodLink RL 197 yX8_mix) ∧ goodWord (Cond.methodLink RL 197 yX8_mix) = true ∧ lw_tbl[1339]? = some (Cond.instanceMethod yX8_mix) ∧ goodWord (Cond.instanceMethod yX8_mix) = true ∧ lw_tbl[1340]? = some (Cond.selects RX8 yX8_mix yX8_mix) ∧ goodWord (Cond.selects RX8 yX8_mix yX8_mix) = true ∧ lw_tbl[1341]? = some (Cond.code yX8_mix cX8_mix 3 (some .int)) ∧ goodWord (Cond.code yX8_mix cX8_mix 3 (some .int)) = true := by decide +kernel
theorem tx_1338 : Cond.methodLink RL 197 yX8_mix ∈ TB := tb_in 1338 TX_78.1 TX_78.2.1
theorem tx_1339 : Cond.instanceMethod yX8_mix ∈ TB := tb_in 1339 TX_78.2.2.1 TX_78.2.2.2.1
theorem tx_1340 : Cond.selects RX8 yX8_mix yX8_mix ∈ TB := tb_in 1340 TX_78.2.2.2.2.1 TX_78.2.2.2.2.2.1
theorem tx_1341 : Cond.code yX8_mix cX8_mix 3 (some .int) ∈ TB := tb_in 1341 TX_78.2.2.2.2.2.2.1 TX_78.2.2.2.2.2.2.2
set_option maxRecDepth 100000 in
theorem TX_79 : lw_tbl[1354]? = some (Cond.methodLink RL 200 yX8_setLoop) ∧ goodWord (Cond.methodLink RL 200 yX8_setLoop) = true ∧ lw_tbl[1355]? = some (Cond.instanceMethod yX8_setLoop) ∧ goodWord (Cond.instanceMethod yX8_setLoop) = true ∧ lw_tbl[1356]? = some (Cond.selects RX8 yX8_setLoop yX8_setLoop) ∧ goodWord (Cond.selects RX8 yX8_setLoop yX8_setLoop) = true ∧ lw_tbl[1357]? = some (Cond.code yX8_setLoop cX8_setLoop 3 (some .int)) ∧ goodWord (Cond.code yX8_setLoop cX8_setLoop 3 (some .int)) = true := by decide +kernel
theorem tx_1354 : Cond.methodLink RL 200 yX8_setLoop ∈ TB := tb_in 1354 TX_79.1 TX_79.2.1
theorem tx_1355 : Cond.instanceMethod yX8_setLoop ∈ TB := tb_in 1355 TX_79.2.2.1 TX_79.2.2.2.1
theorem tx_1356 : Cond.selects RX8 yX8_setLoop yX8_setLoop ∈ TB := tb_in 1356 TX_79.2.2.2.2.1 TX_79.2.2.2.2.2.1
theorem tx_1357 : Cond.code yX8_setLoop cX8_setLoop 3 (some .int) ∈ TB := tb_in 1357 TX_79.2.2.2.2.2.2.1 TX_79.2.2.2.2.2.2.2
set_option maxRecDepth 100000 in
theorem TX_80 : lw_tbl[1358]? = some (Cond.methodLink RL 203 yX8_seek) ∧ goodWord (Cond.methodLink RL 203 yX8_seek) = true ∧ lw_tbl[1359]? = some (Cond.instanceMethod yX8_seek) ∧ goodWord (Cond.instanceMethod yX8_seek) = true ∧ lw_tbl[1360]? = some (Cond.selects RX8 yX8_seek yX8_seek) ∧ goodWord (Cond.selects RX8 yX8_seek yX8_seek) = true ∧ lw_tbl[1361]? = some (Cond.code yX8_seek cX8_seek 2 (some .int)) ∧ goodWord (Cond.code yX8_seek cX8_seek 2 (some .int)) = true := by decide +kernel
theorem tx_1358 : Cond.methodLink RL 203 yX8_seek ∈ TB := tb_in 1358 TX_80.1 TX_80.2.1
theorem tx_1359 : Cond.instanceMethod yX8_seek ∈ TB := tb_in 1359 TX_80.2.2.1 TX_80.2.2.2.1
theorem tx_1360 : Cond.selects RX8 yX8_seek yX8_seek ∈ TB := tb_in 1360 TX_80.2.2.2.2.1 TX_80.2.2.2.2.2.1
theorem tx_1361 : Cond.code yX8_seek cX8_seek 2 (some .int) ∈ TB := tb_in 1361 TX_80.2.2.2.2.2.2.1 TX_80.2.2.2.2.2.2.2
set_option maxRecDepth 100000 in
theorem TX_81 : lw_tbl[1362]? = some (Cond.methodLink RL 206 yX8_render) ∧ goodWord (Cond.methodLink RL 206 yX8_render) = true ∧ lw_tbl[1363]? = some (Cond.instanceMethod yX8_render) ∧ goodWord (Cond.instanceMethod yX8_render) = true ∧ lw_tbl[1364]? = some (Cond.selects RX8 yX8_render yX8_render) ∧ goodWord (Cond.selects RX8 yX8_render yX8_render) = true ∧ lw_tbl[1365]? = some (Cond.code yX8_render cX8_render 3 (some .int)) ∧ goodWord (Cond.code yX8_render cX8_render 3 (some .int)) = true := by decide +kernel
theorem tx_1362 : Cond.methodLink RL 206 yX8_render ∈ TB := tb_in 1362 TX_81.1 TX_81.2.1
theorem tx_1363 : Cond.instanceMethod yX8_render ∈ TB := tb_in 1363 TX_81.2.2.1 TX_81.2.2.2.1
theorem tx_1364 : Cond.selects RX8 yX8_render yX8_render ∈ TB := tb_in 1364 TX_81.2.2.2.2.1 TX_81.2.2.2.2.2.1
theorem tx_1365 : Cond.code yX8_render cX8_render 3 (some .int) ∈ TB := tb_in 1365 TX_81.2.2.2.2.2.2.1 TX_81.2.2.2.2.2.2.2
set_option maxRecDepth 100000 in
theorem TX_82 : lw_tbl[1371]? = some (Cond.methodLink RL 209 yX8_meter) ∧ goodWord (Cond.methodLink RL 209 yX8_meter) = true ∧ lw_tbl[1372]? = some (Cond.instanceMethod yX8_meter) ∧ goodWord (Cond.instanceMethod yX8_meter) = true ∧ lw_tbl[1373]? = some (Cond.selects RX8 yX8_meter yX8_meter) ∧ goodWord (Cond.selects RX8 yX8_meter yX8_meter) = true ∧ lw_tbl[1374]? = some (Cond.code yX8_meter cX8_meter 2 (some .long)) ∧ goodWord (Cond.code yX8_meter cX8_meter 2 (some .long)) = true := by decide +kernel
theorem tx_1371 : Cond.methodLink RL 209 yX8_meter ∈ TB := tb_in 1371 TX_82.1 TX_82.2.1
theorem tx_1372 : Cond.instanceMethod yX8_meter ∈ TB := tb_in 1372 TX_82.2.2.1 TX_82.2.2.2.1
theorem tx_1373 : Cond.selects RX8 yX8_meter yX8_meter ∈ TB := tb_in 1373 TX_82.2.2.2.2.1 TX_82.2.2.2.2.2.1
theorem tx_1374 : Cond.code yX8_meter cX8_meter 2 (some .long) ∈ TB := tb_in 1374 TX_82.2.2.2.2.2.2.1 TX_82.2.2.2.2.2.2.2
set_option maxRecDepth 100000 in
theorem TX_83 : lw_tbl[1380]? = some (Cond.methodLink RL 214 yX8_clearMeters) ∧ goodWord (Cond.methodLink RL 214 yX8_clearMeters) = true ∧ lw_tbl[1381]? = some (Cond.instanceMethod yX8_clearMeters) ∧ goodWord (Cond.instanceMethod yX8_clearMeters) = true ∧ lw_tbl[1382]? = some (Cond.selects RX8 yX8_clearMeters yX8_clearMeters) ∧ goodWord (Cond.selects RX8 yX8_clearMeters yX8_clearMeters) = true ∧ lw_tbl[1383]? = some (Cond.code yX8_clearMeters cX8_clearMeters 2 (some .long)) ∧ goodWord (Cond.code yX8_clearMeters cX8_clearMeters 2 (some .long)) = true := by decide +kernel
theorem tx_1380 : Cond.methodLink RL 214 yX8_clearMeters ∈ TB := tb_in 1380 TX_83.1 TX_83.2.1
theorem tx_1381 : Cond.instanceMethod yX8_clearMeters ∈ TB := tb_in 1381 TX_83.2.2.1 TX_83.2.2.2.1
theorem tx_1382 : Cond.selects RX8 yX8_clearMeters yX8_clearMeters ∈ TB := tb_in 1382 TX_83.2.2.2.2.1 TX_83.2.2.2.2.2.1
theorem tx_1383 : Cond.code yX8_clearMeters cX8_clearMeters 2 (some .long) ∈ TB := tb_in 1383 TX_83.2.2.2.2.2.2.1 TX_83.2.2.2.2.2.2.2
set_option maxRecDepth 100000 in
theorem TX_84 : lw_tbl[1384]? = some (Cond.methodLink RL 218 yX8_length) ∧ goodWord (Cond.methodLink RL 218 yX8_length) = true ∧ lw_tbl[1385]? = some (Cond.instanceMethod yX8_length) ∧ goodWord (Cond.instanceMethod yX8_length) = true ∧ lw_tbl[1386]? = some (Cond.selects RX8 yX8_length yX8_length) ∧ goodWord (Cond.selects RX8 yX8_length yX8_length) = true ∧ lw_tbl[1387]? = some (Cond.code yX8_length cX8_length 3 (some .int)) ∧ goodWord (Cond.code yX8_length cX8_length 3 (some .int)) = true := by decide +kernel
theorem tx_1384 : Cond.methodLink RL 218 yX8_length ∈ TB := tb_in 1384 TX_84.1 TX_84.2.1
theorem tx_1385 : Cond.instanceMethod yX8_length ∈ TB := tb_in 1385 TX_84.2.2.1 TX_84.2.2.2.1
theorem tx_1386 : Cond.selects RX8 yX8_length yX8_length ∈ TB := tb_in 1386 TX_84.2.2.2.2.1 TX_84.2.2.2.2.2.1
theorem tx_1387 : Cond.code yX8_length cX8_length 3 (some .int) ∈ TB := tb_in 1387 TX_84.2.2.2.2.2.2.1 TX_84.2.2.2.2.2.2.2
set_option maxRecDepth 100000 in
theorem TX_85 : lw_tbl[1388]? = some (Cond.methodLink RL 222 yX8_undo) ∧ goodWord (Cond.methodLink RL 222 yX8_undo) = true ∧ lw_tbl[1389]? = some (Cond.instanceMethod yX8_undo) ∧ goodWord (Cond.instanceMethod yX8_undo) = true ∧ lw_tbl[1390]? = some (Cond.selects RX8 yX8_undo yX8_undo) ∧ goodWord (Cond.selects RX8 yX8_undo yX8_undo) = true ∧ lw_tbl[1391]? = some (Cond.code yX8_undo cX8_undo 2 (some .int)) ∧ goodWord (Cond.code yX8_undo cX8_undo 2 (some .int)) = true := by decide +kernel
theorem tx_1388 : Cond.methodLink RL 222 yX8_undo ∈ TB := tb_in 1388 TX_85.1 TX_85.2.1
theorem tx_1389 : Cond.instanceMethod yX8_undo ∈ TB := tb_in 1389 TX_85.2.2.1 TX_85.2.2.2.1
theorem tx_1390 : Cond.selects RX8 yX8_undo yX8_undo ∈ TB := tb_in 1390 TX_85.2.2.2.2.1 TX_85.2.2.2.2.2.1
theorem tx_1391 : Cond.code yX8_undo cX8_undo 2 (some .int) ∈ TB := tb_in 1391 TX_85.2.2.2.2.2.2.1 TX_85.2.2.2.2.2.2.2
set_option maxRecDepth 100000 in
theorem TX_86 : lw_tbl[1392]? = some (Cond.methodLink RL 226 yX8_digest) ∧ goodWord (Cond.methodLink RL 226 yX8_digest) = true ∧ lw_tbl[1393]? = some (Cond.instanceMethod yX8_digest) ∧ goodWord (Cond.instanceMethod yX8_digest) = true ∧ lw_tbl[1394]? = some (Cond.selects RX8 yX8_digest yX8_digest) ∧ goodWord (Cond.selects RX8 yX8_digest yX8_digest) = true ∧ lw_tbl[1395]? = some (Cond.code yX8_digest cX8_digest 2 (some .long)) ∧ goodWord (Cond.code yX8_digest cX8_digest 2 (some .long)) = true := by decide +kernel
theorem tx_1392 : Cond.methodLink RL 226 yX8_digest ∈ TB := tb_in 1392 TX_86.1 TX_86.2.1
theorem tx_1393 : Cond.instanceMethod yX8_digest ∈ TB := tb_in 1393 TX_86.2.2.1 TX_86.2.2.2.1
theorem tx_1394 : Cond.selects RX8 yX8_digest yX8_digest ∈ TB := tb_in 1394 TX_86.2.2.2.2.1 TX_86.2.2.2.2.2.1
theorem tx_1395 : Cond.code yX8_digest cX8_digest 2 (some .long) ∈ TB := tb_in 1395 TX_86.2.2.2.2.2.2.1 TX_86.2.2.2.2.2.2.2
theorem xa_X7_setSource : mw_NA yX7_setSource cX7_setSource 7 (some .int) 5 := ⟨⟨by decide +kernel, by decide +kernel, by decide +kernel⟩, tx_565, tx_60⟩
theorem xv_7 : mw_NV RL 7 7 yX7_setSource cX7_setSource 7 (some .int) 5 := ⟨xa_X7_setSource, ⟨TX7, _, rfl⟩, tx_562, tx_563, tx_564⟩
theorem xa_X7_sample : mw_NA yX7_sample cX7_sample 3 (some .int) 2 := ⟨⟨by decide +kernel, by decide +kernel, by decide +kernel⟩, tx_676, tx_60⟩
theorem xv_17 : mw_NV RL 17 7 yX7_sample cX7_sample 3 (some .int) 2 := ⟨xa_X7_sample, ⟨TX7, _, rfl⟩, tx_673, tx_674, tx_675⟩
theorem xa_X7_addClip : mw_NA yX7_addClip cX7_addClip 9 (some .int) 6 := ⟨⟨by decide +kernel, by decide +kernel, by decide +kernel⟩, tx_687, tx_60⟩
theorem xv_21 : mw_NV RL 21 7 yX7_addClip cX7_addClip 9 (some .int) 6 := ⟨xa_X7_addClip, ⟨TX7, _, rfl⟩, tx_684, tx_685, tx_686⟩
theorem xa_X7_setFades : mw_NA yX7_setFades cX7_setFades 6 (some .int) 4 := ⟨⟨by decide +kernel, by decide +kernel, by decide +kernel⟩, tx_757, tx_60⟩
theorem xv_29 : mw_NV RL 29 7 yX7_setFades cX7_setFades 6 (some .int) 4 := ⟨xa_X7_setFades, ⟨TX7, _, rfl⟩, tx_754, tx_755, tx_756⟩
theorem xa_X7_moveClip : mw_NA yX7_moveClip cX7_moveClip 5 (some .int) 2 := ⟨⟨by decide +kernel, by decide +kernel, by decide +kernel⟩, tx_771, tx_60⟩
theorem xv_33 : mw_NV RL 33 7 yX7_moveClip cX7_moveClip 5 (some .int) 2 := ⟨xa_X7_moveClip, ⟨TX7, _, rfl⟩, tx_768, tx_769, tx_770⟩
theorem xa_X7_trimClip : mw_NA yX7_trimClip cX7_trimClip 6 (some .int) 3 := ⟨⟨by decide +kernel, by decide +kernel, by decide +kernel⟩, tx_780, tx_60⟩
theorem xv_36 : mw_NV RL 36 7 yX7_trimClip cX7_trimClip 6 (some .int) 3 := ⟨xa_X7_trimClip, ⟨TX7, _, rfl⟩, tx_777, tx_778, tx_779⟩
theorem xa_X7_splitClip : mw_NA yX7_splitClip cX7_splitClip 6 (some .int) 2 := ⟨⟨by decide +kernel, by decide +kernel, by decide +kernel⟩, tx_793, tx_60⟩
theorem xv_40 : mw_NV RL 40 7 yX7_splitClip cX7_splitClip 6 (some .int) 2 := ⟨xa_X7_splitClip, ⟨TX7, _, rfl⟩, tx_790, tx_791, tx_792⟩
theorem xa_X7_removeClip : mw_NA yX7_removeClip cX7_removeClip 2 (some .int) 1 := ⟨⟨by decide +kernel, by decide +kernel, by decide +kernel⟩, tx_806, tx_60⟩
theorem xv_43 : mw_NV RL 43 7 yX7_removeClip cX7_removeClip 2 (some .int) 1 := ⟨xa_X7_removeClip, ⟨TX7, _, rfl⟩, tx_803, tx_804, tx_805⟩
theorem xa_X7_deleteTime : mw_NA yX7_deleteTime cX7_deleteTime 6 (some .int) 3 := ⟨⟨by decide +kernel, by decide +kernel, by decide +kernel⟩, tx_817, tx_60⟩
theorem xv_47 : mw_NV RL 47 7 yX7_deleteTime cX7_deleteTime 6 (some .int) 3 := ⟨xa_X7_deleteTime, ⟨TX7, _, rfl⟩, tx_814, tx_815, tx_816⟩
theorem xa_X7_clip : mw_NA yX7_clip cX7_clip 3 (some .int) 2 := ⟨⟨by decide +kernel, by decide +kernel, by decide +kernel⟩, tx_845, tx_60⟩
theorem xv_50 : mw_NV RL 50 7 yX7_clip cX7_clip 3 (some .int) 2 := ⟨xa_X7_clip, ⟨TX7, _, rfl⟩, tx_842, tx_843, tx_844⟩
theorem xa_X7_clipValue : mw_NA yX7_clipValue cX7_clipValue 3 (some .int) 2 := ⟨⟨by decide +kernel, by decide +kernel, by decide +kernel⟩, tx_854, tx_60⟩
theorem xv_53 : mw_NV RL 53 7 yX7_clipValue cX7_clipValue 3 (some .int) 2 := ⟨xa_X7_clipValue, ⟨TX7, _, rfl⟩, tx_851, tx_852, tx_853⟩
theorem xa_X7_setTrack : mw_NA yX7_setTrack cX7_setTrack 8 (some .int) 5 := ⟨⟨by decide +kernel, by decide +kernel, by decide +kernel⟩, tx_864, tx_60⟩
theorem xv_56 : mw_NV RL 56 7 yX7_setTrack cX7_setTrack 8 (some .int) 5 := ⟨xa_X7_setTrack, ⟨TX7, _, rfl⟩, tx_861, tx_862, tx_863⟩
theorem xa_X7_setPoint : mw_NA yX7_setPoint cX7_setPoint 6 (some .int) 4 := ⟨⟨by decide +kernel, by decide +kernel, by decide +kernel⟩, tx_872, tx_60⟩
theorem xv_60 : mw_NV RL 60 7 yX7_setPoint cX7_setPoint 6 (some .int) 4 := ⟨xa_X7_setPoint, ⟨TX7, _, rfl⟩, tx_869, tx_870, tx_871⟩
theorem xa_X7_removePoint : mw_NA yX7_removePoint cX7_removePoint 4 (some .int) 2 := ⟨⟨by decide +kernel, by decide +kernel, by decide +kernel⟩, tx_897, tx_60⟩
theorem xv_64 : mw_NV RL 64 7 yX7_removePoint cX7_removePoint 4 (some .int) 2 := ⟨xa_X7_removePoint, ⟨TX7, _, rfl⟩, tx_894, tx_895, tx_896⟩
theorem xa_X7_automation : mw_NA yX7_automation cX7_automation 3 (some .int) 2 := ⟨⟨by decide +kernel, by decide +kernel, by decide +kernel⟩, tx_909, tx_60⟩
theorem xv_67 : mw_NV RL 67 7 yX7_automation cX7_automation 3 (some .int) 2 := ⟨xa_X7_automation, ⟨TX7, _, rfl⟩, tx_906, tx_907, tx_908⟩
theorem xa_X7_duck : mw_NA yX7_duck cX7_duck 9 (some .int) 6 := ⟨⟨by decide +kernel, by decide +kernel, by decide +kernel⟩, tx_917, tx_60⟩
theorem xv_70 : mw_NV RL 70 7 yX7_duck cX7_duck 9 (some .int) 6 := ⟨xa_X7_duck, ⟨TX7, _, rfl⟩, tx_914, tx_915, tx_916⟩
theorem xa_X7_endDuck : mw_NA yX7_endDuck cX7_endDuck 3 (some .int) 1 := ⟨⟨by decide +kernel, by decide +kernel, by decide +kernel⟩, tx_930, tx_60⟩
theorem xv_73 : mw_NV RL 73 7 yX7_endDuck cX7_endDuck 3 (some .int) 1 := ⟨xa_X7_endDuck, ⟨TX7, _, rfl⟩, tx_927, tx_928, tx_929⟩
theorem xa_X7_duckGain : mw_NA yX7_duckGain cX7_duckGain 3 (some .int) 2 := ⟨⟨by decide +kernel, by decide +kernel, by decide +kernel⟩, tx_937, tx_60⟩
theorem xv_76 : mw_NV RL 76 7 yX7_duckGain cX7_duckGain 3 (some .int) 2 := ⟨xa_X7_duckGain, ⟨TX7, _, rfl⟩, tx_934, tx_935, tx_936⟩
theorem xa_X7_trackValue : mw_NA yX7_trackValue cX7_trackValue 3 (some .int) 2 := ⟨⟨by decide +kernel, by decide +kernel, by decide +kernel⟩, tx_944, tx_60⟩
theorem xv_79 : mw_NV RL 79 7 yX7_trackValue cX7_trackValue 3 (some .int) 2 := ⟨xa_X7_trackValue, ⟨TX7, _, rfl⟩, tx_941, tx_942, tx_943⟩
theorem xa_X7_isAudible : mw_NA yX7_isAudible cX7_isAudible 2 (some .boolean) 1 := ⟨⟨by decide +kernel, by decide +kernel, by decide +kernel⟩, tx_951, tx_60⟩
theorem xv_82 : mw_NV RL 82 7 yX7_isAudible cX7_isAudible 2 (some .boolean) 1 := ⟨xa_X7_isAudible, ⟨TX7, _, rfl⟩, tx_948, tx_949, tx_950⟩
theorem xa_X7_setMaster : mw_NA yX7_setMaster cX7_setMaster 3 (some .int) 1 := ⟨⟨by decide +kernel, by decide +kernel, by decide +kernel⟩, tx_958, tx_60⟩
theorem xv_86 : mw_NV RL 86 7 yX7_setMaster cX7_setMaster 3 (some .int) 1 := ⟨xa_X7_setMaster, ⟨TX7, _, rfl⟩, tx_955, tx_956, tx_957⟩
theorem xa_X7_mix : mw_NA yX7_mix cX7_mix 3 (some .int) 2 := ⟨⟨by decide +kernel, by decide +kernel, by decide +kernel⟩, tx_966, tx_60⟩
theorem xv_89 : mw_NV RL 89 7 yX7_mix cX7_mix 3 (some .int) 2 := ⟨xa_X7_mix, ⟨TX7, _, rfl⟩, tx_963, tx_964, tx_965⟩
theorem xa_X7_setLoop : mw_NA yX7_setLoop cX7_setLoop 5 (some .int) 2 := ⟨⟨by decide +kernel, by decide +kernel, by decide +kernel⟩, tx_973, tx_60⟩
theorem xv_93 : mw_NV RL 93 7 yX7_setLoop cX7_setLoop 5 (some .int) 2 := ⟨xa_X7_setLoop, ⟨TX7, _, rfl⟩, tx_970, tx_971, tx_972⟩
theorem xa_X7_seek : mw_NA yX7_seek cX7_seek 3 (some .int) 1 := ⟨⟨by decide +kernel, by decide +kernel, by decide +kernel⟩, tx_980, tx_60⟩
theorem xv_96 : mw_NV RL 96 7 yX7_seek cX7_seek 3 (some .int) 1 := ⟨xa_X7_seek, ⟨TX7, _, rfl⟩, tx_977, tx_978, tx_979⟩
theorem xa_X7_render : mw_NA yX7_render cX7_render 4 (some .int) 1 := ⟨⟨by decide +kernel, by decide +kernel, by decide +kernel⟩, tx_987, tx_60⟩
theorem xv_99 : mw_NV RL 99 7 yX7_render cX7_render 4 (some .int) 1 := ⟨xa_X7_render, ⟨TX7, _, rfl⟩, tx_984, tx_985, tx_986⟩
theorem xa_X7_meter : mw_NA yX7_meter cX7_meter 2 (some .long) 1 := ⟨⟨by decide +kernel, by decide +kernel, by decide +kernel⟩, tx_1008, tx_60⟩
theorem xv_102 : mw_NV RL 102 7 yX7_meter cX7_meter 2 (some .long) 1 := ⟨xa_X7_meter, ⟨TX7, _, rfl⟩, tx_1005, tx_1006, tx_1007⟩
theorem xa_X7_undo : mw_NA yX7_undo cX7_undo 2 (some .int) 0 := ⟨⟨by decide +kernel, by decide +kernel, by decide +kernel⟩, tx_1017, tx_60⟩
theorem xv_106 : mw_NV RL 106 7 yX7_undo cX7_undo 2 (some .int) 0 := ⟨xa_X7_undo, ⟨TX7, _, rfl⟩, tx_1014, tx_1015, tx_1016⟩
theorem xa_X7_init : mw_NA yX7_init cX7_init 2 none 0 := ⟨⟨by decide +kernel, by decide +kernel, by decide +kernel⟩, tx_81, tx_60⟩
theorem xi_110 : mw_NI RL 110 yX7_init cX7_init 2 0 := ⟨xa_X7_init, tx_79, tx_80, rfl⟩
theorem xa_X8_init : mw_NA yX8_init cX8_init 2 none 0 := ⟨⟨by decide +kernel, by decide +kernel, by decide +kernel⟩, tx_1023, tx_68⟩
theorem xi_113 : mw_NI RL 113 yX8_init cX8_init 2 0 := ⟨xa_X8_init, tx_1021, tx_1022, rfl⟩
theorem xs_114 : mw_NSW RL 114 yL_setSource cL_setSource 8 (some .int) [(0, 16, 19, 13), (0, 16, 23, 15)] 7 := ⟨⟨by decide +kernel, by decide +kernel, by decide +kernel⟩, tx_559, tx_59, tx_557, tx_558⟩
theorem xa_X8_setSource : mw_NA yX8_setSource cX8_setSource 8 (some .int) 5 := ⟨⟨by decide +kernel, by decide +kernel, by decide +kernel⟩, tx_1080, tx_68⟩
theorem xv_119 : mw_NV RL 119 8 yX8_setSource cX8_setSource 8 (some .int) 5 := ⟨xa_X8_setSource, ⟨TX8, _, rfl⟩, tx_1077, tx_1078, tx_1079⟩
theorem xa_X8_thrown : mw_NA yX8_thrown cX8_thrown 1 (some .int) 0 := ⟨⟨by decide +kernel, by decide +kernel, by decide +kernel⟩, tx_1076, tx_68⟩
theorem xv_120 : mw_NV RL 120 8 yX8_thrown cX8_thrown 1 (some .int) 0 := ⟨xa_X8_thrown, ⟨TX8, _, rfl⟩, tx_1073, tx_1074, tx_1075⟩
theorem xs_123 : mw_NSW RL 123 yL_sample cL_sample 5 (some .int) [(0, 10, 13, 13)] 4 := ⟨⟨by decide +kernel, by decide +kernel, by decide +kernel⟩, tx_672, tx_59, tx_670, tx_671⟩
theorem xa_X8_sample : mw_NA yX8_sample cX8_sample 3 (some .int) 2 := ⟨⟨by decide +kernel, by decide +kernel, by decide +kernel⟩, tx_1107, tx_68⟩
theorem xv_126 : mw_NV RL 126 8 yX8_sample cX8_sample 3 (some .int) 2 := ⟨xa_X8_sample, ⟨TX8, _, rfl⟩, tx_1104, tx_1105, tx_1106⟩
theorem xs_127 : mw_NSW RL 127 yL_addClip cL_addClip 9 (some .int) [(0, 18, 21, 15), (0, 18, 25, 25), (0, 18, 29, 27)] 8 := ⟨⟨by decide +kernel, by decide +kernel, by decide +kernel⟩, tx_681, tx_59, tx_679, tx_680⟩
theorem xa_X8_addClip : mw_NA yX8_addClip cX8_addClip 9 (some .int) 6 := ⟨⟨by decide +kernel, by decide +kernel, by decide +kernel⟩, tx_1123, tx_68⟩
theorem xv_130 : mw_NV RL 130 8 yX8_addClip cX8_addClip 9 (some .int) 6 := ⟨xa_X8_addClip, ⟨TX8, _, rfl⟩, tx_1120, tx_1121, tx_1122⟩
theorem xs_131 : mw_NSW RL 131 yL_setFades cL_setFades 7 (some .int) [(0, 14, 17, 13), (0, 14, 21, 15)] 6 := ⟨⟨by decide +kernel, by decide +kernel, by decide +kernel⟩, tx_753, tx_59, tx_751, tx_752⟩
theorem xa_X8_setFades : mw_NA yX8_setFades cX8_setFades 7 (some .int) 4 := ⟨⟨by decide +kernel, by decide +kernel, by decide +kernel⟩, tx_1171, tx_68⟩
theorem xv_134 : mw_NV RL 134 8 yX8_setFades cX8_setFades 7 (some .int) 4 := ⟨xa_X8_setFades, ⟨TX8, _, rfl⟩, tx_1168, tx_1169, tx_1170⟩
theorem xs_135 : mw_NSW RL 135 yL_moveClip cL_moveClip 5 (some .int) [(0, 10, 13, 13), (0, 10, 17, 15), (0, 10, 21, 27)] 4 := ⟨⟨by decide +kernel, by decide +kernel, by decide +kernel⟩, tx_767, tx_59, tx_765, tx_766⟩
theorem xa_X8_moveClip : mw_NA yX8_moveClip cX8_moveClip 5 (some .int) 2 := ⟨⟨by decide +kernel, by decide +kernel, by decide +kernel⟩, tx_1179, tx_68⟩
theorem xv_137 : mw_NV RL 137 8 yX8_moveClip cX8_moveClip 5 (some .int) 2 := ⟨xa_X8_moveClip, ⟨TX8, _, rfl⟩, tx_1176, tx_1177, tx_1178⟩
theorem xs_138 : mw_NSW RL 138 yL_trimClip cL_trimClip 6 (some .int) [(0, 12, 15, 13), (0, 12, 19, 15), (0, 12, 23, 27)] 5 := ⟨⟨by decide +kernel, by decide +kernel, by decide +kernel⟩, tx_776, tx_59, tx_774, tx_775⟩
theorem xa_X8_trimClip : mw_NA yX8_trimClip cX8_trimClip 7 (some .int) 3 := ⟨⟨by decide +kernel, by decide +kernel, by decide +kernel⟩, tx_1183, tx_68⟩
theorem xv_141 : mw_NV RL 141 8 yX8_trimClip cX8_trimClip 7 (some .int) 3 := ⟨xa_X8_trimClip, ⟨TX8, _, rfl⟩, tx_1180, tx_1181, tx_1182⟩
theorem xs_142 : mw_NSW RL 142 yL_splitClip cL_splitClip 5 (some .int) [(0, 10, 13, 13), (0, 10, 17, 15), (0, 10, 21, 25), (0, 10, 25, 27)] 4 := ⟨⟨by decide +kernel, by decide +kernel, by decide +kernel⟩, tx_789, tx_59, tx_787, tx_788⟩
theorem xa_X8_splitClip : mw_NA yX8_splitClip cX8_splitClip 7 (some .int) 2 := ⟨⟨by decide +kernel, by decide +kernel, by decide +kernel⟩, tx_1195, tx_68⟩
theorem xv_144 : mw_NV RL 144 8 yX8_splitClip cX8_splitClip 7 (some .int) 2 := ⟨xa_X8_splitClip, ⟨TX8, _, rfl⟩, tx_1192, tx_1193, tx_1194⟩
theorem xs_145 : mw_NSW RL 145 yL_removeClip cL_removeClip 4 (some .int) [(0, 9, 12, 13)] 3 := ⟨⟨by decide +kernel, by decide +kernel, by decide +kernel⟩, tx_802, tx_59, tx_800, tx_801⟩
theorem xa_X8_removeClip : mw_NA yX8_removeClip cX8_removeClip 2 (some .int) 1 := ⟨⟨by decide +kernel, by decide +kernel, by decide +kernel⟩, tx_1199, tx_68⟩
theorem xv_148 : mw_NV RL 148 8 yX8_removeClip cX8_removeClip 2 (some .int) 1 := ⟨xa_X8_removeClip, ⟨TX8, _, rfl⟩, tx_1196, tx_1197, tx_1198⟩
theorem xs_149 : mw_NSW RL 149 yL_deleteTime cL_deleteTime 6 (some .int) [(0, 12, 15, 13), (0, 12, 19, 15), (0, 12, 23, 27)] 5 := ⟨⟨by decide +kernel, by decide +kernel, by decide +kernel⟩, tx_813, tx_59, tx_811, tx_812⟩
theorem xa_X8_deleteTime : mw_NA yX8_deleteTime cX8_deleteTime 8 (some .int) 3 := ⟨⟨by decide +kernel, by decide +kernel, by decide +kernel⟩, tx_1207, tx_68⟩
theorem xv_151 : mw_NV RL 151 8 yX8_deleteTime cX8_deleteTime 8 (some .int) 3 := ⟨xa_X8_deleteTime, ⟨TX8, _, rfl⟩, tx_1204, tx_1205, tx_1206⟩
theorem xa_X7_clips : mw_NA yX7_clips cX7_clips 1 (some .int) 0 := ⟨⟨by decide +kernel, by decide +kernel, by decide +kernel⟩, tx_348, tx_60⟩
theorem xv_152 : mw_NV RL 152 7 yX7_clips cX7_clips 1 (some .int) 0 := ⟨xa_X7_clips, ⟨TX7, _, rfl⟩, tx_345, tx_346, tx_347⟩
theorem xa_X8_clips : mw_NA yX8_clips cX8_clips 1 (some .int) 0 := ⟨⟨by decide +kernel, by decide +kernel, by decide +kernel⟩, tx_1219, tx_68⟩
theorem xv_155 : mw_NV RL 155 8 yX8_clips cX8_clips 1 (some .int) 0 := ⟨xa_X8_clips, ⟨TX8, _, rfl⟩, tx_1216, tx_1217, tx_1218⟩
theorem xs_156 : mw_NSW RL 156 yL_clip cL_clip 5 (some .int) [(0, 10, 13, 13), (0, 10, 17, 15)] 4 := ⟨⟨by decide +kernel, by decide +kernel, by decide +kernel⟩, tx_841, tx_59, tx_839, tx_840⟩
theorem xa_X8_clip : mw_NA yX8_clip cX8_clip 3 (some .int) 2 := ⟨⟨by decide +kernel, by decide +kernel, by decide +kernel⟩, tx_1223, tx_68⟩
theorem xv_158 : mw_NV RL 158 8 yX8_clip cX8_clip 3 (some .int) 2 := ⟨xa_X8_clip, ⟨TX8, _, rfl⟩, tx_1220, tx_1221, tx_1222⟩
theorem xs_159 : mw_NSW RL 159 yL_clipValue cL_clipValue 5 (some .int) [(0, 10, 13, 13), (0, 10, 17, 15)] 4 := ⟨⟨by decide +kernel, by decide +kernel, by decide +kernel⟩, tx_850, tx_59, tx_848, tx_849⟩
theorem xa_X8_clipValue : mw_NA yX8_clipValue cX8_clipValue 3 (some .int) 2 := ⟨⟨by decide +kernel, by decide +kernel, by decide +kernel⟩, tx_1232, tx_68⟩
theorem xv_161 : mw_NV RL 161 8 yX8_clipValue cX8_clipValue 3 (some .int) 2 := ⟨xa_X8_clipValue, ⟨TX8, _, rfl⟩, tx_1229, tx_1230, tx_1231⟩
theorem xs_162 : mw_NSW RL 162 yL_setTrack cL_setTrack 8 (some .int) [(0, 16, 19, 13), (0, 16, 23, 15)] 7 := ⟨⟨by decide +kernel, by decide +kernel, by decide +kernel⟩, tx_860, tx_59, tx_858, tx_859⟩
theorem xa_X8_setTrack : mw_NA yX8_setTrack cX8_setTrack 8 (some .int) 5 := ⟨⟨by decide +kernel, by decide +kernel, by decide +kernel⟩, tx_1257, tx_68⟩
theorem xv_165 : mw_NV RL 165 8 yX8_setTrack cX8_setTrack 8 (some .int) 5 := ⟨xa_X8_setTrack, ⟨TX8, _, rfl⟩, tx_1254, tx_1255, tx_1256⟩
theorem xs_166 : mw_NSW RL 166 yL_setPoint cL_setPoint 7 (some .int) [(0, 14, 17, 13), (0, 14, 21, 15), (0, 14, 25, 25)] 6 := ⟨⟨by decide +kernel, by decide +kernel, by decide +kernel⟩, tx_868, tx_59, tx_866, tx_867⟩
theorem xa_X8_setPoint : mw_NA yX8_setPoint cX8_setPoint 11 (some .int) 4 := ⟨⟨by decide +kernel, by decide +kernel, by decide +kernel⟩, tx_1263, tx_68⟩
theorem xv_169 : mw_NV RL 169 8 yX8_setPoint cX8_setPoint 11 (some .int) 4 := ⟨xa_X8_setPoint, ⟨TX8, _, rfl⟩, tx_1260, tx_1261, tx_1262⟩
theorem xs_170 : mw_NSW RL 170 yL_removePoint cL_removePoint 5 (some .int) [(0, 10, 13, 13), (0, 10, 17, 15)] 4 := ⟨⟨by decide +kernel, by decide +kernel, by decide +kernel⟩, tx_893, tx_59, tx_891, tx_892⟩
theorem xa_X8_removePoint : mw_NA yX8_removePoint cX8_removePoint 5 (some .int) 2 := ⟨⟨by decide +kernel, by decide +kernel, by decide +kernel⟩, tx_1275, tx_68⟩
theorem xv_172 : mw_NV RL 172 8 yX8_removePoint cX8_removePoint 5 (some .int) 2 := ⟨xa_X8_removePoint, ⟨TX8, _, rfl⟩, tx_1272, tx_1273, tx_1274⟩
theorem xs_173 : mw_NSW RL 173 yL_automation cL_automation 5 (some .int) [(0, 10, 13, 13), (0, 10, 17, 15)] 4 := ⟨⟨by decide +kernel, by decide +kernel, by decide +kernel⟩, tx_905, tx_59, tx_903, tx_904⟩
theorem xa_X8_automation : mw_NA yX8_automation cX8_automation 3 (some .int) 2 := ⟨⟨by decide +kernel, by decide +kernel, by decide +kernel⟩, tx_1279, tx_68⟩
theorem xv_175 : mw_NV RL 175 8 yX8_automation cX8_automation 3 (some .int) 2 := ⟨xa_X8_automation, ⟨TX8, _, rfl⟩, tx_1276, tx_1277, tx_1278⟩
theorem xs_176 : mw_NSW RL 176 yL_duck cL_duck 9 (some .int) [(0, 18, 21, 13), (0, 18, 25, 15), (0, 18, 29, 25)] 8 := ⟨⟨by decide +kernel, by decide +kernel, by decide +kernel⟩, tx_913, tx_59, tx_911, tx_912⟩
theorem xa_X8_duck : mw_NA yX8_duck cX8_duck 11 (some .int) 6 := ⟨⟨by decide +kernel, by decide +kernel, by decide +kernel⟩, tx_1287, tx_68⟩
theorem xv_178 : mw_NV RL 178 8 yX8_duck cX8_duck 11 (some .int) 6 := ⟨xa_X8_duck, ⟨TX8, _, rfl⟩, tx_1284, tx_1285, tx_1286⟩
theorem xs_179 : mw_NSW RL 179 yL_endDuck cL_endDuck 4 (some .int) [(0, 9, 12, 13)] 3 := ⟨⟨by decide +kernel, by decide +kernel, by decide +kernel⟩, tx_926, tx_59, tx_924, tx_925⟩
theorem xa_X8_endDuck : mw_NA yX8_endDuck cX8_endDuck 2 (some .int) 1 := ⟨⟨by decide +kernel, by decide +kernel, by decide +kernel⟩, tx_1296, tx_68⟩
theorem xv_181 : mw_NV RL 181 8 yX8_endDuck cX8_endDuck 2 (some .int) 1 := ⟨xa_X8_endDuck, ⟨TX8, _, rfl⟩, tx_1293, tx_1294, tx_1295⟩
theorem xs_182 : mw_NSW RL 182 yL_duckGain cL_duckGain 5 (some .int) [(0, 10, 13, 13), (0, 10, 17, 15)] 4 := ⟨⟨by decide +kernel, by decide +kernel, by decide +kernel⟩, tx_933, tx_59, tx_931, tx_932⟩
theorem xa_X8_duckGain : mw_NA yX8_duckGain cX8_duckGain 3 (some .int) 2 := ⟨⟨by decide +kernel, by decide +kernel, by decide +kernel⟩, tx_1300, tx_68⟩
theorem xv_184 : mw_NV RL 184 8 yX8_duckGain cX8_duckGain 3 (some .int) 2 := ⟨xa_X8_duckGain, ⟨TX8, _, rfl⟩, tx_1297, tx_1298, tx_1299⟩
theorem xs_185 : mw_NSW RL 185 yL_trackValue cL_trackValue 5 (some .int) [(0, 10, 13, 13), (0, 10, 17, 15)] 4 := ⟨⟨by decide +kernel, by decide +kernel, by decide +kernel⟩, tx_940, tx_59, tx_938, tx_939⟩
theorem xa_X8_trackValue : mw_NA yX8_trackValue cX8_trackValue 3 (some .int) 2 := ⟨⟨by decide +kernel, by decide +kernel, by decide +kernel⟩, tx_1321, tx_68⟩
theorem xv_187 : mw_NV RL 187 8 yX8_trackValue cX8_trackValue 3 (some .int) 2 := ⟨xa_X8_trackValue, ⟨TX8, _, rfl⟩, tx_1318, tx_1319, tx_1320⟩
theorem xs_188 : mw_NSW RL 188 yL_isAudible cL_isAudible 4 (some .int) [(0, 16, 19, 13)] 3 := ⟨⟨by decide +kernel, by decide +kernel, by decide +kernel⟩, tx_947, tx_59, tx_945, tx_946⟩
theorem xa_X8_isAudible : mw_NA yX8_isAudible cX8_isAudible 2 (some .boolean) 1 := ⟨⟨by decide +kernel, by decide +kernel, by decide +kernel⟩, tx_1329, tx_68⟩
theorem xv_190 : mw_NV RL 190 8 yX8_isAudible cX8_isAudible 2 (some .boolean) 1 := ⟨xa_X8_isAudible, ⟨TX8, _, rfl⟩, tx_1326, tx_1327, tx_1328⟩
theorem xs_191 : mw_NSW RL 191 yL_setMaster cL_setMaster 4 (some .int) [(0, 9, 12, 15)] 3 := ⟨⟨by decide +kernel, by decide +kernel, by decide +kernel⟩, tx_954, tx_59, tx_952, tx_953⟩
theorem xa_X8_setMaster : mw_NA yX8_setMaster cX8_setMaster 2 (some .int) 1 := ⟨⟨by decide +kernel, by decide +kernel, by decide +kernel⟩, tx_1337, tx_68⟩
theorem xv_193 : mw_NV RL 193 8 yX8_setMaster cX8_setMaster 2 (some .int) 1 := ⟨xa_X8_setMaster, ⟨TX8, _, rfl⟩, tx_1334, tx_1335, tx_1336⟩
theorem xs_194 : mw_NSW RL 194 yL_mix cL_mix 5 (some .int) [(0, 10, 13, 15)] 4 := ⟨⟨by decide +kernel, by decide +kernel, by decide +kernel⟩, tx_962, tx_59, tx_960, tx_961⟩
theorem xa_X8_mix : mw_NA yX8_mix cX8_mix 3 (some .int) 2 := ⟨⟨by decide +kernel, by decide +kernel, by decide +kernel⟩, tx_1341, tx_68⟩
theorem xv_197 : mw_NV RL 197 8 yX8_mix cX8_mix 3 (some .int) 2 := ⟨xa_X8_mix, ⟨TX8, _, rfl⟩, tx_1338, tx_1339, tx_1340⟩
theorem xs_198 : mw_NSW RL 198 yL_setLoop cL_setLoop 5 (some .int) [(0, 10, 13, 15)] 4 := ⟨⟨by decide +kernel, by decide +kernel, by decide +kernel⟩, tx_969, tx_59, tx_967, tx_968⟩
theorem xa_X8_setLoop : mw_NA yX8_setLoop cX8_setLoop 3 (some .int) 2 := ⟨⟨by decide +kernel, by decide +kernel, by decide +kernel⟩, tx_1357, tx_68⟩
theorem xv_200 : mw_NV RL 200 8 yX8_setLoop cX8_setLoop 3 (some .int) 2 := ⟨xa_X8_setLoop, ⟨TX8, _, rfl⟩, tx_1354, tx_1355, tx_1356⟩
theorem xs_201 : mw_NSW RL 201 yL_seek cL_seek 4 (some .int) [(0, 9, 12, 15)] 3 := ⟨⟨by decide +kernel, by decide +kernel, by decide +kernel⟩, tx_976, tx_59, tx_974, tx_975⟩
theorem xa_X8_seek : mw_NA yX8_seek cX8_seek 2 (some .int) 1 := ⟨⟨by decide +kernel, by decide +kernel, by decide +kernel⟩, tx_1361, tx_68⟩
theorem xv_203 : mw_NV RL 203 8 yX8_seek cX8_seek 2 (some .int) 1 := ⟨xa_X8_seek, ⟨TX8, _, rfl⟩, tx_1358, tx_1359, tx_1360⟩
theorem xs_204 : mw_NSW RL 204 yL_render cL_render 4 (some .int) [(0, 9, 12, 15)] 3 := ⟨⟨by decide +kernel, by decide +kernel, by decide +kernel⟩, tx_983, tx_59, tx_981, tx_982⟩
theorem xa_X8_render : mw_NA yX8_render cX8_render 3 (some .int) 1 := ⟨⟨by decide +kernel, by decide +kernel, by decide +kernel⟩, tx_1365, tx_68⟩
theorem xv_206 : mw_NV RL 206 8 yX8_render cX8_render 3 (some .int) 1 := ⟨xa_X8_render, ⟨TX8, _, rfl⟩, tx_1362, tx_1363, tx_1364⟩
theorem xs_207 : mw_NSW RL 207 yL_meter cL_meter 4 (some .int) [(0, 8, 11, 15)] 3 := ⟨⟨by decide +kernel, by decide +kernel, by decide +kernel⟩, tx_1004, tx_59, tx_1002, tx_1003⟩
theorem xa_X8_meter : mw_NA yX8_meter cX8_meter 2 (some .long) 1 := ⟨⟨by decide +kernel, by decide +kernel, by decide +kernel⟩, tx_1374, tx_68⟩
theorem xv_209 : mw_NV RL 209 8 yX8_meter cX8_meter 2 (some .long) 1 := ⟨xa_X8_meter, ⟨TX8, _, rfl⟩, tx_1371, tx_1372, tx_1373⟩
theorem xa_X7_clearMeters : mw_NA yX7_clearMeters cX7_clearMeters 3 (some .long) 0 := ⟨⟨by decide +kernel, by decide +kernel, by decide +kernel⟩, tx_352, tx_60⟩
theorem xv_210 : mw_NV RL 210 7 yX7_clearMeters cX7_clearMeters 3 (some .long) 0 := ⟨xa_X7_clearMeters, ⟨TX7, _, rfl⟩, tx_349, tx_350, tx_351⟩
theorem xa_X8_clearMeters : mw_NA yX8_clearMeters cX8_clearMeters 2 (some .long) 0 := ⟨⟨by decide +kernel, by decide +kernel, by decide +kernel⟩, tx_1383, tx_68⟩
theorem xv_214 : mw_NV RL 214 8 yX8_clearMeters cX8_clearMeters 2 (some .long) 0 := ⟨xa_X8_clearMeters, ⟨TX8, _, rfl⟩, tx_1380, tx_1381, tx_1382⟩
theorem xa_X7_length : mw_NA yX7_length cX7_length 3 (some .int) 0 := ⟨⟨by decide +kernel, by decide +kernel, by decide +kernel⟩, tx_412, tx_60⟩
theorem xv_215 : mw_NV RL 215 7 yX7_length cX7_length 3 (some .int) 0 := ⟨xa_X7_length, ⟨TX7, _, rfl⟩, tx_409, tx_410, tx_411⟩
theorem xa_X8_length : mw_NA yX8_length cX8_length 3 (some .int) 0 := ⟨⟨by decide +kernel, by decide +kernel, by decide +kernel⟩, tx_1387, tx_68⟩
theorem xv_218 : mw_NV RL 218 8 yX8_length cX8_length 3 (some .int) 0 := ⟨xa_X8_length, ⟨TX8, _, rfl⟩, tx_1384, tx_1385, tx_1386⟩
theorem xs_219 : mw_NSW RL 219 yL_undo cL_undo 3 (some .int) [(0, 8, 11, 25)] 2 := ⟨⟨by decide +kernel, by decide +kernel, by decide +kernel⟩, tx_1013, tx_59, tx_1011, tx_1012⟩
theorem xa_X8_undo : mw_NA yX8_undo cX8_undo 2 (some .int) 0 := ⟨⟨by decide +kernel, by decide +kernel, by decide +kernel⟩, tx_1391, tx_68⟩
theorem xv_222 : mw_NV RL 222 8 yX8_undo cX8_undo 2 (some .int) 0 := ⟨xa_X8_undo, ⟨TX8, _, rfl⟩, tx_1388, tx_1389, tx_1390⟩
theorem xa_X7_digest : mw_NA yX7_digest cX7_digest 4 (some .long) 0 := ⟨⟨by decide +kernel, by decide +kernel, by decide +kernel⟩, tx_423, tx_60⟩
theorem xv_223 : mw_NV RL 223 7 yX7_digest cX7_digest 4 (some .long) 0 := ⟨xa_X7_digest, ⟨TX7, _, rfl⟩, tx_420, tx_421, tx_422⟩
theorem xa_X8_digest : mw_NA yX8_digest cX8_digest 2 (some .long) 0 := ⟨⟨by decide +kernel, by decide +kernel, by decide +kernel⟩, tx_1395, tx_68⟩
theorem xv_226 : mw_NV RL 226 8 yX8_digest cX8_digest 2 (some .long) 0 := ⟨xa_X8_digest, ⟨TX8, _, rfl⟩, tx_1392, tx_1393, tx_1394⟩
