/-! The law's loop, and the claim's start -/
theorem li_up {M : mw_M} {c d : Int} (h : LI M c) (hd : c ≤ d) : LI M d := by
  obtain ⟨σ, k, a, b, e, f⟩ := h
  exact ⟨σ, k, a, b, e.le hd, fun i hi => (f i hi).le hd⟩
section LL
variable {G : mw_G} {l : Launch} {Y : mw_Y}
theorem law_step (hlt : l.stackTraces = false) (hC : mw_C G l room_1 Y cL_law RL) (hnL : mw_nL Y = 8) {b L : Nat} {xs : Nat → Int32} (hS0 : mw_S b L xs Y) (hZ : mw_ZL b Y) (hN : L ≤ 3584) {t k sl : Nat} {M : mw_M} (ht : t ≤ 512) (hk : k ≤ 254 + 8 * t) (hs : sl ≤ 4264 + 48 * t) (hI : LI M ((1000 * t : Nat) : Int)) (next : 7 * t + 7 ≤ L → ∀ N, LI N ((1000 * (t + 1) : Nat) : Int) → mw_J Y (k + 8) (sl + 48) 255 N 23 (Lc (t + 1)) []) : mw_J Y k sl 255 M 23 (Lc t) [] := by
  refine jr_iload (j := 4) hC dL_law_23 rfl ?_
  refine jr_aload_n (j := 0) hC dL_law_25 rfl rfl ?_
  refine jr_slen hC hS0 dL_law_26 ?_
  refine jr_bipush (v := 7) hC dL_law_27 rfl ?_
  refine jr_isub hC dL_law_29 ?_
  have i7 : (7 : Int32).toInt = 7 := by decide
  have iL : (nI L).toInt = (L : Int) := nI_toInt (by omega)
  have hd : (nI L - 7).toInt = (L : Int) - 7 := by rw [ti_sub (by rw [iL, i7]; omega) (by rw [iL, i7]; omega), iL, i7]
  have i4 : (nI (7 * t)).toInt = ((7 * t : Nat) : Int) := nI_toInt (by omega)
  refine jr_ic_gt (tgt := 2282) hC dL_law_30 (by decide) (fun _ => ?_) (fun h => ?_)
  · refine jr_iconst hC dL_law_2282 rfl ?_
    exact jr_end hC hZ (by omega) (by omega) dL_law_2283
  · have hL : 7 * t + 7 ≤ L := by
      rw [Int32.lt_iff_toInt_lt, hd, i4] at h
      omega
    have K : ∀ N, LI N ((1000 * (t + 1) : Nat) : Int) → mw_J Y (k + 8) (sl + 48) 255 N 2276 (Lc t) [] := fun N hN2 => by
      refine jr_iinc (j := 4) (v := nI (7 * (t + 1))) (L1 := [(4, .int (nI (7 * (t + 1)))), (0, .ref 900), (1, .ref 1), (2, .ref 247), (3, .ref 254)]) hC dL_law_2276 rfl ?_ hnL (by decide) rfl ?_
      · show nI (7 * t) + nI 7 = _
        rw [nI_add]
        exact congrArg nI (by omega)
      · refine jr_sub [1, 2, 3, 4, 0] (L1 := Lc (t + 1)) rfl ?_
        exact jr_goto (tgt := 23) hC dL_law_2279 (by decide) (next hL N hN2)
    refine jr_aload_n (j := 0) hC dL_law_33 rfl rfl ?_
    refine jr_iload (j := 4) hC dL_law_34 rfl ?_
    refine jr_sld hC hS0 (vp_n (by omega) (by omega)) dL_law_36 ?_
    rw [nI_clamp (by omega)]
    refine jr_bipush (v := 31) hC dL_law_37 rfl ?_
    refine jr_iand hC dL_law_39 ?_
    obtain ⟨j, hj, e⟩ := and31 (xs (7 * t))
    rw [e]
    clear e
    match j, hj with
    | 0, _ => exact jr_tabIn (off := 140) (tgt := 180) hC dL_law_40 (by decide) (by decide) rfl (by decide) (lc_setSource hlt hC hnL hS0 hN hL (by omega) (by omega) hI (by omega) (by omega) (by omega) K)
    | 1, _ => exact jr_tabIn (off := 244) (tgt := 284) hC dL_law_40 (by decide) (by decide) rfl (by decide) (lc_sample hlt hC hnL hS0 hN hL (by omega) (by omega) hI (by omega) (by omega) (by omega) K)
    | 2, _ => exact jr_tabIn (off := 312) (tgt := 352) hC dL_law_40 (by decide) (by decide) rfl (by decide) (lc_addClip hlt hC hnL hS0 hN hL (by omega) (by omega) hI (by omega) (by omega) (by omega) K)
    | 3, _ => exact jr_tabIn (off := 430) (tgt := 470) hC dL_law_40 (by decide) (by decide) rfl (by decide) (lc_setFades hlt hC hnL hS0 hN hL (by omega) (by omega) hI (by omega) (by omega) (by omega) K)
    | 4, _ => exact jr_tabIn (off := 522) (tgt := 562) hC dL_law_40 (by decide) (by decide) rfl (by decide) (lc_moveClip hlt hC hnL hS0 hN hL (by omega) (by omega) hI (by omega) (by omega) (by omega) K)
    | 5, _ => exact jr_tabIn (off := 590) (tgt := 630) hC dL_law_40 (by decide) (by decide) rfl (by decide) (lc_trimClip hlt hC hnL hS0 hN hL (by omega) (by omega) hI (by omega) (by omega) (by omega) K)
    | 6, _ => exact jr_tabIn (off := 670) (tgt := 710) hC dL_law_40 (by decide) (by decide) rfl (by decide) (lc_splitClip hlt hC hnL hS0 hN hL (by omega) (by omega) hI (by omega) (by omega) (by omega) K)
    | 7, _ => exact jr_tabIn (off := 738) (tgt := 778) hC dL_law_40 (by decide) (by decide) rfl (by decide) (lc_removeClip hlt hC hnL hS0 hN hL (by omega) (by omega) hI (by omega) (by omega) (by omega) K)
    | 8, _ => exact jr_tabIn (off := 794) (tgt := 834) hC dL_law_40 (by decide) (by decide) rfl (by decide) (lc_deleteTime hlt hC hnL hS0 hN hL (by omega) (by omega) hI (by omega) (by omega) (by omega) K)
    | 9, _ => exact jr_tabIn (off := 874) (tgt := 914) hC dL_law_40 (by decide) (by decide) rfl (by decide) (lc_clips hlt hC hnL hS0 hN hL (by omega) (by omega) hI (by omega) (by omega) (by omega) K)
    | 10, _ => exact jr_tabIn (off := 887) (tgt := 927) hC dL_law_40 (by decide) (by decide) rfl (by decide) (lc_clip hlt hC hnL hS0 hN hL (by omega) (by omega) hI (by omega) (by omega) (by omega) K)
    | 11, _ => exact jr_tabIn (off := 955) (tgt := 995) hC dL_law_40 (by decide) (by decide) rfl (by decide) (lc_clipValue hlt hC hnL hS0 hN hL (by omega) (by omega) hI (by omega) (by omega) (by omega) K)
    | 12, _ => exact jr_tabIn (off := 1023) (tgt := 1063) hC dL_law_40 (by decide) (by decide) rfl (by decide) (lc_setTrack hlt hC hnL hS0 hN hL (by omega) (by omega) hI (by omega) (by omega) (by omega) K)
    | 13, _ => exact jr_tabIn (off := 1159) (tgt := 1199) hC dL_law_40 (by decide) (by decide) rfl (by decide) (lc_setPoint hlt hC hnL hS0 hN hL (by omega) (by omega) hI (by omega) (by omega) (by omega) K)
    | 14, _ => exact jr_tabIn (off := 1267) (tgt := 1307) hC dL_law_40 (by decide) (by decide) rfl (by decide) (lc_removePoint hlt hC hnL hS0 hN hL (by omega) (by omega) hI (by omega) (by omega) (by omega) K)
    | 15, _ => exact jr_tabIn (off := 1335) (tgt := 1375) hC dL_law_40 (by decide) (by decide) rfl (by decide) (lc_automation hlt hC hnL hS0 hN hL (by omega) (by omega) hI (by omega) (by omega) (by omega) K)
    | 16, _ => exact jr_tabIn (off := 1403) (tgt := 1443) hC dL_law_40 (by decide) (by decide) rfl (by decide) (lc_duck hlt hC hnL hS0 hN hL (by omega) (by omega) hI (by omega) (by omega) (by omega) K)
    | 17, _ => exact jr_tabIn (off := 1521) (tgt := 1561) hC dL_law_40 (by decide) (by decide) rfl (by decide) (lc_endDuck hlt hC hnL hS0 hN hL (by omega) (by omega) hI (by omega) (by omega) (by omega) K)
    | 18, _ => exact jr_tabIn (off := 1577) (tgt := 1617) hC dL_law_40 (by decide) (by decide) rfl (by decide) (lc_duckGain hlt hC hnL hS0 hN hL (by omega) (by omega) hI (by omega) (by omega) (by omega) K)
    | 19, _ => exact jr_tabIn (off := 1645) (tgt := 1685) hC dL_law_40 (by decide) (by decide) rfl (by decide) (lc_trackValue hlt hC hnL hS0 hN hL (by omega) (by omega) hI (by omega) (by omega) (by omega) K)
    | 20, _ => exact jr_tabIn (off := 1713) (tgt := 1753) hC dL_law_40 (by decide) (by decide) rfl (by decide) (lc_isAudible hlt hC hnL hS0 hN hL (by omega) (by omega) hI (by omega) (by omega) (by omega) K)
    | 21, _ => exact jr_tabIn (off := 1776) (tgt := 1816) hC dL_law_40 (by decide) (by decide) rfl (by decide) (lc_setMaster hlt hC hnL hS0 hN hL (by omega) (by omega) hI (by omega) (by omega) (by omega) K)
    | 22, _ => exact jr_tabIn (off := 1832) (tgt := 1872) hC dL_law_40 (by decide) (by decide) rfl (by decide) (lc_mix hlt hC hnL hS0 hN hL (by omega) (by omega) hI (by omega) (by omega) (by omega) K)
    | 23, _ => exact jr_tabIn (off := 1916) (tgt := 1956) hC dL_law_40 (by decide) (by decide) rfl (by decide) (lc_setLoop hlt hC hnL hS0 hN hL (by omega) (by omega) hI (by omega) (by omega) (by omega) K)
    | 24, _ => exact jr_tabIn (off := 1984) (tgt := 2024) hC dL_law_40 (by decide) (by decide) rfl (by decide) (lc_seek hlt hC hnL hS0 hN hL (by omega) (by omega) hI (by omega) (by omega) (by omega) K)
    | 25, _ => exact jr_tabIn (off := 2040) (tgt := 2080) hC dL_law_40 (by decide) (by decide) rfl (by decide) (lc_render hlt hC hnL hS0 hN hL (by omega) (by omega) hI (by omega) (by omega) (by omega) K)
    | 26, _ => exact jr_tabIn (off := 2096) (tgt := 2136) hC dL_law_40 (by decide) (by decide) rfl (by decide) (lc_meter hlt hC hnL hS0 hN hL (by omega) (by omega) hI (by omega) (by omega) (by omega) K)
    | 27, _ => exact jr_tabIn (off := 2151) (tgt := 2191) hC dL_law_40 (by decide) (by decide) rfl (by decide) (lc_clearMeters hlt hC hnL hS0 hN hL (by omega) (by omega) hI (by omega) (by omega) (by omega) K)
    | 28, _ => exact jr_tabIn (off := 2165) (tgt := 2205) hC dL_law_40 (by decide) (by decide) rfl (by decide) (lc_length hlt hC hnL hS0 hN hL (by omega) (by omega) hI (by omega) (by omega) (by omega) K)
    | 29, _ => exact jr_tabIn (off := 2178) (tgt := 2218) hC dL_law_40 (by decide) (by decide) rfl (by decide) (lc_undo hlt hC hnL hS0 hN hL (by omega) (by omega) hI (by omega) (by omega) (by omega) K)
    | 30, _ => exact jr_tabIn (off := 2222) (tgt := 2262) hC dL_law_40 (by decide) (by decide) rfl (by decide) (lc_digest hlt hC hnL hS0 hN hL (by omega) (by omega) hI (by omega) (by omega) (by omega) K)
    | 31, _ => exact jr_tabOut (tgt := 2276) hC dL_law_40 (Or.inr (by decide)) (by decide) (jr_widen (by omega) (by omega) (K M (li_up hI (by omega))))
    | q + 32, hj => exact absurd hj (by omega)
theorem law_loop (hlt : l.stackTraces = false) (hC : mw_C G l room_1 Y cL_law RL) (hnL : mw_nL Y = 8) {b L : Nat} {xs : Nat → Int32} (hS0 : mw_S b L xs Y) (hZ : mw_ZL b Y) (hN : L ≤ 3584) : ∀ (r t k sl : Nat) (M : mw_M), t + r = 512 → k ≤ 254 + 8 * t → sl ≤ 4264 + 48 * t → LI M ((1000 * t : Nat) : Int) → mw_J Y k sl 255 M 23 (Lc t) []
  | 0, t, k, sl, M, hr, hk, hs, hI => law_step hlt hC hnL hS0 hZ hN (by omega) hk hs hI (fun hL => absurd hL (by omega))
  | r + 1, t, k, sl, M, hr, hk, hs, hI => law_step hlt hC hnL hS0 hZ hN (by omega) hk hs hI (fun _ N hN2 => law_loop hlt hC hnL hS0 hZ hN r (t + 1) (k + 8) (sl + 48) N (by omega) (by omega) (by omega) hN2)
end LL
/-- from the law's entry to its end -/
theorem whole_start {p : Program} {e : Env} {s : State} {m : MethodId} {below : List Frame} {meth : Method} {c : Code} (l : Launch) (hflags : l.flags = flags0) {b L : Nat} {xs : Nat → Int32} (hL : L ≤ 3584) (C0 : lw_At p s m meth c b L xs) : W p l e room_1 s m #[Value.ref b] below meth c s.heap [] 0 0 (lw_Z below #[Value.ref b] s) (entryFrame m ([Value.ref b] : List Value).toArray 8) := by
  obtain ⟨hx, hb, hr, hml, hown, hts, hX, hbl, hlk, hgv⟩ := C0
  obtain ⟨G, hK, hG⟩ := st_G hts
  have hE : mw_E G s := st_E hts hgv hG
  have hlt : l.stackTraces = false := by
    unfold Launch.stackTraces
    rw [hflags]
    decide +kernel
  have hC : mw_C G l room_1 (G, p, l, e, room_1, s, m, #[Value.ref b], below, meth, c, 8, lw_Z below #[Value.ref b] s, (fun _ => b), 1) cL_law RL := ⟨⟨hx, hb, hml, hown, fun w hw => hts w (List.mem_filter.mp hw).1⟩, hK, hE, hlt, hlk, rfl, rfl, rfl⟩
  have hb2 := law_start hlt hC rfl (fun M hI => law_loop hlt hC rfl ⟨hX, hbl, rfl, hG⟩ ⟨rfl, rfl, rfl, hr, hG⟩ hL 512 0 254 4264 M rfl (Nat.le_refl _) (Nat.le_refl _) hI)
  have h := lv_entry ([Value.ref 900].map (mw_v (fun _ => b))) (n := 8) (by rw [mw_lg_len _ (mw_v_cat _)]; decide)
  rw [mw_lv_args] at h
  have hq := hb2 (fun _ => b) s.heap [] _ ⟨fun k0 a0 b0 => by omega, fun i j a0 b0 => by omega⟩ (mw_X.rf _ 1) va_S.rf h
  rw [lg_entry_eq]
  exact hq
