-- X9_at X9_tear X9_isSpan X9_copy X9_mean X9_isText X9_text X9_put X9_here X9_skip X9_figure X9_readsHead X9_twoFigures X9_readsHouse X9_kindOfLetter X9_readsLetter X9_faultOf X9_fault X9_post X9_isHouse X9_toHouse X9_farFrom X9_houseTold X9_house X9_isLetter
theorem dX9_at_0 : decode cX9_at 0 = .ok (.aload_n 0, 1) := by decide +kernel
theorem dX9_at_1 : decode cX9_at 1 = .ok (.iload_n 1, 1) := by decide +kernel
theorem dX9_at_2 : decode cX9_at 2 = .ok (.iload_n 2, 1) := by decide +kernel
theorem dX9_at_3 : decode cX9_at 3 = .ok (.invokevirtual 83, 3) := by decide +kernel
theorem dX9_at_6 : decode cX9_at 6 = .ok (.istore_n 3, 1) := by decide +kernel
theorem dX9_at_7 : decode cX9_at 7 = .ok (.iload_n 3, 1) := by decide +kernel
theorem dX9_at_8 : decode cX9_at 8 = .ok (.ifCond .eq 7, 3) := by decide +kernel
theorem dX9_at_11 : decode cX9_at 11 = .ok (.iload_n 3, 1) := by decide +kernel
theorem dX9_at_12 : decode cX9_at 12 = .ok (.goto 18, 3) := by decide +kernel
theorem dX9_at_15 : decode cX9_at 15 = .ok (.aload_n 0, 1) := by decide +kernel
theorem dX9_at_16 : decode cX9_at 16 = .ok (.aload_n 0, 1) := by decide +kernel
theorem dX9_at_17 : decode cX9_at 17 = .ok (.getfield 25, 3) := by decide +kernel
theorem dX9_at_20 : decode cX9_at 20 = .ok (.bipush 40, 2) := by decide +kernel
theorem dX9_at_22 : decode cX9_at 22 = .ok (.iload_n 1, 1) := by decide +kernel
theorem dX9_at_23 : decode cX9_at 23 = .ok (.imul, 1) := by decide +kernel
theorem dX9_at_24 : decode cX9_at 24 = .ok (.iload_n 2, 1) := by decide +kernel
theorem dX9_at_25 : decode cX9_at 25 = .ok (.iadd, 1) := by decide +kernel
theorem dX9_at_26 : decode cX9_at 26 = .ok (.iaload, 1) := by decide +kernel
theorem dX9_at_27 : decode cX9_at 27 = .ok (.invokevirtual 87, 3) := by decide +kernel
theorem dX9_at_30 : decode cX9_at 30 = .ok (.ireturn, 1) := by decide +kernel
set_option maxRecDepth 20000 in
theorem w_X9_at_b30 {w : zWd} {X : zX} {l0 : Launch} {r : Int32} {S1 : zMem} (C : zC LM w X l0 cX9_at RX9 4 4 (some .int)) {s0 : Int32} {S : zMem} {ls : Array Slot} (hl : lv_has ls 4 []) (h : X9_at_b30 s0 S = some (r, S1)) : zV LM w X (some (.int r)) S1 S 30 ls [.int s0] := by
  unfold X9_at_b30 at h
  exact v_ireturn 30 C dX9_at_30 h
set_option maxRecDepth 20000 in
theorem w_X9_at_b0 {w : zWd} {X : zX} {l0 : Launch} {r : Int32} {S1 : zMem} (C : zC LM w X l0 cX9_at RX9 4 4 (some .int)) {x1 : Int32} {x2 : Int32} {S : zMem} {ls : Array Slot} (hl : lv_has ls 4 [(0, .ref (w.2.2.1 0)), (1, .int x1), (2, .int x2)]) (h : X9_at_b0 x1 x2 S = some (r, S1)) : zV LM w X (some (.int r)) S1 S 0 ls [] := by
  unfold X9_at_b0 at h
  refine v_aload_n 0 C dX9_at_0 rfl (lv_at hl 0 rfl) ?_
  refine v_iload_n 1 C dX9_at_1 rfl (lv_at hl 1 rfl) ?_
  refine v_iload_n 2 C dX9_at_2 rfl (lv_at hl 2 rfl) ?_
  obtain ⟨v1, S, hc, h⟩ := zb_e h
  refine v_callVi 3 C (ci := 8) [] dX9_at_3 ml_X9_83 hy_X9_refused (c_X9_refused  hc) (by decide) rfl hl.1 kM_0 rfl (Nat.le_of_ble_eq_true rfl) rfl ?_
  refine v_istore_n 6 C [(3, .int v1), (0, .ref (w.2.2.1 0)), (1, .int x1), (2, .int x2)] dX9_at_6 rfl hl (by decide) rfl (fun ls hl => ?_)
  refine v_iload_n 7 C dX9_at_7 rfl (lv_at hl 0 rfl) ?_
  refine v_if_eq 8 15 C dX9_at_8 (by decide) h (fun h => ?_) (fun h => ?_)
  · refine v_aload_n 15 C dX9_at_15 rfl (lv_at hl 1 rfl) ?_
    refine v_aload_n 16 C dX9_at_16 rfl (lv_at hl 1 rfl) ?_
    refine v_getr 17 (6) C dX9_at_17 fl_X9_25 rfl kM_0 rfl ?_
    refine v_bipush 20 C (v := (40 : Int32)) dX9_at_20 (by decide) ?_
    refine v_iload_n 22 C dX9_at_22 rfl (lv_at hl 2 rfl) ?_
    refine v_imul 23 C dX9_at_23 h (fun v2 h => ?_)
    refine v_iload_n 24 C dX9_at_24 rfl (lv_at hl 3 rfl) ?_
    refine v_iadd 25 C dX9_at_25 h (fun v3 h => ?_)
    refine v_iald 26 C dX9_at_26 kM_6 rfl h (fun v4 h => ?_)
    obtain ⟨v5, S, hc, h⟩ := zb_e h
    refine v_callVi 27 C (ci := 8) [] dX9_at_27 ml_X9_87 hy_X9_tell (c_X9_tell  hc) (by decide) rfl hl.1 kM_0 rfl (Nat.le_of_ble_eq_true rfl) rfl ?_
    exact w_X9_at_b30 C (lv_sub hl [] rfl) h
  · refine v_iload_n 11 C dX9_at_11 rfl (lv_at hl 0 rfl) ?_
    refine v_goto 12 30 C dX9_at_12 (by decide) ?_
    exact w_X9_at_b30 C (lv_sub hl [] rfl) h
theorem c_X9_at {w : zWd} {l0 : Launch} {x1 : Int32} {x2 : Int32} {S S1 : zMem} {r : Int32} (h : f_X9_at x1 x2 S = some (r, S1)) : zMet LM w l0 yX9_at cX9_at 4 (some .int) 4 [.ref (w.2.2.1 0), .int x1, .int x2] S (some (.int r)) S1 :=
  zMet_of (by decide +kernel) (Nat.le_of_ble_eq_true rfl) (fun X ls C hl => w_X9_at_b0 C hl h)
theorem dX9_tear_0 : decode cX9_tear 0 = .ok (.iload_n 1, 1) := by decide +kernel
theorem dX9_tear_1 : decode cX9_tear 1 = .ok (.invokestatic 71, 3) := by decide +kernel
theorem dX9_tear_4 : decode cX9_tear 4 = .ok (.ifCond .ne 5, 3) := by decide +kernel
theorem dX9_tear_7 : decode cX9_tear 7 = .ok (.iconst (-1), 1) := by decide +kernel
theorem dX9_tear_8 : decode cX9_tear 8 = .ok (.ireturn, 1) := by decide +kernel
theorem dX9_tear_9 : decode cX9_tear 9 = .ok (.aload_n 0, 1) := by decide +kernel
theorem dX9_tear_10 : decode cX9_tear 10 = .ok (.getfield 22, 3) := by decide +kernel
theorem dX9_tear_13 : decode cX9_tear 13 = .ok (.iload_n 1, 1) := by decide +kernel
theorem dX9_tear_14 : decode cX9_tear 14 = .ok (.iaload, 1) := by decide +kernel
theorem dX9_tear_15 : decode cX9_tear 15 = .ok (.ifCond .ge 9, 3) := by decide +kernel
theorem dX9_tear_18 : decode cX9_tear 18 = .ok (.aload_n 0, 1) := by decide +kernel
theorem dX9_tear_19 : decode cX9_tear 19 = .ok (.iconst 1, 1) := by decide +kernel
theorem dX9_tear_20 : decode cX9_tear 20 = .ok (.invokevirtual 75, 3) := by decide +kernel
theorem dX9_tear_23 : decode cX9_tear 23 = .ok (.ireturn, 1) := by decide +kernel
theorem dX9_tear_24 : decode cX9_tear 24 = .ok (.aload_n 0, 1) := by decide +kernel
theorem dX9_tear_25 : decode cX9_tear 25 = .ok (.getfield 22, 3) := by decide +kernel
theorem dX9_tear_28 : decode cX9_tear 28 = .ok (.iload_n 1, 1) := by decide +kernel
theorem dX9_tear_29 : decode cX9_tear 29 = .ok (.iconst (-1), 1) := by decide +kernel
theorem dX9_tear_30 : decode cX9_tear 30 = .ok (.iastore, 1) := by decide +kernel
theorem dX9_tear_31 : decode cX9_tear 31 = .ok (.iconst 1, 1) := by decide +kernel
theorem dX9_tear_32 : decode cX9_tear 32 = .ok (.ireturn, 1) := by decide +kernel
set_option maxRecDepth 20000 in
theorem w_X9_tear_b0 {w : zWd} {X : zX} {l0 : Launch} {r : Int32} {S1 : zMem} (C : zC LM w X l0 cX9_tear RX9 2 3 (some .int)) {x1 : Int32} {S : zMem} {ls : Array Slot} (hl : lv_has ls 2 [(0, .ref (w.2.2.1 0)), (1, .int x1)]) (h : X9_tear_b0 x1 S = some (r, S1)) : zV LM w X (some (.int r)) S1 S 0 ls [] := by
  unfold X9_tear_b0 at h
  refine v_iload_n 0 C dX9_tear_0 rfl (lv_at hl 1 rfl) ?_
  obtain ⟨v1, S, hc, h⟩ := zb_e h
  refine v_callSi 1 C [] dX9_tear_1 ml_X9_71 hy_X9_isRow (c_X9_isRow  hc) (by decide) rfl hl.1 (Nat.le_of_ble_eq_true rfl) rfl ?_
  refine v_if_ne 4 9 C dX9_tear_4 (by decide) h (fun h => ?_) (fun h => ?_)
  · refine v_aload_n 9 C dX9_tear_9 rfl (lv_at hl 0 rfl) ?_
    refine v_getr 10 (5) C dX9_tear_10 fl_X9_22 rfl kM_0 rfl ?_
    refine v_iload_n 13 C dX9_tear_13 rfl (lv_at hl 1 rfl) ?_
    refine v_iald 14 C dX9_tear_14 kM_5 rfl h (fun v2 h => ?_)
    refine v_if_ge 15 24 C dX9_tear_15 (by decide) h (fun h => ?_) (fun h => ?_)
    · refine v_aload_n 24 C dX9_tear_24 rfl (lv_at hl 0 rfl) ?_
      refine v_getr 25 (5) C dX9_tear_25 fl_X9_22 rfl kM_0 rfl ?_
      refine v_iload_n 28 C dX9_tear_28 rfl (lv_at hl 1 rfl) ?_
      refine v_iconst 29 C (v := (-1 : Int32)) dX9_tear_29 (by decide) ?_
      refine v_iast 30 C dX9_tear_30 kM_5 rfl h (fun S h => ?_)
      refine v_iconst 31 C (v := (1 : Int32)) dX9_tear_31 (by decide) ?_
      exact v_ireturn 32 C dX9_tear_32 h
    · refine v_aload_n 18 C dX9_tear_18 rfl (lv_at hl 0 rfl) ?_
      refine v_iconst 19 C (v := (1 : Int32)) dX9_tear_19 (by decide) ?_
      obtain ⟨v3, S, hc, h⟩ := zb_e h
      refine v_callVi 20 C (ci := 8) [] dX9_tear_20 ml_X9_75 hy_X9_find (c_X9_find  hc) (by decide) rfl hl.1 kM_0 rfl (Nat.le_of_ble_eq_true rfl) rfl ?_
      exact v_ireturn 23 C dX9_tear_23 h
  · refine v_iconst 7 C (v := (-1 : Int32)) dX9_tear_7 (by decide) ?_
    exact v_ireturn 8 C dX9_tear_8 h
theorem c_X9_tear {w : zWd} {l0 : Launch} {x1 : Int32} {S S1 : zMem} {r : Int32} (h : f_X9_tear x1 S = some (r, S1)) : zMet LM w l0 yX9_tear cX9_tear 2 (some .int) 3 [.ref (w.2.2.1 0), .int x1] S (some (.int r)) S1 :=
  zMet_of (by decide +kernel) (Nat.le_of_ble_eq_true rfl) (fun X ls C hl => w_X9_tear_b0 C hl h)
theorem dX9_isSpan_0 : decode cX9_isSpan 0 = .ok (.iload_n 2, 1) := by decide +kernel
theorem dX9_isSpan_1 : decode cX9_isSpan 1 = .ok (.ifCond .lt 23, 3) := by decide +kernel
theorem dX9_isSpan_4 : decode cX9_isSpan 4 = .ok (.iload_n 2, 1) := by decide +kernel
theorem dX9_isSpan_5 : decode cX9_isSpan 5 = .ok (.i2l, 1) := by decide +kernel
theorem dX9_isSpan_6 : decode cX9_isSpan 6 = .ok (.iload_n 3, 1) := by decide +kernel
theorem dX9_isSpan_7 : decode cX9_isSpan 7 = .ok (.i2l, 1) := by decide +kernel
theorem dX9_isSpan_8 : decode cX9_isSpan 8 = .ok (.ladd, 1) := by decide +kernel
theorem dX9_isSpan_9 : decode cX9_isSpan 9 = .ok (.aload_n 0, 1) := by decide +kernel
theorem dX9_isSpan_10 : decode cX9_isSpan 10 = .ok (.getfield 22, 3) := by decide +kernel
theorem dX9_isSpan_13 : decode cX9_isSpan 13 = .ok (.iload_n 1, 1) := by decide +kernel
theorem dX9_isSpan_14 : decode cX9_isSpan 14 = .ok (.iaload, 1) := by decide +kernel
theorem dX9_isSpan_15 : decode cX9_isSpan 15 = .ok (.i2l, 1) := by decide +kernel
theorem dX9_isSpan_16 : decode cX9_isSpan 16 = .ok (.lcmp, 1) := by decide +kernel
theorem dX9_isSpan_17 : decode cX9_isSpan 17 = .ok (.ifCond .gt 7, 3) := by decide +kernel
theorem dX9_isSpan_20 : decode cX9_isSpan 20 = .ok (.iconst 1, 1) := by decide +kernel
theorem dX9_isSpan_21 : decode cX9_isSpan 21 = .ok (.goto 4, 3) := by decide +kernel
theorem dX9_isSpan_24 : decode cX9_isSpan 24 = .ok (.iconst 0, 1) := by decide +kernel
theorem dX9_isSpan_25 : decode cX9_isSpan 25 = .ok (.ireturn, 1) := by decide +kernel
set_option maxRecDepth 20000 in
theorem w_X9_isSpan_b25 {w : zWd} {X : zX} {l0 : Launch} {r : Int32} {S1 : zMem} (C : zC LM w X l0 cX9_isSpan RX9 4 1 (some .boolean)) {s0 : Int32} {S : zMem} {ls : Array Slot} (hl : lv_has ls 4 []) (h : X9_isSpan_b25 s0 S = some (r, S1)) : zV LM w X (some (.int r)) S1 S 25 ls [.int s0] := by
  unfold X9_isSpan_b25 at h
  exact v_zreturn 25 C dX9_isSpan_25 h
set_option maxRecDepth 20000 in
theorem w_X9_isSpan_b24 {w : zWd} {X : zX} {l0 : Launch} {r : Int32} {S1 : zMem} (C : zC LM w X l0 cX9_isSpan RX9 4 1 (some .boolean)) {S : zMem} {ls : Array Slot} (hl : lv_has ls 4 []) (h : X9_isSpan_b24  S = some (r, S1)) : zV LM w X (some (.int r)) S1 S 24 ls [] := by
  unfold X9_isSpan_b24 at h
  refine v_iconst 24 C (v := (0 : Int32)) dX9_isSpan_24 (by decide) ?_
  exact w_X9_isSpan_b25 C (lv_sub hl [] rfl) h
set_option maxRecDepth 20000 in
theorem w_X9_isSpan_b0 {w : zWd} {X : zX} {l0 : Launch} {r : Int32} {S1 : zMem} (C : zC LM w X l0 cX9_isSpan RX9 4 1 (some .boolean)) {x1 : Int32} {x2 : Int32} {x3 : Int32} {S : zMem} {ls : Array Slot} (hl : lv_has ls 4 [(0, .ref (w.2.2.1 0)), (1, .int x1), (2, .int x2), (3, .int x3)]) (h : X9_isSpan_b0 x1 x2 x3 S = some (r, S1)) : zV LM w X (some (.int r)) S1 S 0 ls [] := by
  unfold X9_isSpan_b0 at h
  refine v_iload_n 0 C dX9_isSpan_0 rfl (lv_at hl 2 rfl) ?_
  refine v_if_lt 1 24 C dX9_isSpan_1 (by decide) h (fun h => ?_) (fun h => ?_)
  · exact w_X9_isSpan_b24 C (lv_sub hl [] rfl) h
  · refine v_iload_n 4 C dX9_isSpan_4 rfl (lv_at hl 2 rfl) ?_
    refine v_i2l 5 C dX9_isSpan_5 h (fun v1 h => ?_)
    refine v_iload_n 6 C dX9_isSpan_6 rfl (lv_at hl 3 rfl) ?_
    refine v_i2l 7 C dX9_isSpan_7 h (fun v2 h => ?_)
    refine v_ladd 8 C dX9_isSpan_8 h (fun v3 h => ?_)
    refine v_aload_n 9 C dX9_isSpan_9 rfl (lv_at hl 0 rfl) ?_
    refine v_getr 10 (5) C dX9_isSpan_10 fl_X9_22 rfl kM_0 rfl ?_
    refine v_iload_n 13 C dX9_isSpan_13 rfl (lv_at hl 1 rfl) ?_
    refine v_iald 14 C dX9_isSpan_14 kM_5 rfl h (fun v4 h => ?_)
    refine v_i2l 15 C dX9_isSpan_15 h (fun v5 h => ?_)
    refine v_lcmp 16 C dX9_isSpan_16 h (fun v6 h => ?_)
    refine v_if_gt 17 24 C dX9_isSpan_17 (by decide) h (fun h => ?_) (fun h => ?_)
    · exact w_X9_isSpan_b24 C (lv_sub hl [] rfl) h
    · refine v_iconst 20 C (v := (1 : Int32)) dX9_isSpan_20 (by decide) ?_
      refine v_goto 21 25 C dX9_isSpan_21 (by decide) ?_
      exact w_X9_isSpan_b25 C (lv_sub hl [] rfl) h
theorem c_X9_isSpan {w : zWd} {l0 : Launch} {x1 : Int32} {x2 : Int32} {x3 : Int32} {S S1 : zMem} {r : Int32} (h : f_X9_isSpan x1 x2 x3 S = some (r, S1)) : zMet LM w l0 yX9_isSpan cX9_isSpan 4 (some .boolean) 1 [.ref (w.2.2.1 0), .int x1, .int x2, .int x3] S (some (.int r)) S1 :=
  zMet_of (by decide +kernel) (Nat.le_of_ble_eq_true rfl) (fun X ls C hl => w_X9_isSpan_b0 C hl h)
theorem ml_X9_90 : Cond.methodLink RX9 90 yX9_isSpan ∈ zT := zT_of (List.mem_of_getElem? (i := 995) (by decide +kernel)) rfl
theorem hy_X9_isSpan : zYv yX9_isSpan cX9_isSpan 4 (some .boolean) 3 := ⟨⟨zT_of (List.mem_of_getElem? (i := 998) (by decide +kernel)) rfl, zT_of (List.mem_of_getElem? (i := 78) (by decide +kernel)) rfl, by decide, by decide +kernel, by decide +kernel, by decide +kernel⟩, zT_of (List.mem_of_getElem? (i := 997) (by decide +kernel)) rfl, zT_of (List.mem_of_getElem? (i := 25) (by decide +kernel)) rfl⟩
theorem dX9_copy_0 : decode cX9_copy 0 = .ok (.iload_n 1, 1) := by decide +kernel
theorem dX9_copy_1 : decode cX9_copy 1 = .ok (.invokestatic 71, 3) := by decide +kernel
theorem dX9_copy_4 : decode cX9_copy 4 = .ok (.ifCond .eq 10, 3) := by decide +kernel
theorem dX9_copy_7 : decode cX9_copy 7 = .ok (.iload_n 3, 1) := by decide +kernel
theorem dX9_copy_8 : decode cX9_copy 8 = .ok (.invokestatic 71, 3) := by decide +kernel
theorem dX9_copy_11 : decode cX9_copy 11 = .ok (.ifCond .ne 5, 3) := by decide +kernel
theorem dX9_copy_14 : decode cX9_copy 14 = .ok (.iconst (-1), 1) := by decide +kernel
theorem dX9_copy_15 : decode cX9_copy 15 = .ok (.ireturn, 1) := by decide +kernel
theorem dX9_copy_16 : decode cX9_copy 16 = .ok (.iload 5, 2) := by decide +kernel
theorem dX9_copy_18 : decode cX9_copy 18 = .ok (.ifCond .ge 9, 3) := by decide +kernel
theorem dX9_copy_21 : decode cX9_copy 21 = .ok (.aload_n 0, 1) := by decide +kernel
theorem dX9_copy_22 : decode cX9_copy 22 = .ok (.iconst 5, 1) := by decide +kernel
theorem dX9_copy_23 : decode cX9_copy 23 = .ok (.invokevirtual 75, 3) := by decide +kernel
theorem dX9_copy_26 : decode cX9_copy 26 = .ok (.ireturn, 1) := by decide +kernel
theorem dX9_copy_27 : decode cX9_copy 27 = .ok (.aload_n 0, 1) := by decide +kernel
theorem dX9_copy_28 : decode cX9_copy 28 = .ok (.getfield 22, 3) := by decide +kernel
theorem dX9_copy_31 : decode cX9_copy 31 = .ok (.iload_n 1, 1) := by decide +kernel
theorem dX9_copy_32 : decode cX9_copy 32 = .ok (.iaload, 1) := by decide +kernel
theorem dX9_copy_33 : decode cX9_copy 33 = .ok (.ifCond .lt 12, 3) := by decide +kernel
theorem dX9_copy_36 : decode cX9_copy 36 = .ok (.aload_n 0, 1) := by decide +kernel
theorem dX9_copy_37 : decode cX9_copy 37 = .ok (.getfield 22, 3) := by decide +kernel
theorem dX9_copy_40 : decode cX9_copy 40 = .ok (.iload_n 3, 1) := by decide +kernel
theorem dX9_copy_41 : decode cX9_copy 41 = .ok (.iaload, 1) := by decide +kernel
theorem dX9_copy_42 : decode cX9_copy 42 = .ok (.ifCond .ge 9, 3) := by decide +kernel
theorem dX9_copy_45 : decode cX9_copy 45 = .ok (.aload_n 0, 1) := by decide +kernel
theorem dX9_copy_46 : decode cX9_copy 46 = .ok (.iconst 1, 1) := by decide +kernel
theorem dX9_copy_47 : decode cX9_copy 47 = .ok (.invokevirtual 75, 3) := by decide +kernel
theorem dX9_copy_50 : decode cX9_copy 50 = .ok (.ireturn, 1) := by decide +kernel
theorem dX9_copy_51 : decode cX9_copy 51 = .ok (.aload_n 0, 1) := by decide +kernel
theorem dX9_copy_52 : decode cX9_copy 52 = .ok (.iload_n 1, 1) := by decide +kernel
theorem dX9_copy_53 : decode cX9_copy 53 = .ok (.iload_n 2, 1) := by decide +kernel
theorem dX9_copy_54 : decode cX9_copy 54 = .ok (.iload 5, 2) := by decide +kernel
theorem dX9_copy_56 : decode cX9_copy 56 = .ok (.invokevirtual 90, 3) := by decide +kernel
theorem dX9_copy_59 : decode cX9_copy 59 = .ok (.ifCond .eq 15, 3) := by decide +kernel
theorem dX9_copy_62 : decode cX9_copy 62 = .ok (.aload_n 0, 1) := by decide +kernel
theorem dX9_copy_63 : decode cX9_copy 63 = .ok (.iload_n 3, 1) := by decide +kernel
theorem dX9_copy_64 : decode cX9_copy 64 = .ok (.iload 4, 2) := by decide +kernel
theorem dX9_copy_66 : decode cX9_copy 66 = .ok (.iload 5, 2) := by decide +kernel
theorem dX9_copy_68 : decode cX9_copy 68 = .ok (.invokevirtual 90, 3) := by decide +kernel
theorem dX9_copy_71 : decode cX9_copy 71 = .ok (.ifCond .ne 9, 3) := by decide +kernel
theorem dX9_copy_74 : decode cX9_copy 74 = .ok (.aload_n 0, 1) := by decide +kernel
theorem dX9_copy_75 : decode cX9_copy 75 = .ok (.iconst 2, 1) := by decide +kernel
theorem dX9_copy_76 : decode cX9_copy 76 = .ok (.invokevirtual 75, 3) := by decide +kernel
theorem dX9_copy_79 : decode cX9_copy 79 = .ok (.ireturn, 1) := by decide +kernel
theorem dX9_copy_80 : decode cX9_copy 80 = .ok (.iload_n 2, 1) := by decide +kernel
theorem dX9_copy_81 : decode cX9_copy 81 = .ok (.iload 4, 2) := by decide +kernel
theorem dX9_copy_83 : decode cX9_copy 83 = .ok (.if_icmp .ge 7, 3) := by decide +kernel
theorem dX9_copy_86 : decode cX9_copy 86 = .ok (.iconst 1, 1) := by decide +kernel
theorem dX9_copy_87 : decode cX9_copy 87 = .ok (.goto 4, 3) := by decide +kernel
theorem dX9_copy_90 : decode cX9_copy 90 = .ok (.iconst 0, 1) := by decide +kernel
theorem dX9_copy_91 : decode cX9_copy 91 = .ok (.istore 6, 2) := by decide +kernel
theorem dX9_copy_93 : decode cX9_copy 93 = .ok (.iconst 0, 1) := by decide +kernel
theorem dX9_copy_94 : decode cX9_copy 94 = .ok (.istore 7, 2) := by decide +kernel
theorem dX9_copy_96 : decode cX9_copy 96 = .ok (.iload 7, 2) := by decide +kernel
theorem dX9_copy_98 : decode cX9_copy 98 = .ok (.iload 5, 2) := by decide +kernel
theorem dX9_copy_100 : decode cX9_copy 100 = .ok (.if_icmp .ge 57, 3) := by decide +kernel
theorem dX9_copy_103 : decode cX9_copy 103 = .ok (.iload 6, 2) := by decide +kernel
theorem dX9_copy_105 : decode cX9_copy 105 = .ok (.ifCond .eq 13, 3) := by decide +kernel
theorem dX9_copy_108 : decode cX9_copy 108 = .ok (.iload 5, 2) := by decide +kernel
theorem dX9_copy_110 : decode cX9_copy 110 = .ok (.iconst 1, 1) := by decide +kernel
theorem dX9_copy_111 : decode cX9_copy 111 = .ok (.isub, 1) := by decide +kernel
theorem dX9_copy_112 : decode cX9_copy 112 = .ok (.iload 7, 2) := by decide +kernel
theorem dX9_copy_114 : decode cX9_copy 114 = .ok (.isub, 1) := by decide +kernel
theorem dX9_copy_115 : decode cX9_copy 115 = .ok (.goto 5, 3) := by decide +kernel
theorem dX9_copy_118 : decode cX9_copy 118 = .ok (.iload 7, 2) := by decide +kernel
theorem dX9_copy_120 : decode cX9_copy 120 = .ok (.istore 8, 2) := by decide +kernel
theorem dX9_copy_122 : decode cX9_copy 122 = .ok (.aload_n 0, 1) := by decide +kernel
theorem dX9_copy_123 : decode cX9_copy 123 = .ok (.getfield 25, 3) := by decide +kernel
theorem dX9_copy_126 : decode cX9_copy 126 = .ok (.bipush 40, 2) := by decide +kernel
theorem dX9_copy_128 : decode cX9_copy 128 = .ok (.iload_n 3, 1) := by decide +kernel
theorem dX9_copy_129 : decode cX9_copy 129 = .ok (.imul, 1) := by decide +kernel
theorem dX9_copy_130 : decode cX9_copy 130 = .ok (.iload 4, 2) := by decide +kernel
theorem dX9_copy_132 : decode cX9_copy 132 = .ok (.iadd, 1) := by decide +kernel
theorem dX9_copy_133 : decode cX9_copy 133 = .ok (.iload 8, 2) := by decide +kernel
theorem dX9_copy_135 : decode cX9_copy 135 = .ok (.iadd, 1) := by decide +kernel
theorem dX9_copy_136 : decode cX9_copy 136 = .ok (.aload_n 0, 1) := by decide +kernel
theorem dX9_copy_137 : decode cX9_copy 137 = .ok (.getfield 25, 3) := by decide +kernel
theorem dX9_copy_140 : decode cX9_copy 140 = .ok (.bipush 40, 2) := by decide +kernel
theorem dX9_copy_142 : decode cX9_copy 142 = .ok (.iload_n 1, 1) := by decide +kernel
theorem dX9_copy_143 : decode cX9_copy 143 = .ok (.imul, 1) := by decide +kernel
theorem dX9_copy_144 : decode cX9_copy 144 = .ok (.iload_n 2, 1) := by decide +kernel
theorem dX9_copy_145 : decode cX9_copy 145 = .ok (.iadd, 1) := by decide +kernel
theorem dX9_copy_146 : decode cX9_copy 146 = .ok (.iload 8, 2) := by decide +kernel
theorem dX9_copy_148 : decode cX9_copy 148 = .ok (.iadd, 1) := by decide +kernel
theorem dX9_copy_149 : decode cX9_copy 149 = .ok (.iaload, 1) := by decide +kernel
theorem dX9_copy_150 : decode cX9_copy 150 = .ok (.iastore, 1) := by decide +kernel
theorem dX9_copy_151 : decode cX9_copy 151 = .ok (.iinc 7 1, 3) := by decide +kernel
theorem dX9_copy_154 : decode cX9_copy 154 = .ok (.goto (-58), 3) := by decide +kernel
theorem dX9_copy_157 : decode cX9_copy 157 = .ok (.iconst 1, 1) := by decide +kernel
theorem dX9_copy_158 : decode cX9_copy 158 = .ok (.ireturn, 1) := by decide +kernel
set_option maxRecDepth 20000 in
theorem w_X9_copy_b14 {w : zWd} {X : zX} {l0 : Launch} {r : Int32} {S1 : zMem} (C : zC LM w X l0 cX9_copy RX9 9 3 (some .int)) {S : zMem} {ls : Array Slot} (hl : lv_has ls 9 []) (h : X9_copy_b14  S = some (r, S1)) : zV LM w X (some (.int r)) S1 S 14 ls [] := by
  unfold X9_copy_b14 at h
  refine v_iconst 14 C (v := (-1 : Int32)) dX9_copy_14 (by decide) ?_
  exact v_ireturn 15 C dX9_copy_15 h
set_option maxRecDepth 20000 in
theorem w_X9_copy_b45 {w : zWd} {X : zX} {l0 : Launch} {r : Int32} {S1 : zMem} (C : zC LM w X l0 cX9_copy RX9 9 3 (some .int)) {S : zMem} {ls : Array Slot} (hl : lv_has ls 9 [(0, .ref (w.2.2.1 0))]) (h : X9_copy_b45  S = some (r, S1)) : zV LM w X (some (.int r)) S1 S 45 ls [] := by
  unfold X9_copy_b45 at h
  refine v_aload_n 45 C dX9_copy_45 rfl (lv_at hl 0 rfl) ?_
  refine v_iconst 46 C (v := (1 : Int32)) dX9_copy_46 (by decide) ?_
  obtain ⟨v1, S, hc, h⟩ := zb_e h
  refine v_callVi 47 C (ci := 8) [] dX9_copy_47 ml_X9_75 hy_X9_find (c_X9_find  hc) (by decide) rfl hl.1 kM_0 rfl (Nat.le_of_ble_eq_true rfl) rfl ?_
  exact v_ireturn 50 C dX9_copy_50 h
set_option maxRecDepth 20000 in
theorem w_X9_copy_b74 {w : zWd} {X : zX} {l0 : Launch} {r : Int32} {S1 : zMem} (C : zC LM w X l0 cX9_copy RX9 9 3 (some .int)) {S : zMem} {ls : Array Slot} (hl : lv_has ls 9 [(0, .ref (w.2.2.1 0))]) (h : X9_copy_b74  S = some (r, S1)) : zV LM w X (some (.int r)) S1 S 74 ls [] := by
  unfold X9_copy_b74 at h
  refine v_aload_n 74 C dX9_copy_74 rfl (lv_at hl 0 rfl) ?_
  refine v_iconst 75 C (v := (2 : Int32)) dX9_copy_75 (by decide) ?_
  obtain ⟨v1, S, hc, h⟩ := zb_e h
  refine v_callVi 76 C (ci := 8) [] dX9_copy_76 ml_X9_75 hy_X9_find (c_X9_find  hc) (by decide) rfl hl.1 kM_0 rfl (Nat.le_of_ble_eq_true rfl) rfl ?_
  exact v_ireturn 79 C dX9_copy_79 h
set_option maxRecDepth 20000 in
theorem w_X9_copy_b120 {w : zWd} {X : zX} {l0 : Launch} {r : Int32} {S1 : zMem} (C : zC LM w X l0 cX9_copy RX9 9 3 (some .int)) {k96 : Int32 → Int32 → Int32 → Int32 → Int32 → Int32 → Int32 → zMem → Option (Int32 × zMem)} (hc96 : ∀ (x1 : Int32) (x2 : Int32) (x3 : Int32) (x4 : Int32) (x5 : Int32) (x6 : Int32) (x7 : Int32) (S : zMem) (ls : Array Slot), lv_has ls 9 [(0, .ref (w.2.2.1 0)), (1, .int x1), (2, .int x2), (3, .int x3), (4, .int x4), (5, .int x5), (6, .int x6), (7, .int x7)] → k96 x1 x2 x3 x4 x5 x6 x7 S = some (r, S1) → zV LM w X (some (.int r)) S1 S 96 ls []) {x1 : Int32} {x2 : Int32} {x3 : Int32} {x4 : Int32} {x5 : Int32} {x6 : Int32} {x7 : Int32} {s0 : Int32} {S : zMem} {ls : Array Slot} (hl : lv_has ls 9 [(0, .ref (w.2.2.1 0)), (1, .int x1), (2, .int x2), (3, .int x3), (4, .int x4), (5, .int x5), (6, .int x6), (7, .int x7)]) (h : X9_copy_b120 k96 x1 x2 x3 x4 x5 x6 x7 s0 S = some (r, S1)) : zV LM w X (some (.int r)) S1 S 120 ls [.int s0] := by
  unfold X9_copy_b120 at h
  refine v_istore 120 C [(8, .int s0), (0, .ref (w.2.2.1 0)), (1, .int x1), (2, .int x2), (3, .int x3), (4, .int x4), (5, .int x5), (6, .int x6), (7, .int x7)] dX9_copy_120 hl (by decide) rfl (fun ls hl => ?_)
  refine v_aload_n 122 C dX9_copy_122 rfl (lv_at hl 1 rfl) ?_
  refine v_getr 123 (6) C dX9_copy_123 fl_X9_25 rfl kM_0 rfl ?_
  refine v_bipush 126 C (v := (40 : Int32)) dX9_copy_126 (by decide) ?_
  refine v_iload_n 128 C dX9_copy_128 rfl (lv_at hl 4 rfl) ?_
  refine v_imul 129 C dX9_copy_129 h (fun v1 h => ?_)
  refine v_iload 130 C dX9_copy_130 (lv_at hl 5 rfl) ?_
  refine v_iadd 132 C dX9_copy_132 h (fun v2 h => ?_)
  refine v_iload 133 C dX9_copy_133 (lv_at hl 0 rfl) ?_
  refine v_iadd 135 C dX9_copy_135 h (fun v3 h => ?_)
  refine v_aload_n 136 C dX9_copy_136 rfl (lv_at hl 1 rfl) ?_
  refine v_getr 137 (6) C dX9_copy_137 fl_X9_25 rfl kM_0 rfl ?_
  refine v_bipush 140 C (v := (40 : Int32)) dX9_copy_140 (by decide) ?_
  refine v_iload_n 142 C dX9_copy_142 rfl (lv_at hl 2 rfl) ?_
  refine v_imul 143 C dX9_copy_143 h (fun v4 h => ?_)
  refine v_iload_n 144 C dX9_copy_144 rfl (lv_at hl 3 rfl) ?_
  refine v_iadd 145 C dX9_copy_145 h (fun v5 h => ?_)
  refine v_iload 146 C dX9_copy_146 (lv_at hl 0 rfl) ?_
  refine v_iadd 148 C dX9_copy_148 h (fun v6 h => ?_)
  refine v_iald 149 C dX9_copy_149 kM_6 rfl h (fun v7 h => ?_)
  refine v_iast 150 C dX9_copy_150 kM_6 rfl h (fun S h => ?_)
  refine v_iinc 151 C (nn := (1 : Int32)) (fun v => [(7, .int v), (8, .int s0), (0, .ref (w.2.2.1 0)), (1, .int x1), (2, .int x2), (3, .int x3), (4, .int x4), (5, .int x5), (6, .int x6)]) dX9_copy_151 hl (k := 8) rfl (by decide) (by decide) (fun _ => rfl) h (fun v8 ls hl h => ?_)
  refine v_goto 154 96 C dX9_copy_154 (by decide) ?_
  exact hc96 _ _ _ _ _ _ _ _ _ (lv_sub hl [2, 3, 4, 5, 6, 7, 8, 0] rfl) h
set_option maxRecDepth 20000 in
theorem w_X9_copy_b96 {w : zWd} {X : zX} {l0 : Launch} {r : Int32} {S1 : zMem} (C : zC LM w X l0 cX9_copy RX9 9 3 (some .int)) {k96 : Int32 → Int32 → Int32 → Int32 → Int32 → Int32 → Int32 → zMem → Option (Int32 × zMem)} (hc96 : ∀ (x1 : Int32) (x2 : Int32) (x3 : Int32) (x4 : Int32) (x5 : Int32) (x6 : Int32) (x7 : Int32) (S : zMem) (ls : Array Slot), lv_has ls 9 [(0, .ref (w.2.2.1 0)), (1, .int x1), (2, .int x2), (3, .int x3), (4, .int x4), (5, .int x5), (6, .int x6), (7, .int x7)] → k96 x1 x2 x3 x4 x5 x6 x7 S = some (r, S1) → zV LM w X (some (.int r)) S1 S 96 ls []) {x1 : Int32} {x2 : Int32} {x3 : Int32} {x4 : Int32} {x5 : Int32} {x6 : Int32} {x7 : Int32} {S : zMem} {ls : Array Slot} (hl : lv_has ls 9 [(0, .ref (w.2.2.1 0)), (1, .int x1), (2, .int x2), (3, .int x3), (4, .int x4), (5, .int x5), (6, .int x6), (7, .int x7)]) (h : X9_copy_b96 k96 x1 x2 x3 x4 x5 x6 x7 S = some (r, S1)) : zV LM w X (some (.int r)) S1 S 96 ls [] := by
  unfold X9_copy_b96 at h
  refine v_iload 96 C dX9_copy_96 (lv_at hl 7 rfl) ?_
  refine v_iload 98 C dX9_copy_98 (lv_at hl 5 rfl) ?_
  refine v_icmp_ge 100 157 C dX9_copy_100 (by decide) h (fun h => ?_) (fun h => ?_)
  · refine v_iconst 157 C (v := (1 : Int32)) dX9_copy_157 (by decide) ?_
    exact v_ireturn 158 C dX9_copy_158 h
  · refine v_iload 103 C dX9_copy_103 (lv_at hl 6 rfl) ?_
    refine v_if_eq 105 118 C dX9_copy_105 (by decide) h (fun h => ?_) (fun h => ?_)
    · refine v_iload 118 C dX9_copy_118 (lv_at hl 7 rfl) ?_
      exact w_X9_copy_b120 C hc96 (lv_sub hl [0, 1, 2, 3, 4, 5, 6, 7] rfl) h
    · refine v_iload 108 C dX9_copy_108 (lv_at hl 5 rfl) ?_
      refine v_iconst 110 C (v := (1 : Int32)) dX9_copy_110 (by decide) ?_
      refine v_isub 111 C dX9_copy_111 h (fun v1 h => ?_)
      refine v_iload 112 C dX9_copy_112 (lv_at hl 7 rfl) ?_
      refine v_isub 114 C dX9_copy_114 h (fun v2 h => ?_)
      refine v_goto 115 120 C dX9_copy_115 (by decide) ?_
      exact w_X9_copy_b120 C hc96 (lv_sub hl [0, 1, 2, 3, 4, 5, 6, 7] rfl) h
theorem w_X9_copy_l96 {w : zWd} {X : zX} {l0 : Launch} {r : Int32} {S1 : zMem} (C : zC LM w X l0 cX9_copy RX9 9 3 (some .int)) : ∀ (n : Nat) (x1 : Int32) (x2 : Int32) (x3 : Int32) (x4 : Int32) (x5 : Int32) (x6 : Int32) (x7 : Int32) (S : zMem) (ls : Array Slot), lv_has ls 9 [(0, .ref (w.2.2.1 0)), (1, .int x1), (2, .int x2), (3, .int x3), (4, .int x4), (5, .int x5), (6, .int x6), (7, .int x7)] → X9_copy_l96 n x1 x2 x3 x4 x5 x6 x7 S = some (r, S1) → zV LM w X (some (.int r)) S1 S 96 ls [] := by
  intro n
  induction n with
  | zero =>
    intro x1 x2 x3 x4 x5 x6 x7 S ls hl h
    cases (show (none : Option (Int32 × zMem)) = some _ from h)
  | succ n ih =>
    intro x1 x2 x3 x4 x5 x6 x7 S ls hl h
    exact w_X9_copy_b96 C ih hl h
set_option maxRecDepth 20000 in
theorem w_X9_copy_b91 {w : zWd} {X : zX} {l0 : Launch} {r : Int32} {S1 : zMem} (C : zC LM w X l0 cX9_copy RX9 9 3 (some .int)) {x1 : Int32} {x2 : Int32} {x3 : Int32} {x4 : Int32} {x5 : Int32} {s0 : Int32} {S : zMem} {ls : Array Slot} (hl : lv_has ls 9 [(0, .ref (w.2.2.1 0)), (1, .int x1), (2, .int x2), (3, .int x3), (4, .int x4), (5, .int x5)]) (h : X9_copy_b91 x1 x2 x3 x4 x5 s0 S = some (r, S1)) : zV LM w X (some (.int r)) S1 S 91 ls [.int s0] := by
  unfold X9_copy_b91 at h
  refine v_istore 91 C [(6, .int s0), (0, .ref (w.2.2.1 0)), (1, .int x1), (2, .int x2), (3, .int x3), (4, .int x4), (5, .int x5)] dX9_copy_91 hl (by decide) rfl (fun ls hl => ?_)
  refine v_iconst 93 C (v := (0 : Int32)) dX9_copy_93 (by decide) ?_
  refine v_istore 94 C [(7, .int (0 : Int32)), (6, .int s0), (0, .ref (w.2.2.1 0)), (1, .int x1), (2, .int x2), (3, .int x3), (4, .int x4), (5, .int x5)] dX9_copy_94 hl (by decide) rfl (fun ls hl => ?_)
  exact w_X9_copy_l96 C zF _ _ _ _ _ _ _ _ _ (lv_sub hl [2, 3, 4, 5, 6, 7, 1, 0] rfl) h
set_option maxRecDepth 20000 in
theorem w_X9_copy_b0 {w : zWd} {X : zX} {l0 : Launch} {r : Int32} {S1 : zMem} (C : zC LM w X l0 cX9_copy RX9 9 3 (some .int)) {x1 : Int32} {x2 : Int32} {x3 : Int32} {x4 : Int32} {x5 : Int32} {S : zMem} {ls : Array Slot} (hl : lv_has ls 9 [(0, .ref (w.2.2.1 0)), (1, .int x1), (2, .int x2), (3, .int x3), (4, .int x4), (5, .int x5)]) (h : X9_copy_b0 x1 x2 x3 x4 x5 S = some (r, S1)) : zV LM w X (some (.int r)) S1 S 0 ls [] := by
  unfold X9_copy_b0 at h
  refine v_iload_n 0 C dX9_copy_0 rfl (lv_at hl 1 rfl) ?_
  obtain ⟨v1, S, hc, h⟩ := zb_e h
  refine v_callSi 1 C [] dX9_copy_1 ml_X9_71 hy_X9_isRow (c_X9_isRow  hc) (by decide) rfl hl.1 (Nat.le_of_ble_eq_true rfl) rfl ?_
  refine v_if_eq 4 14 C dX9_copy_4 (by decide) h (fun h => ?_) (fun h => ?_)
  · exact w_X9_copy_b14 C (lv_sub hl [] rfl) h
  · refine v_iload_n 7 C dX9_copy_7 rfl (lv_at hl 3 rfl) ?_
    obtain ⟨v2, S, hc, h⟩ := zb_e h
    refine v_callSi 8 C [] dX9_copy_8 ml_X9_71 hy_X9_isRow (c_X9_isRow  hc) (by decide) rfl hl.1 (Nat.le_of_ble_eq_true rfl) rfl ?_
    refine v_if_ne 11 16 C dX9_copy_11 (by decide) h (fun h => ?_) (fun h => ?_)
    · refine v_iload 16 C dX9_copy_16 (lv_at hl 5 rfl) ?_
      refine v_if_ge 18 27 C dX9_copy_18 (by decide) h (fun h => ?_) (fun h => ?_)
      · refine v_aload_n 27 C dX9_copy_27 rfl (lv_at hl 0 rfl) ?_
        refine v_getr 28 (5) C dX9_copy_28 fl_X9_22 rfl kM_0 rfl ?_
        refine v_iload_n 31 C dX9_copy_31 rfl (lv_at hl 1 rfl) ?_
        refine v_iald 32 C dX9_copy_32 kM_5 rfl h (fun v3 h => ?_)
        refine v_if_lt 33 45 C dX9_copy_33 (by decide) h (fun h => ?_) (fun h => ?_)
        · exact w_X9_copy_b45 C (lv_sub hl [0] rfl) h
        · refine v_aload_n 36 C dX9_copy_36 rfl (lv_at hl 0 rfl) ?_
          refine v_getr 37 (5) C dX9_copy_37 fl_X9_22 rfl kM_0 rfl ?_
          refine v_iload_n 40 C dX9_copy_40 rfl (lv_at hl 3 rfl) ?_
          refine v_iald 41 C dX9_copy_41 kM_5 rfl h (fun v4 h => ?_)
          refine v_if_ge 42 51 C dX9_copy_42 (by decide) h (fun h => ?_) (fun h => ?_)
          · refine v_aload_n 51 C dX9_copy_51 rfl (lv_at hl 0 rfl) ?_
            refine v_iload_n 52 C dX9_copy_52 rfl (lv_at hl 1 rfl) ?_
            refine v_iload_n 53 C dX9_copy_53 rfl (lv_at hl 2 rfl) ?_
            refine v_iload 54 C dX9_copy_54 (lv_at hl 5 rfl) ?_
            obtain ⟨v5, S, hc, h⟩ := zb_e h
            refine v_callVi 56 C (ci := 8) [] dX9_copy_56 ml_X9_90 hy_X9_isSpan (c_X9_isSpan  hc) (by decide) rfl hl.1 kM_0 rfl (Nat.le_of_ble_eq_true rfl) rfl ?_
            refine v_if_eq 59 74 C dX9_copy_59 (by decide) h (fun h => ?_) (fun h => ?_)
            · exact w_X9_copy_b74 C (lv_sub hl [0] rfl) h
            · refine v_aload_n 62 C dX9_copy_62 rfl (lv_at hl 0 rfl) ?_
              refine v_iload_n 63 C dX9_copy_63 rfl (lv_at hl 3 rfl) ?_
              refine v_iload 64 C dX9_copy_64 (lv_at hl 4 rfl) ?_
              refine v_iload 66 C dX9_copy_66 (lv_at hl 5 rfl) ?_
              obtain ⟨v6, S, hc, h⟩ := zb_e h
              refine v_callVi 68 C (ci := 8) [] dX9_copy_68 ml_X9_90 hy_X9_isSpan (c_X9_isSpan  hc) (by decide) rfl hl.1 kM_0 rfl (Nat.le_of_ble_eq_true rfl) rfl ?_
              refine v_if_ne 71 80 C dX9_copy_71 (by decide) h (fun h => ?_) (fun h => ?_)
              · refine v_iload_n 80 C dX9_copy_80 rfl (lv_at hl 2 rfl) ?_
                refine v_iload 81 C dX9_copy_81 (lv_at hl 4 rfl) ?_
                refine v_icmp_ge 83 90 C dX9_copy_83 (by decide) h (fun h => ?_) (fun h => ?_)
                · refine v_iconst 90 C (v := (0 : Int32)) dX9_copy_90 (by decide) ?_
                  exact w_X9_copy_b91 C (lv_sub hl [0, 1, 2, 3, 4, 5] rfl) h
                · refine v_iconst 86 C (v := (1 : Int32)) dX9_copy_86 (by decide) ?_
                  refine v_goto 87 91 C dX9_copy_87 (by decide) ?_
                  exact w_X9_copy_b91 C (lv_sub hl [0, 1, 2, 3, 4, 5] rfl) h
              · exact w_X9_copy_b74 C (lv_sub hl [0] rfl) h
          · exact w_X9_copy_b45 C (lv_sub hl [0] rfl) h
      · refine v_aload_n 21 C dX9_copy_21 rfl (lv_at hl 0 rfl) ?_
        refine v_iconst 22 C (v := (5 : Int32)) dX9_copy_22 (by decide) ?_
        obtain ⟨v7, S, hc, h⟩ := zb_e h
        refine v_callVi 23 C (ci := 8) [] dX9_copy_23 ml_X9_75 hy_X9_find (c_X9_find  hc) (by decide) rfl hl.1 kM_0 rfl (Nat.le_of_ble_eq_true rfl) rfl ?_
        exact v_ireturn 26 C dX9_copy_26 h
    · exact w_X9_copy_b14 C (lv_sub hl [] rfl) h
theorem c_X9_copy {w : zWd} {l0 : Launch} {x1 : Int32} {x2 : Int32} {x3 : Int32} {x4 : Int32} {x5 : Int32} {S S1 : zMem} {r : Int32} (h : f_X9_copy x1 x2 x3 x4 x5 S = some (r, S1)) : zMet LM w l0 yX9_copy cX9_copy 9 (some .int) 3 [.ref (w.2.2.1 0), .int x1, .int x2, .int x3, .int x4, .int x5] S (some (.int r)) S1 :=
  zMet_of (by decide +kernel) (Nat.le_of_ble_eq_true rfl) (fun X ls C hl => w_X9_copy_b0 C hl h)
theorem dX9_mean_0 : decode cX9_mean 0 = .ok (.iload_n 1, 1) := by decide +kernel
theorem dX9_mean_1 : decode cX9_mean 1 = .ok (.invokestatic 71, 3) := by decide +kernel
theorem dX9_mean_4 : decode cX9_mean 4 = .ok (.ifCond .ne 5, 3) := by decide +kernel
theorem dX9_mean_7 : decode cX9_mean 7 = .ok (.iconst (-1), 1) := by decide +kernel
theorem dX9_mean_8 : decode cX9_mean 8 = .ok (.ireturn, 1) := by decide +kernel
theorem dX9_mean_9 : decode cX9_mean 9 = .ok (.aload_n 0, 1) := by decide +kernel
theorem dX9_mean_10 : decode cX9_mean 10 = .ok (.getfield 22, 3) := by decide +kernel
theorem dX9_mean_13 : decode cX9_mean 13 = .ok (.iload_n 1, 1) := by decide +kernel
theorem dX9_mean_14 : decode cX9_mean 14 = .ok (.iaload, 1) := by decide +kernel
theorem dX9_mean_15 : decode cX9_mean 15 = .ok (.ifCond .ge 9, 3) := by decide +kernel
theorem dX9_mean_18 : decode cX9_mean 18 = .ok (.aload_n 0, 1) := by decide +kernel
theorem dX9_mean_19 : decode cX9_mean 19 = .ok (.iconst 1, 1) := by decide +kernel
theorem dX9_mean_20 : decode cX9_mean 20 = .ok (.invokevirtual 75, 3) := by decide +kernel
theorem dX9_mean_23 : decode cX9_mean 23 = .ok (.ireturn, 1) := by decide +kernel
theorem dX9_mean_24 : decode cX9_mean 24 = .ok (.aload_n 0, 1) := by decide +kernel
theorem dX9_mean_25 : decode cX9_mean 25 = .ok (.getfield 22, 3) := by decide +kernel
theorem dX9_mean_28 : decode cX9_mean 28 = .ok (.iload_n 1, 1) := by decide +kernel
theorem dX9_mean_29 : decode cX9_mean 29 = .ok (.iaload, 1) := by decide +kernel
theorem dX9_mean_30 : decode cX9_mean 30 = .ok (.ifCond .ne 9, 3) := by decide +kernel
theorem dX9_mean_33 : decode cX9_mean 33 = .ok (.aload_n 0, 1) := by decide +kernel
theorem dX9_mean_34 : decode cX9_mean 34 = .ok (.iconst 4, 1) := by decide +kernel
theorem dX9_mean_35 : decode cX9_mean 35 = .ok (.invokevirtual 75, 3) := by decide +kernel
theorem dX9_mean_38 : decode cX9_mean 38 = .ok (.ireturn, 1) := by decide +kernel
theorem dX9_mean_39 : decode cX9_mean 39 = .ok (.lconst 0, 1) := by decide +kernel
theorem dX9_mean_40 : decode cX9_mean 40 = .ok (.lstore_n 2, 1) := by decide +kernel
theorem dX9_mean_41 : decode cX9_mean 41 = .ok (.iconst 0, 1) := by decide +kernel
theorem dX9_mean_42 : decode cX9_mean 42 = .ok (.istore 4, 2) := by decide +kernel
theorem dX9_mean_44 : decode cX9_mean 44 = .ok (.iload 4, 2) := by decide +kernel
theorem dX9_mean_46 : decode cX9_mean 46 = .ok (.aload_n 0, 1) := by decide +kernel
theorem dX9_mean_47 : decode cX9_mean 47 = .ok (.getfield 22, 3) := by decide +kernel
theorem dX9_mean_50 : decode cX9_mean 50 = .ok (.iload_n 1, 1) := by decide +kernel
theorem dX9_mean_51 : decode cX9_mean 51 = .ok (.iaload, 1) := by decide +kernel
theorem dX9_mean_52 : decode cX9_mean 52 = .ok (.if_icmp .ge 25, 3) := by decide +kernel
theorem dX9_mean_55 : decode cX9_mean 55 = .ok (.lload_n 2, 1) := by decide +kernel
theorem dX9_mean_56 : decode cX9_mean 56 = .ok (.aload_n 0, 1) := by decide +kernel
theorem dX9_mean_57 : decode cX9_mean 57 = .ok (.getfield 25, 3) := by decide +kernel
theorem dX9_mean_60 : decode cX9_mean 60 = .ok (.bipush 40, 2) := by decide +kernel
theorem dX9_mean_62 : decode cX9_mean 62 = .ok (.iload_n 1, 1) := by decide +kernel
theorem dX9_mean_63 : decode cX9_mean 63 = .ok (.imul, 1) := by decide +kernel
theorem dX9_mean_64 : decode cX9_mean 64 = .ok (.iload 4, 2) := by decide +kernel
theorem dX9_mean_66 : decode cX9_mean 66 = .ok (.iadd, 1) := by decide +kernel
theorem dX9_mean_67 : decode cX9_mean 67 = .ok (.iaload, 1) := by decide +kernel
theorem dX9_mean_68 : decode cX9_mean 68 = .ok (.i2l, 1) := by decide +kernel
theorem dX9_mean_69 : decode cX9_mean 69 = .ok (.ladd, 1) := by decide +kernel
theorem dX9_mean_70 : decode cX9_mean 70 = .ok (.lstore_n 2, 1) := by decide +kernel
theorem dX9_mean_71 : decode cX9_mean 71 = .ok (.iinc 4 1, 3) := by decide +kernel
theorem dX9_mean_74 : decode cX9_mean 74 = .ok (.goto (-30), 3) := by decide +kernel
theorem dX9_mean_77 : decode cX9_mean 77 = .ok (.aload_n 0, 1) := by decide +kernel
theorem dX9_mean_78 : decode cX9_mean 78 = .ok (.lload_n 2, 1) := by decide +kernel
theorem dX9_mean_79 : decode cX9_mean 79 = .ok (.aload_n 0, 1) := by decide +kernel
theorem dX9_mean_80 : decode cX9_mean 80 = .ok (.getfield 22, 3) := by decide +kernel
theorem dX9_mean_83 : decode cX9_mean 83 = .ok (.iload_n 1, 1) := by decide +kernel
theorem dX9_mean_84 : decode cX9_mean 84 = .ok (.iaload, 1) := by decide +kernel
theorem dX9_mean_85 : decode cX9_mean 85 = .ok (.i2l, 1) := by decide +kernel
theorem dX9_mean_86 : decode cX9_mean 86 = .ok (.ldiv, 1) := by decide +kernel
theorem dX9_mean_87 : decode cX9_mean 87 = .ok (.l2i, 1) := by decide +kernel
theorem dX9_mean_88 : decode cX9_mean 88 = .ok (.invokevirtual 87, 3) := by decide +kernel
theorem dX9_mean_91 : decode cX9_mean 91 = .ok (.ireturn, 1) := by decide +kernel
set_option maxRecDepth 20000 in
theorem w_X9_mean_b44 {w : zWd} {X : zX} {l0 : Launch} {r : Int32} {S1 : zMem} (C : zC LM w X l0 cX9_mean RX9 5 3 (some .int)) {k44 : Int32 → Int64 → Int32 → zMem → Option (Int32 × zMem)} (hc44 : ∀ (x1 : Int32) (y2 : Int64) (x4 : Int32) (S : zMem) (ls : Array Slot), lv_has ls 5 [(0, .ref (w.2.2.1 0)), (1, .int x1), (2, .long y2), (4, .int x4)] → k44 x1 y2 x4 S = some (r, S1) → zV LM w X (some (.int r)) S1 S 44 ls []) {x1 : Int32} {y2 : Int64} {x4 : Int32} {S : zMem} {ls : Array Slot} (hl : lv_has ls 5 [(0, .ref (w.2.2.1 0)), (1, .int x1), (2, .long y2), (4, .int x4)]) (h : X9_mean_b44 k44 x1 y2 x4 S = some (r, S1)) : zV LM w X (some (.int r)) S1 S 44 ls [] := by
  unfold X9_mean_b44 at h
  refine v_iload 44 C dX9_mean_44 (lv_at hl 3 rfl) ?_
  refine v_aload_n 46 C dX9_mean_46 rfl (lv_at hl 0 rfl) ?_
  refine v_getr 47 (5) C dX9_mean_47 fl_X9_22 rfl kM_0 rfl ?_
  refine v_iload_n 50 C dX9_mean_50 rfl (lv_at hl 1 rfl) ?_
  refine v_iald 51 C dX9_mean_51 kM_5 rfl h (fun v1 h => ?_)
  refine v_icmp_ge 52 77 C dX9_mean_52 (by decide) h (fun h => ?_) (fun h => ?_)
  · refine v_aload_n 77 C dX9_mean_77 rfl (lv_at hl 0 rfl) ?_
    refine v_lload_n 78 C dX9_mean_78 rfl (lv_at hl 2 rfl) ?_
    refine v_aload_n 79 C dX9_mean_79 rfl (lv_at hl 0 rfl) ?_
    refine v_getr 80 (5) C dX9_mean_80 fl_X9_22 rfl kM_0 rfl ?_
    refine v_iload_n 83 C dX9_mean_83 rfl (lv_at hl 1 rfl) ?_
    refine v_iald 84 C dX9_mean_84 kM_5 rfl h (fun v2 h => ?_)
    refine v_i2l 85 C dX9_mean_85 h (fun v3 h => ?_)
    refine v_ldivc 86 C dX9_mean_86 h (fun v4 h => ?_)
    refine v_l2i 87 C dX9_mean_87 h (fun v5 h => ?_)
    obtain ⟨v6, S, hc, h⟩ := zb_e h
    refine v_callVi 88 C (ci := 8) [] dX9_mean_88 ml_X9_87 hy_X9_tell (c_X9_tell  hc) (by decide) rfl hl.1 kM_0 rfl (Nat.le_of_ble_eq_true rfl) rfl ?_
    exact v_ireturn 91 C dX9_mean_91 h
  · refine v_lload_n 55 C dX9_mean_55 rfl (lv_at hl 2 rfl) ?_
    refine v_aload_n 56 C dX9_mean_56 rfl (lv_at hl 0 rfl) ?_
    refine v_getr 57 (6) C dX9_mean_57 fl_X9_25 rfl kM_0 rfl ?_
    refine v_bipush 60 C (v := (40 : Int32)) dX9_mean_60 (by decide) ?_
    refine v_iload_n 62 C dX9_mean_62 rfl (lv_at hl 1 rfl) ?_
    refine v_imul 63 C dX9_mean_63 h (fun v7 h => ?_)
    refine v_iload 64 C dX9_mean_64 (lv_at hl 3 rfl) ?_
    refine v_iadd 66 C dX9_mean_66 h (fun v8 h => ?_)
    refine v_iald 67 C dX9_mean_67 kM_6 rfl h (fun v9 h => ?_)
    refine v_i2l 68 C dX9_mean_68 h (fun v10 h => ?_)
    refine v_ladd 69 C dX9_mean_69 h (fun v11 h => ?_)
    refine v_lstore_n 70 C [(2, .long v11), (0, .ref (w.2.2.1 0)), (1, .int x1), (4, .int x4)] dX9_mean_70 rfl hl (by decide) rfl (fun ls hl => ?_)
    refine v_iinc 71 C (nn := (1 : Int32)) (fun v => [(4, .int v), (2, .long v11), (0, .ref (w.2.2.1 0)), (1, .int x1)]) dX9_mean_71 hl (k := 3) rfl (by decide) (by decide) (fun _ => rfl) h (fun v12 ls hl h => ?_)
    refine v_goto 74 44 C dX9_mean_74 (by decide) ?_
    exact hc44 _ _ _ _ _ (lv_sub hl [2, 3, 1, 0] rfl) h
theorem w_X9_mean_l44 {w : zWd} {X : zX} {l0 : Launch} {r : Int32} {S1 : zMem} (C : zC LM w X l0 cX9_mean RX9 5 3 (some .int)) : ∀ (n : Nat) (x1 : Int32) (y2 : Int64) (x4 : Int32) (S : zMem) (ls : Array Slot), lv_has ls 5 [(0, .ref (w.2.2.1 0)), (1, .int x1), (2, .long y2), (4, .int x4)] → X9_mean_l44 n x1 y2 x4 S = some (r, S1) → zV LM w X (some (.int r)) S1 S 44 ls [] := by
  intro n
  induction n with
  | zero =>
    intro x1 y2 x4 S ls hl h
    cases (show (none : Option (Int32 × zMem)) = some _ from h)
  | succ n ih =>
    intro x1 y2 x4 S ls hl h
    exact w_X9_mean_b44 C ih hl h
set_option maxRecDepth 20000 in
theorem w_X9_mean_b0 {w : zWd} {X : zX} {l0 : Launch} {r : Int32} {S1 : zMem} (C : zC LM w X l0 cX9_mean RX9 5 3 (some .int)) {x1 : Int32} {S : zMem} {ls : Array Slot} (hl : lv_has ls 5 [(0, .ref (w.2.2.1 0)), (1, .int x1)]) (h : X9_mean_b0 x1 S = some (r, S1)) : zV LM w X (some (.int r)) S1 S 0 ls [] := by
  unfold X9_mean_b0 at h
  refine v_iload_n 0 C dX9_mean_0 rfl (lv_at hl 1 rfl) ?_
  obtain ⟨v1, S, hc, h⟩ := zb_e h
  refine v_callSi 1 C [] dX9_mean_1 ml_X9_71 hy_X9_isRow (c_X9_isRow  hc) (by decide) rfl hl.1 (Nat.le_of_ble_eq_true rfl) rfl ?_
  refine v_if_ne 4 9 C dX9_mean_4 (by decide) h (fun h => ?_) (fun h => ?_)
  · refine v_aload_n 9 C dX9_mean_9 rfl (lv_at hl 0 rfl) ?_
    refine v_getr 10 (5) C dX9_mean_10 fl_X9_22 rfl kM_0 rfl ?_
    refine v_iload_n 13 C dX9_mean_13 rfl (lv_at hl 1 rfl) ?_
    refine v_iald 14 C dX9_mean_14 kM_5 rfl h (fun v2 h => ?_)
    refine v_if_ge 15 24 C dX9_mean_15 (by decide) h (fun h => ?_) (fun h => ?_)
    · refine v_aload_n 24 C dX9_mean_24 rfl (lv_at hl 0 rfl) ?_
      refine v_getr 25 (5) C dX9_mean_25 fl_X9_22 rfl kM_0 rfl ?_
      refine v_iload_n 28 C dX9_mean_28 rfl (lv_at hl 1 rfl) ?_
      refine v_iald 29 C dX9_mean_29 kM_5 rfl h (fun v3 h => ?_)
      refine v_if_ne 30 39 C dX9_mean_30 (by decide) h (fun h => ?_) (fun h => ?_)
      · refine v_lconst 39 C (v := 0) dX9_mean_39 (by decide) ?_
        refine v_lstore_n 40 C [(2, .long (0 : Int64)), (0, .ref (w.2.2.1 0)), (1, .int x1)] dX9_mean_40 rfl hl (by decide) rfl (fun ls hl => ?_)
        refine v_iconst 41 C (v := (0 : Int32)) dX9_mean_41 (by decide) ?_
        refine v_istore 42 C [(4, .int (0 : Int32)), (2, .long (0 : Int64)), (0, .ref (w.2.2.1 0)), (1, .int x1)] dX9_mean_42 hl (by decide) rfl (fun ls hl => ?_)
        exact w_X9_mean_l44 C zF _ _ _ _ _ (lv_sub hl [2, 3, 1, 0] rfl) h
      · refine v_aload_n 33 C dX9_mean_33 rfl (lv_at hl 0 rfl) ?_
        refine v_iconst 34 C (v := (4 : Int32)) dX9_mean_34 (by decide) ?_
        obtain ⟨v4, S, hc, h⟩ := zb_e h
        refine v_callVi 35 C (ci := 8) [] dX9_mean_35 ml_X9_75 hy_X9_find (c_X9_find  hc) (by decide) rfl hl.1 kM_0 rfl (Nat.le_of_ble_eq_true rfl) rfl ?_
        exact v_ireturn 38 C dX9_mean_38 h
    · refine v_aload_n 18 C dX9_mean_18 rfl (lv_at hl 0 rfl) ?_
      refine v_iconst 19 C (v := (1 : Int32)) dX9_mean_19 (by decide) ?_
      obtain ⟨v5, S, hc, h⟩ := zb_e h
      refine v_callVi 20 C (ci := 8) [] dX9_mean_20 ml_X9_75 hy_X9_find (c_X9_find  hc) (by decide) rfl hl.1 kM_0 rfl (Nat.le_of_ble_eq_true rfl) rfl ?_
      exact v_ireturn 23 C dX9_mean_23 h
  · refine v_iconst 7 C (v := (-1 : Int32)) dX9_mean_7 (by decide) ?_
    exact v_ireturn 8 C dX9_mean_8 h
theorem c_X9_mean {w : zWd} {l0 : Launch} {x1 : Int32} {S S1 : zMem} {r : Int32} (h : f_X9_mean x1 S = some (r, S1)) : zMet LM w l0 yX9_mean cX9_mean 5 (some .int) 3 [.ref (w.2.2.1 0), .int x1] S (some (.int r)) S1 :=
  zMet_of (by decide +kernel) (Nat.le_of_ble_eq_true rfl) (fun X ls C hl => w_X9_mean_b0 C hl h)
theorem co_X9_69 : Cond.constantLong RX9 69 3 ∈ zT := zT_of (List.mem_of_getElem? (i := 1010) (by decide +kernel)) rfl
theorem dX9_isText_0 : decode cX9_isText 0 = .ok (.iload_n 0, 1) := by decide +kernel
theorem dX9_isText_1 : decode cX9_isText 1 = .ok (.i2l, 1) := by decide +kernel
theorem dX9_isText_2 : decode cX9_isText 2 = .ok (.lconst 0, 1) := by decide +kernel
theorem dX9_isText_3 : decode cX9_isText 3 = .ok (.ldc2_w 69, 3) := by decide +kernel
theorem dX9_isText_6 : decode cX9_isText 6 = .ok (.invokestatic 65, 3) := by decide +kernel
theorem dX9_isText_9 : decode cX9_isText 9 = .ok (.ireturn, 1) := by decide +kernel
set_option maxRecDepth 20000 in
theorem w_X9_isText_b0 {w : zWd} {X : zX} {l0 : Launch} {r : Int32} {S1 : zMem} (C : zC LM w X l0 cX9_isText RX9 1 2 (some .boolean)) {x0 : Int32} {S : zMem} {ls : Array Slot} (hl : lv_has ls 1 [(0, .int x0)]) (h : X9_isText_b0 x0 S = some (r, S1)) : zV LM w X (some (.int r)) S1 S 0 ls [] := by
  unfold X9_isText_b0 at h
  refine v_iload_n 0 C dX9_isText_0 rfl (lv_at hl 0 rfl) ?_
  refine v_i2l 1 C dX9_isText_1 h (fun v1 h => ?_)
  refine v_lconst 2 C (v := 0) dX9_isText_2 (by decide) ?_
  refine v_ldc2 3 C (v := 3) dX9_isText_3 co_X9_69 ?_
  obtain ⟨v2, S, hc, h⟩ := zb_e h
  refine v_callSi 6 C [] dX9_isText_6 ml_X9_65 hy_X9_in (c_X9_in  hc) (by decide) rfl hl.1 (Nat.le_of_ble_eq_true rfl) rfl ?_
  exact v_zreturn 9 C dX9_isText_9 h
theorem c_X9_isText {w : zWd} {l0 : Launch} {x0 : Int32} {S S1 : zMem} {r : Int32} (h : f_X9_isText x0 S = some (r, S1)) : zMet LM w l0 yX9_isText cX9_isText 1 (some .boolean) 2 [.int x0] S (some (.int r)) S1 :=
  zMet_of (by decide +kernel) (Nat.le_of_ble_eq_true rfl) (fun X ls C hl => w_X9_isText_b0 C hl h)
theorem fl_X9_31 : zFL RX9 31 8 9 := ⟨_, rfl, by decide, zT_of (List.mem_of_getElem? (i := 879) (by decide +kernel)) rfl⟩
theorem ml_X9_94 : Cond.methodLink RX9 94 yX9_isText ∈ zT := zT_of (List.mem_of_getElem? (i := 1007) (by decide +kernel)) rfl
theorem hy_X9_isText : zYs yX9_isText cX9_isText 1 (some .boolean) 1 := ⟨⟨zT_of (List.mem_of_getElem? (i := 1009) (by decide +kernel)) rfl, zT_of (List.mem_of_getElem? (i := 78) (by decide +kernel)) rfl, by decide, by decide +kernel, by decide +kernel, by decide +kernel⟩, zT_of (List.mem_of_getElem? (i := 1008) (by decide +kernel)) rfl⟩
theorem fl_X9_28 : zFL RX9 28 8 8 := ⟨_, rfl, by decide, zT_of (List.mem_of_getElem? (i := 878) (by decide +kernel)) rfl⟩
theorem dX9_text_0 : decode cX9_text 0 = .ok (.iload_n 1, 1) := by decide +kernel
theorem dX9_text_1 : decode cX9_text 1 = .ok (.invokestatic 94, 3) := by decide +kernel
theorem dX9_text_4 : decode cX9_text 4 = .ok (.ifCond .eq 9, 3) := by decide +kernel
theorem dX9_text_7 : decode cX9_text 7 = .ok (.iload_n 2, 1) := by decide +kernel
theorem dX9_text_8 : decode cX9_text 8 = .ok (.bipush 60, 2) := by decide +kernel
theorem dX9_text_10 : decode cX9_text 10 = .ok (.if_icmp .le 5, 3) := by decide +kernel
theorem dX9_text_13 : decode cX9_text 13 = .ok (.iconst (-1), 1) := by decide +kernel
theorem dX9_text_14 : decode cX9_text 14 = .ok (.ireturn, 1) := by decide +kernel
theorem dX9_text_15 : decode cX9_text 15 = .ok (.iload_n 2, 1) := by decide +kernel
theorem dX9_text_16 : decode cX9_text 16 = .ok (.ifCond .ge 9, 3) := by decide +kernel
theorem dX9_text_19 : decode cX9_text 19 = .ok (.aload_n 0, 1) := by decide +kernel
theorem dX9_text_20 : decode cX9_text 20 = .ok (.iconst 5, 1) := by decide +kernel
theorem dX9_text_21 : decode cX9_text 21 = .ok (.invokevirtual 75, 3) := by decide +kernel
theorem dX9_text_24 : decode cX9_text 24 = .ok (.ireturn, 1) := by decide +kernel
theorem dX9_text_25 : decode cX9_text 25 = .ok (.aload_n 0, 1) := by decide +kernel
theorem dX9_text_26 : decode cX9_text 26 = .ok (.getfield 28, 3) := by decide +kernel
theorem dX9_text_29 : decode cX9_text 29 = .ok (.iload_n 1, 1) := by decide +kernel
theorem dX9_text_30 : decode cX9_text 30 = .ok (.iload_n 2, 1) := by decide +kernel
theorem dX9_text_31 : decode cX9_text 31 = .ok (.iastore, 1) := by decide +kernel
theorem dX9_text_32 : decode cX9_text 32 = .ok (.iconst 0, 1) := by decide +kernel
theorem dX9_text_33 : decode cX9_text 33 = .ok (.istore_n 3, 1) := by decide +kernel
theorem dX9_text_34 : decode cX9_text 34 = .ok (.iload_n 3, 1) := by decide +kernel
theorem dX9_text_35 : decode cX9_text 35 = .ok (.bipush 60, 2) := by decide +kernel
theorem dX9_text_37 : decode cX9_text 37 = .ok (.if_icmp .ge 22, 3) := by decide +kernel
theorem dX9_text_40 : decode cX9_text 40 = .ok (.aload_n 0, 1) := by decide +kernel
theorem dX9_text_41 : decode cX9_text 41 = .ok (.getfield 31, 3) := by decide +kernel
theorem dX9_text_44 : decode cX9_text 44 = .ok (.bipush 60, 2) := by decide +kernel
theorem dX9_text_46 : decode cX9_text 46 = .ok (.iload_n 1, 1) := by decide +kernel
theorem dX9_text_47 : decode cX9_text 47 = .ok (.imul, 1) := by decide +kernel
theorem dX9_text_48 : decode cX9_text 48 = .ok (.iload_n 3, 1) := by decide +kernel
theorem dX9_text_49 : decode cX9_text 49 = .ok (.iadd, 1) := by decide +kernel
theorem dX9_text_50 : decode cX9_text 50 = .ok (.bipush 32, 2) := by decide +kernel
theorem dX9_text_52 : decode cX9_text 52 = .ok (.iastore, 1) := by decide +kernel
theorem dX9_text_53 : decode cX9_text 53 = .ok (.iinc 3 1, 3) := by decide +kernel
theorem dX9_text_56 : decode cX9_text 56 = .ok (.goto (-22), 3) := by decide +kernel
theorem dX9_text_59 : decode cX9_text 59 = .ok (.iload_n 2, 1) := by decide +kernel
theorem dX9_text_60 : decode cX9_text 60 = .ok (.ireturn, 1) := by decide +kernel
set_option maxRecDepth 20000 in
theorem w_X9_text_b13 {w : zWd} {X : zX} {l0 : Launch} {r : Int32} {S1 : zMem} (C : zC LM w X l0 cX9_text RX9 4 3 (some .int)) {S : zMem} {ls : Array Slot} (hl : lv_has ls 4 []) (h : X9_text_b13  S = some (r, S1)) : zV LM w X (some (.int r)) S1 S 13 ls [] := by
  unfold X9_text_b13 at h
  refine v_iconst 13 C (v := (-1 : Int32)) dX9_text_13 (by decide) ?_
  exact v_ireturn 14 C dX9_text_14 h
set_option maxRecDepth 20000 in
theorem w_X9_text_b34 {w : zWd} {X : zX} {l0 : Launch} {r : Int32} {S1 : zMem} (C : zC LM w X l0 cX9_text RX9 4 3 (some .int)) {k34 : Int32 → Int32 → Int32 → zMem → Option (Int32 × zMem)} (hc34 : ∀ (x1 : Int32) (x2 : Int32) (x3 : Int32) (S : zMem) (ls : Array Slot), lv_has ls 4 [(0, .ref (w.2.2.1 0)), (1, .int x1), (2, .int x2), (3, .int x3)] → k34 x1 x2 x3 S = some (r, S1) → zV LM w X (some (.int r)) S1 S 34 ls []) {x1 : Int32} {x2 : Int32} {x3 : Int32} {S : zMem} {ls : Array Slot} (hl : lv_has ls 4 [(0, .ref (w.2.2.1 0)), (1, .int x1), (2, .int x2), (3, .int x3)]) (h : X9_text_b34 k34 x1 x2 x3 S = some (r, S1)) : zV LM w X (some (.int r)) S1 S 34 ls [] := by
  unfold X9_text_b34 at h
  refine v_iload_n 34 C dX9_text_34 rfl (lv_at hl 3 rfl) ?_
  refine v_bipush 35 C (v := (60 : Int32)) dX9_text_35 (by decide) ?_
  refine v_icmp_ge 37 59 C dX9_text_37 (by decide) h (fun h => ?_) (fun h => ?_)
  · refine v_iload_n 59 C dX9_text_59 rfl (lv_at hl 2 rfl) ?_
    exact v_ireturn 60 C dX9_text_60 h
  · refine v_aload_n 40 C dX9_text_40 rfl (lv_at hl 0 rfl) ?_
    refine v_getr 41 (8) C dX9_text_41 fl_X9_31 rfl kM_0 rfl ?_
    refine v_bipush 44 C (v := (60 : Int32)) dX9_text_44 (by decide) ?_
    refine v_iload_n 46 C dX9_text_46 rfl (lv_at hl 1 rfl) ?_
    refine v_imul 47 C dX9_text_47 h (fun v1 h => ?_)
    refine v_iload_n 48 C dX9_text_48 rfl (lv_at hl 3 rfl) ?_
    refine v_iadd 49 C dX9_text_49 h (fun v2 h => ?_)
    refine v_bipush 50 C (v := (32 : Int32)) dX9_text_50 (by decide) ?_
    refine v_iast 52 C dX9_text_52 kM_8 rfl h (fun S h => ?_)
    refine v_iinc 53 C (nn := (1 : Int32)) (fun v => [(3, .int v), (0, .ref (w.2.2.1 0)), (1, .int x1), (2, .int x2)]) dX9_text_53 hl (k := 3) rfl (by decide) (by decide) (fun _ => rfl) h (fun v3 ls hl h => ?_)
    refine v_goto 56 34 C dX9_text_56 (by decide) ?_
    exact hc34 _ _ _ _ _ (lv_sub hl [1, 2, 3, 0] rfl) h
theorem w_X9_text_l34 {w : zWd} {X : zX} {l0 : Launch} {r : Int32} {S1 : zMem} (C : zC LM w X l0 cX9_text RX9 4 3 (some .int)) : ∀ (n : Nat) (x1 : Int32) (x2 : Int32) (x3 : Int32) (S : zMem) (ls : Array Slot), lv_has ls 4 [(0, .ref (w.2.2.1 0)), (1, .int x1), (2, .int x2), (3, .int x3)] → X9_text_l34 n x1 x2 x3 S = some (r, S1) → zV LM w X (some (.int r)) S1 S 34 ls [] := by
  intro n
  induction n with
  | zero =>
    intro x1 x2 x3 S ls hl h
    cases (show (none : Option (Int32 × zMem)) = some _ from h)
  | succ n ih =>
    intro x1 x2 x3 S ls hl h
    exact w_X9_text_b34 C ih hl h
set_option maxRecDepth 20000 in
theorem w_X9_text_b0 {w : zWd} {X : zX} {l0 : Launch} {r : Int32} {S1 : zMem} (C : zC LM w X l0 cX9_text RX9 4 3 (some .int)) {x1 : Int32} {x2 : Int32} {S : zMem} {ls : Array Slot} (hl : lv_has ls 4 [(0, .ref (w.2.2.1 0)), (1, .int x1), (2, .int x2)]) (h : X9_text_b0 x1 x2 S = some (r, S1)) : zV LM w X (some (.int r)) S1 S 0 ls [] := by
  unfold X9_text_b0 at h
  refine v_iload_n 0 C dX9_text_0 rfl (lv_at hl 1 rfl) ?_
  obtain ⟨v1, S, hc, h⟩ := zb_e h
  refine v_callSi 1 C [] dX9_text_1 ml_X9_94 hy_X9_isText (c_X9_isText  hc) (by decide) rfl hl.1 (Nat.le_of_ble_eq_true rfl) rfl ?_
  refine v_if_eq 4 13 C dX9_text_4 (by decide) h (fun h => ?_) (fun h => ?_)
  · exact w_X9_text_b13 C (lv_sub hl [] rfl) h
  · refine v_iload_n 7 C dX9_text_7 rfl (lv_at hl 2 rfl) ?_
    refine v_bipush 8 C (v := (60 : Int32)) dX9_text_8 (by decide) ?_
    refine v_icmp_le 10 15 C dX9_text_10 (by decide) h (fun h => ?_) (fun h => ?_)
    · refine v_iload_n 15 C dX9_text_15 rfl (lv_at hl 2 rfl) ?_
      refine v_if_ge 16 25 C dX9_text_16 (by decide) h (fun h => ?_) (fun h => ?_)
      · refine v_aload_n 25 C dX9_text_25 rfl (lv_at hl 0 rfl) ?_
        refine v_getr 26 (7) C dX9_text_26 fl_X9_28 rfl kM_0 rfl ?_
        refine v_iload_n 29 C dX9_text_29 rfl (lv_at hl 1 rfl) ?_
        refine v_iload_n 30 C dX9_text_30 rfl (lv_at hl 2 rfl) ?_
        refine v_iast 31 C dX9_text_31 kM_7 rfl h (fun S h => ?_)
        refine v_iconst 32 C (v := (0 : Int32)) dX9_text_32 (by decide) ?_
        refine v_istore_n 33 C [(3, .int (0 : Int32)), (0, .ref (w.2.2.1 0)), (1, .int x1), (2, .int x2)] dX9_text_33 rfl hl (by decide) rfl (fun ls hl => ?_)
        exact w_X9_text_l34 C zF _ _ _ _ _ (lv_sub hl [1, 2, 3, 0] rfl) h
      · refine v_aload_n 19 C dX9_text_19 rfl (lv_at hl 0 rfl) ?_
        refine v_iconst 20 C (v := (5 : Int32)) dX9_text_20 (by decide) ?_
        obtain ⟨v2, S, hc, h⟩ := zb_e h
        refine v_callVi 21 C (ci := 8) [] dX9_text_21 ml_X9_75 hy_X9_find (c_X9_find  hc) (by decide) rfl hl.1 kM_0 rfl (Nat.le_of_ble_eq_true rfl) rfl ?_
        exact v_ireturn 24 C dX9_text_24 h
    · exact w_X9_text_b13 C (lv_sub hl [] rfl) h
theorem c_X9_text {w : zWd} {l0 : Launch} {x1 : Int32} {x2 : Int32} {S S1 : zMem} {r : Int32} (h : f_X9_text x1 x2 S = some (r, S1)) : zMet LM w l0 yX9_text cX9_text 4 (some .int) 3 [.ref (w.2.2.1 0), .int x1, .int x2] S (some (.int r)) S1 :=
  zMet_of (by decide +kernel) (Nat.le_of_ble_eq_true rfl) (fun X ls C hl => w_X9_text_b0 C hl h)
theorem dX9_put_0 : decode cX9_put 0 = .ok (.iload_n 1, 1) := by decide +kernel
theorem dX9_put_1 : decode cX9_put 1 = .ok (.invokestatic 94, 3) := by decide +kernel
theorem dX9_put_4 : decode cX9_put 4 = .ok (.ifCond .ne 5, 3) := by decide +kernel
theorem dX9_put_7 : decode cX9_put 7 = .ok (.iconst (-1), 1) := by decide +kernel
theorem dX9_put_8 : decode cX9_put 8 = .ok (.ireturn, 1) := by decide +kernel
theorem dX9_put_9 : decode cX9_put 9 = .ok (.aload_n 0, 1) := by decide +kernel
theorem dX9_put_10 : decode cX9_put 10 = .ok (.getfield 28, 3) := by decide +kernel
theorem dX9_put_13 : decode cX9_put 13 = .ok (.iload_n 1, 1) := by decide +kernel
theorem dX9_put_14 : decode cX9_put 14 = .ok (.iaload, 1) := by decide +kernel
theorem dX9_put_15 : decode cX9_put 15 = .ok (.ifCond .ge 9, 3) := by decide +kernel
theorem dX9_put_18 : decode cX9_put 18 = .ok (.aload_n 0, 1) := by decide +kernel
theorem dX9_put_19 : decode cX9_put 19 = .ok (.iconst 1, 1) := by decide +kernel
theorem dX9_put_20 : decode cX9_put 20 = .ok (.invokevirtual 75, 3) := by decide +kernel
theorem dX9_put_23 : decode cX9_put 23 = .ok (.ireturn, 1) := by decide +kernel
theorem dX9_put_24 : decode cX9_put 24 = .ok (.iload_n 2, 1) := by decide +kernel
theorem dX9_put_25 : decode cX9_put 25 = .ok (.i2l, 1) := by decide +kernel
theorem dX9_put_26 : decode cX9_put 26 = .ok (.lconst 0, 1) := by decide +kernel
theorem dX9_put_27 : decode cX9_put 27 = .ok (.aload_n 0, 1) := by decide +kernel
theorem dX9_put_28 : decode cX9_put 28 = .ok (.getfield 28, 3) := by decide +kernel
theorem dX9_put_31 : decode cX9_put 31 = .ok (.iload_n 1, 1) := by decide +kernel
theorem dX9_put_32 : decode cX9_put 32 = .ok (.iaload, 1) := by decide +kernel
theorem dX9_put_33 : decode cX9_put 33 = .ok (.iconst 1, 1) := by decide +kernel
theorem dX9_put_34 : decode cX9_put 34 = .ok (.isub, 1) := by decide +kernel
theorem dX9_put_35 : decode cX9_put 35 = .ok (.i2l, 1) := by decide +kernel
theorem dX9_put_36 : decode cX9_put 36 = .ok (.invokestatic 65, 3) := by decide +kernel
theorem dX9_put_39 : decode cX9_put 39 = .ok (.ifCond .ne 9, 3) := by decide +kernel
theorem dX9_put_42 : decode cX9_put 42 = .ok (.aload_n 0, 1) := by decide +kernel
theorem dX9_put_43 : decode cX9_put 43 = .ok (.iconst 2, 1) := by decide +kernel
theorem dX9_put_44 : decode cX9_put 44 = .ok (.invokevirtual 75, 3) := by decide +kernel
theorem dX9_put_47 : decode cX9_put 47 = .ok (.ireturn, 1) := by decide +kernel
theorem dX9_put_48 : decode cX9_put 48 = .ok (.aload_n 0, 1) := by decide +kernel
theorem dX9_put_49 : decode cX9_put 49 = .ok (.getfield 31, 3) := by decide +kernel
theorem dX9_put_52 : decode cX9_put 52 = .ok (.bipush 60, 2) := by decide +kernel
theorem dX9_put_54 : decode cX9_put 54 = .ok (.iload_n 1, 1) := by decide +kernel
theorem dX9_put_55 : decode cX9_put 55 = .ok (.imul, 1) := by decide +kernel
theorem dX9_put_56 : decode cX9_put 56 = .ok (.iload_n 2, 1) := by decide +kernel
theorem dX9_put_57 : decode cX9_put 57 = .ok (.iadd, 1) := by decide +kernel
theorem dX9_put_58 : decode cX9_put 58 = .ok (.iaload, 1) := by decide +kernel
theorem dX9_put_59 : decode cX9_put 59 = .ok (.istore 4, 2) := by decide +kernel
theorem dX9_put_61 : decode cX9_put 61 = .ok (.aload_n 0, 1) := by decide +kernel
theorem dX9_put_62 : decode cX9_put 62 = .ok (.getfield 31, 3) := by decide +kernel
theorem dX9_put_65 : decode cX9_put 65 = .ok (.bipush 60, 2) := by decide +kernel
theorem dX9_put_67 : decode cX9_put 67 = .ok (.iload_n 1, 1) := by decide +kernel
theorem dX9_put_68 : decode cX9_put 68 = .ok (.imul, 1) := by decide +kernel
theorem dX9_put_69 : decode cX9_put 69 = .ok (.iload_n 2, 1) := by decide +kernel
theorem dX9_put_70 : decode cX9_put 70 = .ok (.iadd, 1) := by decide +kernel
theorem dX9_put_71 : decode cX9_put 71 = .ok (.iload_n 3, 1) := by decide +kernel
theorem dX9_put_72 : decode cX9_put 72 = .ok (.i2b, 1) := by decide +kernel
theorem dX9_put_73 : decode cX9_put 73 = .ok (.iastore, 1) := by decide +kernel
theorem dX9_put_74 : decode cX9_put 74 = .ok (.iload 4, 2) := by decide +kernel
theorem dX9_put_76 : decode cX9_put 76 = .ok (.sipush 1000, 3) := by decide +kernel
theorem dX9_put_79 : decode cX9_put 79 = .ok (.iadd, 1) := by decide +kernel
theorem dX9_put_80 : decode cX9_put 80 = .ok (.ireturn, 1) := by decide +kernel
set_option maxRecDepth 20000 in
theorem w_X9_put_b0 {w : zWd} {X : zX} {l0 : Launch} {r : Int32} {S1 : zMem} (C : zC LM w X l0 cX9_put RX9 5 3 (some .int)) {x1 : Int32} {x2 : Int32} {x3 : Int32} {S : zMem} {ls : Array Slot} (hl : lv_has ls 5 [(0, .ref (w.2.2.1 0)), (1, .int x1), (2, .int x2), (3, .int x3)]) (h : X9_put_b0 x1 x2 x3 S = some (r, S1)) : zV LM w X (some (.int r)) S1 S 0 ls [] := by
  unfold X9_put_b0 at h
  refine v_iload_n 0 C dX9_put_0 rfl (lv_at hl 1 rfl) ?_
  obtain ⟨v1, S, hc, h⟩ := zb_e h
  refine v_callSi 1 C [] dX9_put_1 ml_X9_94 hy_X9_isText (c_X9_isText  hc) (by decide) rfl hl.1 (Nat.le_of_ble_eq_true rfl) rfl ?_
  refine v_if_ne 4 9 C dX9_put_4 (by decide) h (fun h => ?_) (fun h => ?_)
  · refine v_aload_n 9 C dX9_put_9 rfl (lv_at hl 0 rfl) ?_
    refine v_getr 10 (7) C dX9_put_10 fl_X9_28 rfl kM_0 rfl ?_
    refine v_iload_n 13 C dX9_put_13 rfl (lv_at hl 1 rfl) ?_
    refine v_iald 14 C dX9_put_14 kM_7 rfl h (fun v2 h => ?_)
    refine v_if_ge 15 24 C dX9_put_15 (by decide) h (fun h => ?_) (fun h => ?_)
    · refine v_iload_n 24 C dX9_put_24 rfl (lv_at hl 2 rfl) ?_
      refine v_i2l 25 C dX9_put_25 h (fun v3 h => ?_)
      refine v_lconst 26 C (v := 0) dX9_put_26 (by decide) ?_
      refine v_aload_n 27 C dX9_put_27 rfl (lv_at hl 0 rfl) ?_
      refine v_getr 28 (7) C dX9_put_28 fl_X9_28 rfl kM_0 rfl ?_
      refine v_iload_n 31 C dX9_put_31 rfl (lv_at hl 1 rfl) ?_
      refine v_iald 32 C dX9_put_32 kM_7 rfl h (fun v4 h => ?_)
      refine v_iconst 33 C (v := (1 : Int32)) dX9_put_33 (by decide) ?_
      refine v_isub 34 C dX9_put_34 h (fun v5 h => ?_)
      refine v_i2l 35 C dX9_put_35 h (fun v6 h => ?_)
      obtain ⟨v7, S, hc, h⟩ := zb_e h
      refine v_callSi 36 C [] dX9_put_36 ml_X9_65 hy_X9_in (c_X9_in  hc) (by decide) rfl hl.1 (Nat.le_of_ble_eq_true rfl) rfl ?_
      refine v_if_ne 39 48 C dX9_put_39 (by decide) h (fun h => ?_) (fun h => ?_)
      · refine v_aload_n 48 C dX9_put_48 rfl (lv_at hl 0 rfl) ?_
        refine v_getr 49 (8) C dX9_put_49 fl_X9_31 rfl kM_0 rfl ?_
        refine v_bipush 52 C (v := (60 : Int32)) dX9_put_52 (by decide) ?_
        refine v_iload_n 54 C dX9_put_54 rfl (lv_at hl 1 rfl) ?_
        refine v_imul 55 C dX9_put_55 h (fun v8 h => ?_)
        refine v_iload_n 56 C dX9_put_56 rfl (lv_at hl 2 rfl) ?_
        refine v_iadd 57 C dX9_put_57 h (fun v9 h => ?_)
        refine v_iald 58 C dX9_put_58 kM_8 rfl h (fun v10 h => ?_)
        refine v_istore 59 C [(4, .int v10), (0, .ref (w.2.2.1 0)), (1, .int x1), (2, .int x2), (3, .int x3)] dX9_put_59 hl (by decide) rfl (fun ls hl => ?_)
        refine v_aload_n 61 C dX9_put_61 rfl (lv_at hl 1 rfl) ?_
        refine v_getr 62 (8) C dX9_put_62 fl_X9_31 rfl kM_0 rfl ?_
        refine v_bipush 65 C (v := (60 : Int32)) dX9_put_65 (by decide) ?_
        refine v_iload_n 67 C dX9_put_67 rfl (lv_at hl 2 rfl) ?_
        refine v_imul 68 C dX9_put_68 h (fun v11 h => ?_)
        refine v_iload_n 69 C dX9_put_69 rfl (lv_at hl 3 rfl) ?_
        refine v_iadd 70 C dX9_put_70 h (fun v12 h => ?_)
        refine v_iload_n 71 C dX9_put_71 rfl (lv_at hl 4 rfl) ?_
        refine v_i2b 72 C dX9_put_72 h (fun v13 h => ?_)
        refine v_iast 73 C dX9_put_73 kM_8 rfl h (fun S h => ?_)
        refine v_iload 74 C dX9_put_74 (lv_at hl 0 rfl) ?_
        refine v_sipush 76 C (v := (1000 : Int32)) dX9_put_76 (by decide) ?_
        refine v_iadd 79 C dX9_put_79 h (fun v14 h => ?_)
        exact v_ireturn 80 C dX9_put_80 h
      · refine v_aload_n 42 C dX9_put_42 rfl (lv_at hl 0 rfl) ?_
        refine v_iconst 43 C (v := (2 : Int32)) dX9_put_43 (by decide) ?_
        obtain ⟨v15, S, hc, h⟩ := zb_e h
        refine v_callVi 44 C (ci := 8) [] dX9_put_44 ml_X9_75 hy_X9_find (c_X9_find  hc) (by decide) rfl hl.1 kM_0 rfl (Nat.le_of_ble_eq_true rfl) rfl ?_
        exact v_ireturn 47 C dX9_put_47 h
    · refine v_aload_n 18 C dX9_put_18 rfl (lv_at hl 0 rfl) ?_
      refine v_iconst 19 C (v := (1 : Int32)) dX9_put_19 (by decide) ?_
      obtain ⟨v16, S, hc, h⟩ := zb_e h
      refine v_callVi 20 C (ci := 8) [] dX9_put_20 ml_X9_75 hy_X9_find (c_X9_find  hc) (by decide) rfl hl.1 kM_0 rfl (Nat.le_of_ble_eq_true rfl) rfl ?_
      exact v_ireturn 23 C dX9_put_23 h
  · refine v_iconst 7 C (v := (-1 : Int32)) dX9_put_7 (by decide) ?_
    exact v_ireturn 8 C dX9_put_8 h
theorem c_X9_put {w : zWd} {l0 : Launch} {x1 : Int32} {x2 : Int32} {x3 : Int32} {S S1 : zMem} {r : Int32} (h : f_X9_put x1 x2 x3 S = some (r, S1)) : zMet LM w l0 yX9_put cX9_put 5 (some .int) 3 [.ref (w.2.2.1 0), .int x1, .int x2, .int x3] S (some (.int r)) S1 :=
  zMet_of (by decide +kernel) (Nat.le_of_ble_eq_true rfl) (fun X ls C hl => w_X9_put_b0 C hl h)
theorem fl_X9_97 : zFL RX9 97 8 15 := ⟨_, rfl, by decide, zT_of (List.mem_of_getElem? (i := 885) (by decide +kernel)) rfl⟩
theorem fl_X9_100 : zFL RX9 100 8 16 := ⟨_, rfl, by decide, zT_of (List.mem_of_getElem? (i := 886) (by decide +kernel)) rfl⟩
theorem dX9_here_0 : decode cX9_here 0 = .ok (.aload_n 0, 1) := by decide +kernel
theorem dX9_here_1 : decode cX9_here 1 = .ok (.getfield 31, 3) := by decide +kernel
theorem dX9_here_4 : decode cX9_here 4 = .ok (.aload_n 0, 1) := by decide +kernel
theorem dX9_here_5 : decode cX9_here 5 = .ok (.getfield 97, 3) := by decide +kernel
theorem dX9_here_8 : decode cX9_here 8 = .ok (.aload_n 0, 1) := by decide +kernel
theorem dX9_here_9 : decode cX9_here 9 = .ok (.getfield 100, 3) := by decide +kernel
theorem dX9_here_12 : decode cX9_here 12 = .ok (.iadd, 1) := by decide +kernel
theorem dX9_here_13 : decode cX9_here 13 = .ok (.iaload, 1) := by decide +kernel
theorem dX9_here_14 : decode cX9_here 14 = .ok (.ireturn, 1) := by decide +kernel
set_option maxRecDepth 20000 in
theorem w_X9_here_b0 {w : zWd} {X : zX} {l0 : Launch} {r : Int32} {S1 : zMem} (C : zC LM w X l0 cX9_here RX9 1 1 (some .int)) {S : zMem} {ls : Array Slot} (hl : lv_has ls 1 [(0, .ref (w.2.2.1 0))]) (h : X9_here_b0  S = some (r, S1)) : zV LM w X (some (.int r)) S1 S 0 ls [] := by
  unfold X9_here_b0 at h
  refine v_aload_n 0 C dX9_here_0 rfl (lv_at hl 0 rfl) ?_
  refine v_getr 1 (8) C dX9_here_1 fl_X9_31 rfl kM_0 rfl ?_
  refine v_aload_n 4 C dX9_here_4 rfl (lv_at hl 0 rfl) ?_
  refine v_geti 5 C dX9_here_5 fl_X9_97 rfl kM_0 h (fun v1 h => ?_)
  refine v_aload_n 8 C dX9_here_8 rfl (lv_at hl 0 rfl) ?_
  refine v_geti 9 C dX9_here_9 fl_X9_100 rfl kM_0 h (fun v2 h => ?_)
  refine v_iadd 12 C dX9_here_12 h (fun v3 h => ?_)
  refine v_iald 13 C dX9_here_13 kM_8 rfl h (fun v4 h => ?_)
  exact v_ireturn 14 C dX9_here_14 h
theorem c_X9_here {w : zWd} {l0 : Launch} {S S1 : zMem} {r : Int32} (h : f_X9_here  S = some (r, S1)) : zMet LM w l0 yX9_here cX9_here 1 (some .int) 1 [.ref (w.2.2.1 0)] S (some (.int r)) S1 :=
  zMet_of (by decide +kernel) (Nat.le_of_ble_eq_true rfl) (fun X ls C hl => w_X9_here_b0 C hl h)
theorem fl_X9_103 : zFL RX9 103 8 17 := ⟨_, rfl, by decide, zT_of (List.mem_of_getElem? (i := 887) (by decide +kernel)) rfl⟩
theorem ml_X9_106 : Cond.methodLink RX9 106 yX9_here ∈ zT := zT_of (List.mem_of_getElem? (i := 1031) (by decide +kernel)) rfl
theorem hy_X9_here : zYv yX9_here cX9_here 1 (some .int) 0 := ⟨⟨zT_of (List.mem_of_getElem? (i := 1034) (by decide +kernel)) rfl, zT_of (List.mem_of_getElem? (i := 78) (by decide +kernel)) rfl, by decide, by decide +kernel, by decide +kernel, by decide +kernel⟩, zT_of (List.mem_of_getElem? (i := 1033) (by decide +kernel)) rfl, zT_of (List.mem_of_getElem? (i := 29) (by decide +kernel)) rfl⟩
theorem fp_8_16 : zFP 8 16 .int := fun q h => by cases h; exact ⟨rfl, by decide +kernel⟩
theorem dX9_skip_0 : decode cX9_skip 0 = .ok (.aload_n 0, 1) := by decide +kernel
theorem dX9_skip_1 : decode cX9_skip 1 = .ok (.getfield 100, 3) := by decide +kernel
theorem dX9_skip_4 : decode cX9_skip 4 = .ok (.aload_n 0, 1) := by decide +kernel
theorem dX9_skip_5 : decode cX9_skip 5 = .ok (.getfield 103, 3) := by decide +kernel
theorem dX9_skip_8 : decode cX9_skip 8 = .ok (.if_icmp .ge 25, 3) := by decide +kernel
theorem dX9_skip_11 : decode cX9_skip 11 = .ok (.aload_n 0, 1) := by decide +kernel
theorem dX9_skip_12 : decode cX9_skip 12 = .ok (.invokevirtual 106, 3) := by decide +kernel
theorem dX9_skip_15 : decode cX9_skip 15 = .ok (.bipush 32, 2) := by decide +kernel
theorem dX9_skip_17 : decode cX9_skip 17 = .ok (.if_icmp .ne 16, 3) := by decide +kernel
theorem dX9_skip_20 : decode cX9_skip 20 = .ok (.aload_n 0, 1) := by decide +kernel
theorem dX9_skip_21 : decode cX9_skip 21 = .ok (.dup, 1) := by decide +kernel
theorem dX9_skip_22 : decode cX9_skip 22 = .ok (.getfield 100, 3) := by decide +kernel
theorem dX9_skip_25 : decode cX9_skip 25 = .ok (.iconst 1, 1) := by decide +kernel
theorem dX9_skip_26 : decode cX9_skip 26 = .ok (.iadd, 1) := by decide +kernel
theorem dX9_skip_27 : decode cX9_skip 27 = .ok (.putfield 100, 3) := by decide +kernel
theorem dX9_skip_30 : decode cX9_skip 30 = .ok (.goto (-30), 3) := by decide +kernel
theorem dX9_skip_33 : decode cX9_skip 33 = .ok (.return_, 1) := by decide +kernel
set_option maxRecDepth 20000 in
theorem w_X9_skip_b33 {w : zWd} {X : zX} {l0 : Launch} {r : Unit} {S1 : zMem} (C : zC LM w X l0 cX9_skip RX9 1 2 none) {S : zMem} {ls : Array Slot} (hl : lv_has ls 1 []) (h : X9_skip_b33  S = some (r, S1)) : zV LM w X none S1 S 33 ls [] := by
  unfold X9_skip_b33 at h
  exact v_return 33 C dX9_skip_33 h
set_option maxRecDepth 20000 in
theorem w_X9_skip_b0 {w : zWd} {X : zX} {l0 : Launch} {r : Unit} {S1 : zMem} (C : zC LM w X l0 cX9_skip RX9 1 2 none) {k0 : zMem → Option (Unit × zMem)} (hc0 : ∀ (S : zMem) (ls : Array Slot), lv_has ls 1 [(0, .ref (w.2.2.1 0))] → k0  S = some (r, S1) → zV LM w X none S1 S 0 ls []) {S : zMem} {ls : Array Slot} (hl : lv_has ls 1 [(0, .ref (w.2.2.1 0))]) (h : X9_skip_b0 k0  S = some (r, S1)) : zV LM w X none S1 S 0 ls [] := by
  unfold X9_skip_b0 at h
  refine v_aload_n 0 C dX9_skip_0 rfl (lv_at hl 0 rfl) ?_
  refine v_geti 1 C dX9_skip_1 fl_X9_100 rfl kM_0 h (fun v1 h => ?_)
  refine v_aload_n 4 C dX9_skip_4 rfl (lv_at hl 0 rfl) ?_
  refine v_geti 5 C dX9_skip_5 fl_X9_103 rfl kM_0 h (fun v2 h => ?_)
  refine v_icmp_ge 8 33 C dX9_skip_8 (by decide) h (fun h => ?_) (fun h => ?_)
  · exact w_X9_skip_b33 C (lv_sub hl [] rfl) h
  · refine v_aload_n 11 C dX9_skip_11 rfl (lv_at hl 0 rfl) ?_
    obtain ⟨v3, S, hc, h⟩ := zb_e h
    refine v_callVi 12 C (ci := 8) [] dX9_skip_12 ml_X9_106 hy_X9_here (c_X9_here  hc) (by decide) rfl hl.1 kM_0 rfl (Nat.le_of_ble_eq_true rfl) rfl ?_
    refine v_bipush 15 C (v := (32 : Int32)) dX9_skip_15 (by decide) ?_
    refine v_icmp_ne 17 33 C dX9_skip_17 (by decide) h (fun h => ?_) (fun h => ?_)
    · exact w_X9_skip_b33 C (lv_sub hl [] rfl) h
    · refine v_aload_n 20 C dX9_skip_20 rfl (lv_at hl 0 rfl) ?_
      refine v_dup 21 C dX9_skip_21 rfl ?_
      refine v_geti 22 C dX9_skip_22 fl_X9_100 rfl kM_0 h (fun v4 h => ?_)
      refine v_iconst 25 C (v := (1 : Int32)) dX9_skip_25 (by decide) ?_
      refine v_iadd 26 C dX9_skip_26 h (fun v5 h => ?_)
      refine v_puti 27 C dX9_skip_27 fl_X9_100 fp_8_16 rfl kM_0 h (fun S h => ?_)
      refine v_goto 30 0 C dX9_skip_30 (by decide) ?_
      exact hc0  _ _ (lv_sub hl [0] rfl) h
theorem w_X9_skip_l0 {w : zWd} {X : zX} {l0 : Launch} {r : Unit} {S1 : zMem} (C : zC LM w X l0 cX9_skip RX9 1 2 none) : ∀ (n : Nat) (S : zMem) (ls : Array Slot), lv_has ls 1 [(0, .ref (w.2.2.1 0))] → X9_skip_l0 n  S = some (r, S1) → zV LM w X none S1 S 0 ls [] := by
  intro n
  induction n with
  | zero =>
    intro  S ls hl h
    cases (show (none : Option (Unit × zMem)) = some _ from h)
  | succ n ih =>
    intro  S ls hl h
    exact w_X9_skip_b0 C ih hl h
theorem c_X9_skip {w : zWd} {l0 : Launch} {S S1 : zMem} {r : Unit} (h : f_X9_skip  S = some (r, S1)) : zMet LM w l0 yX9_skip cX9_skip 1 none 2 [.ref (w.2.2.1 0)] S none S1 :=
  zMet_of (by decide +kernel) (Nat.le_of_ble_eq_true rfl) (fun X ls C hl => w_X9_skip_l0 C zF  _ _ hl h)
theorem co_X9_110 : Cond.constantLong RX9 110 48 ∈ zT := zT_of (List.mem_of_getElem? (i := 1039) (by decide +kernel)) rfl
theorem dX9_figure_0 : decode cX9_figure 0 = .ok (.aload_n 0, 1) := by decide +kernel
theorem dX9_figure_1 : decode cX9_figure 1 = .ok (.getfield 100, 3) := by decide +kernel
theorem dX9_figure_4 : decode cX9_figure 4 = .ok (.aload_n 0, 1) := by decide +kernel
theorem dX9_figure_5 : decode cX9_figure 5 = .ok (.getfield 103, 3) := by decide +kernel
theorem dX9_figure_8 : decode cX9_figure 8 = .ok (.if_icmp .eq 22, 3) := by decide +kernel
theorem dX9_figure_11 : decode cX9_figure 11 = .ok (.aload_n 0, 1) := by decide +kernel
theorem dX9_figure_12 : decode cX9_figure 12 = .ok (.invokevirtual 106, 3) := by decide +kernel
theorem dX9_figure_15 : decode cX9_figure 15 = .ok (.i2l, 1) := by decide +kernel
theorem dX9_figure_16 : decode cX9_figure 16 = .ok (.ldc2_w 110, 3) := by decide +kernel
theorem dX9_figure_19 : decode cX9_figure 19 = .ok (.bipush 48, 2) := by decide +kernel
theorem dX9_figure_21 : decode cX9_figure 21 = .ok (.iload_n 1, 1) := by decide +kernel
theorem dX9_figure_22 : decode cX9_figure 22 = .ok (.iadd, 1) := by decide +kernel
theorem dX9_figure_23 : decode cX9_figure 23 = .ok (.i2l, 1) := by decide +kernel
theorem dX9_figure_24 : decode cX9_figure 24 = .ok (.invokestatic 65, 3) := by decide +kernel
theorem dX9_figure_27 : decode cX9_figure 27 = .ok (.ifCond .ne 6, 3) := by decide +kernel
theorem dX9_figure_30 : decode cX9_figure 30 = .ok (.bipush (-9), 2) := by decide +kernel
theorem dX9_figure_32 : decode cX9_figure 32 = .ok (.ireturn, 1) := by decide +kernel
theorem dX9_figure_33 : decode cX9_figure 33 = .ok (.aload_n 0, 1) := by decide +kernel
theorem dX9_figure_34 : decode cX9_figure 34 = .ok (.dup, 1) := by decide +kernel
theorem dX9_figure_35 : decode cX9_figure 35 = .ok (.getfield 100, 3) := by decide +kernel
theorem dX9_figure_38 : decode cX9_figure 38 = .ok (.iconst 1, 1) := by decide +kernel
theorem dX9_figure_39 : decode cX9_figure 39 = .ok (.iadd, 1) := by decide +kernel
theorem dX9_figure_40 : decode cX9_figure 40 = .ok (.putfield 100, 3) := by decide +kernel
theorem dX9_figure_43 : decode cX9_figure 43 = .ok (.aload_n 0, 1) := by decide +kernel
theorem dX9_figure_44 : decode cX9_figure 44 = .ok (.getfield 31, 3) := by decide +kernel
theorem dX9_figure_47 : decode cX9_figure 47 = .ok (.aload_n 0, 1) := by decide +kernel
theorem dX9_figure_48 : decode cX9_figure 48 = .ok (.getfield 97, 3) := by decide +kernel
theorem dX9_figure_51 : decode cX9_figure 51 = .ok (.aload_n 0, 1) := by decide +kernel
theorem dX9_figure_52 : decode cX9_figure 52 = .ok (.getfield 100, 3) := by decide +kernel
theorem dX9_figure_55 : decode cX9_figure 55 = .ok (.iadd, 1) := by decide +kernel
theorem dX9_figure_56 : decode cX9_figure 56 = .ok (.iconst 1, 1) := by decide +kernel
theorem dX9_figure_57 : decode cX9_figure 57 = .ok (.isub, 1) := by decide +kernel
theorem dX9_figure_58 : decode cX9_figure 58 = .ok (.iaload, 1) := by decide +kernel
theorem dX9_figure_59 : decode cX9_figure 59 = .ok (.bipush 48, 2) := by decide +kernel
theorem dX9_figure_61 : decode cX9_figure 61 = .ok (.isub, 1) := by decide +kernel
theorem dX9_figure_62 : decode cX9_figure 62 = .ok (.ireturn, 1) := by decide +kernel
set_option maxRecDepth 20000 in
theorem w_X9_figure_b30 {w : zWd} {X : zX} {l0 : Launch} {r : Int32} {S1 : zMem} (C : zC LM w X l0 cX9_figure RX9 2 2 (some .int)) {S : zMem} {ls : Array Slot} (hl : lv_has ls 2 []) (h : X9_figure_b30  S = some (r, S1)) : zV LM w X (some (.int r)) S1 S 30 ls [] := by
  unfold X9_figure_b30 at h
  refine v_bipush 30 C (v := (-9 : Int32)) dX9_figure_30 (by decide) ?_
  exact v_ireturn 32 C dX9_figure_32 h
set_option maxRecDepth 20000 in
theorem w_X9_figure_b0 {w : zWd} {X : zX} {l0 : Launch} {r : Int32} {S1 : zMem} (C : zC LM w X l0 cX9_figure RX9 2 2 (some .int)) {x1 : Int32} {S : zMem} {ls : Array Slot} (hl : lv_has ls 2 [(0, .ref (w.2.2.1 0)), (1, .int x1)]) (h : X9_figure_b0 x1 S = some (r, S1)) : zV LM w X (some (.int r)) S1 S 0 ls [] := by
  unfold X9_figure_b0 at h
  refine v_aload_n 0 C dX9_figure_0 rfl (lv_at hl 0 rfl) ?_
  refine v_geti 1 C dX9_figure_1 fl_X9_100 rfl kM_0 h (fun v1 h => ?_)
  refine v_aload_n 4 C dX9_figure_4 rfl (lv_at hl 0 rfl) ?_
  refine v_geti 5 C dX9_figure_5 fl_X9_103 rfl kM_0 h (fun v2 h => ?_)
  refine v_icmp_eq 8 30 C dX9_figure_8 (by decide) h (fun h => ?_) (fun h => ?_)
  · exact w_X9_figure_b30 C (lv_sub hl [] rfl) h
  · refine v_aload_n 11 C dX9_figure_11 rfl (lv_at hl 0 rfl) ?_
    obtain ⟨v3, S, hc, h⟩ := zb_e h
    refine v_callVi 12 C (ci := 8) [] dX9_figure_12 ml_X9_106 hy_X9_here (c_X9_here  hc) (by decide) rfl hl.1 kM_0 rfl (Nat.le_of_ble_eq_true rfl) rfl ?_
    refine v_i2l 15 C dX9_figure_15 h (fun v4 h => ?_)
    refine v_ldc2 16 C (v := 48) dX9_figure_16 co_X9_110 ?_
    refine v_bipush 19 C (v := (48 : Int32)) dX9_figure_19 (by decide) ?_
    refine v_iload_n 21 C dX9_figure_21 rfl (lv_at hl 1 rfl) ?_
    refine v_iadd 22 C dX9_figure_22 h (fun v5 h => ?_)
    refine v_i2l 23 C dX9_figure_23 h (fun v6 h => ?_)
    obtain ⟨v7, S, hc, h⟩ := zb_e h
    refine v_callSi 24 C [] dX9_figure_24 ml_X9_65 hy_X9_in (c_X9_in  hc) (by decide) rfl hl.1 (Nat.le_of_ble_eq_true rfl) rfl ?_
    refine v_if_ne 27 33 C dX9_figure_27 (by decide) h (fun h => ?_) (fun h => ?_)
    · refine v_aload_n 33 C dX9_figure_33 rfl (lv_at hl 0 rfl) ?_
      refine v_dup 34 C dX9_figure_34 rfl ?_
      refine v_geti 35 C dX9_figure_35 fl_X9_100 rfl kM_0 h (fun v8 h => ?_)
      refine v_iconst 38 C (v := (1 : Int32)) dX9_figure_38 (by decide) ?_
      refine v_iadd 39 C dX9_figure_39 h (fun v9 h => ?_)
      refine v_puti 40 C dX9_figure_40 fl_X9_100 fp_8_16 rfl kM_0 h (fun S h => ?_)
      refine v_aload_n 43 C dX9_figure_43 rfl (lv_at hl 0 rfl) ?_
      refine v_getr 44 (8) C dX9_figure_44 fl_X9_31 rfl kM_0 rfl ?_
      refine v_aload_n 47 C dX9_figure_47 rfl (lv_at hl 0 rfl) ?_
      refine v_geti 48 C dX9_figure_48 fl_X9_97 rfl kM_0 h (fun v10 h => ?_)
      refine v_aload_n 51 C dX9_figure_51 rfl (lv_at hl 0 rfl) ?_
      refine v_geti 52 C dX9_figure_52 fl_X9_100 rfl kM_0 h (fun v11 h => ?_)
      refine v_iadd 55 C dX9_figure_55 h (fun v12 h => ?_)
      refine v_iconst 56 C (v := (1 : Int32)) dX9_figure_56 (by decide) ?_
      refine v_isub 57 C dX9_figure_57 h (fun v13 h => ?_)
      refine v_iald 58 C dX9_figure_58 kM_8 rfl h (fun v14 h => ?_)
      refine v_bipush 59 C (v := (48 : Int32)) dX9_figure_59 (by decide) ?_
      refine v_isub 61 C dX9_figure_61 h (fun v15 h => ?_)
      exact v_ireturn 62 C dX9_figure_62 h
    · exact w_X9_figure_b30 C (lv_sub hl [] rfl) h
theorem c_X9_figure {w : zWd} {l0 : Launch} {x1 : Int32} {S S1 : zMem} {r : Int32} (h : f_X9_figure x1 S = some (r, S1)) : zMet LM w l0 yX9_figure cX9_figure 2 (some .int) 2 [.ref (w.2.2.1 0), .int x1] S (some (.int r)) S1 :=
  zMet_of (by decide +kernel) (Nat.le_of_ble_eq_true rfl) (fun X ls C hl => w_X9_figure_b0 C hl h)
theorem fl_X9_121 : zFL RX9 121 8 19 := ⟨_, rfl, by decide, zT_of (List.mem_of_getElem? (i := 889) (by decide +kernel)) rfl⟩
theorem fp_8_19 : zFP 8 19 .int := fun q h => by cases h; exact ⟨rfl, by decide +kernel⟩
theorem ml_X9_115 : Cond.methodLink RX9 115 yX9_skip ∈ zT := zT_of (List.mem_of_getElem? (i := 1027) (by decide +kernel)) rfl
theorem hy_X9_skip : zYv yX9_skip cX9_skip 1 none 0 := ⟨⟨zT_of (List.mem_of_getElem? (i := 1030) (by decide +kernel)) rfl, zT_of (List.mem_of_getElem? (i := 78) (by decide +kernel)) rfl, by decide, by decide +kernel, by decide +kernel, by decide +kernel⟩, zT_of (List.mem_of_getElem? (i := 1029) (by decide +kernel)) rfl, zT_of (List.mem_of_getElem? (i := 28) (by decide +kernel)) rfl⟩
theorem ml_X9_112 : Cond.methodLink RX9 112 yX9_figure ∈ zT := zT_of (List.mem_of_getElem? (i := 1035) (by decide +kernel)) rfl
theorem hy_X9_figure : zYv yX9_figure cX9_figure 2 (some .int) 1 := ⟨⟨zT_of (List.mem_of_getElem? (i := 1038) (by decide +kernel)) rfl, zT_of (List.mem_of_getElem? (i := 78) (by decide +kernel)) rfl, by decide, by decide +kernel, by decide +kernel, by decide +kernel⟩, zT_of (List.mem_of_getElem? (i := 1037) (by decide +kernel)) rfl, zT_of (List.mem_of_getElem? (i := 30) (by decide +kernel)) rfl⟩
theorem fl_X9_118 : zFL RX9 118 8 18 := ⟨_, rfl, by decide, zT_of (List.mem_of_getElem? (i := 888) (by decide +kernel)) rfl⟩
theorem fp_8_18 : zFP 8 18 .int := fun q h => by cases h; exact ⟨rfl, by decide +kernel⟩
theorem dX9_readsHead_0 : decode cX9_readsHead 0 = .ok (.aload_n 0, 1) := by decide +kernel
theorem dX9_readsHead_1 : decode cX9_readsHead 1 = .ok (.invokevirtual 115, 3) := by decide +kernel
theorem dX9_readsHead_4 : decode cX9_readsHead 4 = .ok (.aload_n 0, 1) := by decide +kernel
theorem dX9_readsHead_5 : decode cX9_readsHead 5 = .ok (.getfield 100, 3) := by decide +kernel
theorem dX9_readsHead_8 : decode cX9_readsHead 8 = .ok (.aload_n 0, 1) := by decide +kernel
theorem dX9_readsHead_9 : decode cX9_readsHead 9 = .ok (.getfield 103, 3) := by decide +kernel
theorem dX9_readsHead_12 : decode cX9_readsHead 12 = .ok (.if_icmp .eq 12, 3) := by decide +kernel
theorem dX9_readsHead_15 : decode cX9_readsHead 15 = .ok (.aload_n 0, 1) := by decide +kernel
theorem dX9_readsHead_16 : decode cX9_readsHead 16 = .ok (.invokevirtual 106, 3) := by decide +kernel
theorem dX9_readsHead_19 : decode cX9_readsHead 19 = .ok (.bipush 112, 2) := by decide +kernel
theorem dX9_readsHead_21 : decode cX9_readsHead 21 = .ok (.if_icmp .eq 5, 3) := by decide +kernel
theorem dX9_readsHead_24 : decode cX9_readsHead 24 = .ok (.iconst 0, 1) := by decide +kernel
theorem dX9_readsHead_25 : decode cX9_readsHead 25 = .ok (.ireturn, 1) := by decide +kernel
theorem dX9_readsHead_26 : decode cX9_readsHead 26 = .ok (.aload_n 0, 1) := by decide +kernel
theorem dX9_readsHead_27 : decode cX9_readsHead 27 = .ok (.dup, 1) := by decide +kernel
theorem dX9_readsHead_28 : decode cX9_readsHead 28 = .ok (.getfield 100, 3) := by decide +kernel
theorem dX9_readsHead_31 : decode cX9_readsHead 31 = .ok (.iconst 1, 1) := by decide +kernel
theorem dX9_readsHead_32 : decode cX9_readsHead 32 = .ok (.iadd, 1) := by decide +kernel
theorem dX9_readsHead_33 : decode cX9_readsHead 33 = .ok (.putfield 100, 3) := by decide +kernel
theorem dX9_readsHead_36 : decode cX9_readsHead 36 = .ok (.aload_n 0, 1) := by decide +kernel
theorem dX9_readsHead_37 : decode cX9_readsHead 37 = .ok (.aload_n 0, 1) := by decide +kernel
theorem dX9_readsHead_38 : decode cX9_readsHead 38 = .ok (.bipush 9, 2) := by decide +kernel
theorem dX9_readsHead_40 : decode cX9_readsHead 40 = .ok (.invokevirtual 112, 3) := by decide +kernel
theorem dX9_readsHead_43 : decode cX9_readsHead 43 = .ok (.putfield 118, 3) := by decide +kernel
theorem dX9_readsHead_46 : decode cX9_readsHead 46 = .ok (.aload_n 0, 1) := by decide +kernel
theorem dX9_readsHead_47 : decode cX9_readsHead 47 = .ok (.aload_n 0, 1) := by decide +kernel
theorem dX9_readsHead_48 : decode cX9_readsHead 48 = .ok (.getfield 118, 3) := by decide +kernel
theorem dX9_readsHead_51 : decode cX9_readsHead 51 = .ok (.bipush (-9), 2) := by decide +kernel
theorem dX9_readsHead_53 : decode cX9_readsHead 53 = .ok (.if_icmp .ne 8, 3) := by decide +kernel
theorem dX9_readsHead_56 : decode cX9_readsHead 56 = .ok (.bipush (-9), 2) := by decide +kernel
theorem dX9_readsHead_58 : decode cX9_readsHead 58 = .ok (.goto 8, 3) := by decide +kernel
theorem dX9_readsHead_61 : decode cX9_readsHead 61 = .ok (.aload_n 0, 1) := by decide +kernel
theorem dX9_readsHead_62 : decode cX9_readsHead 62 = .ok (.iconst 2, 1) := by decide +kernel
theorem dX9_readsHead_63 : decode cX9_readsHead 63 = .ok (.invokevirtual 112, 3) := by decide +kernel
theorem dX9_readsHead_66 : decode cX9_readsHead 66 = .ok (.putfield 121, 3) := by decide +kernel
theorem dX9_readsHead_69 : decode cX9_readsHead 69 = .ok (.aload_n 0, 1) := by decide +kernel
theorem dX9_readsHead_70 : decode cX9_readsHead 70 = .ok (.getfield 121, 3) := by decide +kernel
theorem dX9_readsHead_73 : decode cX9_readsHead 73 = .ok (.bipush (-9), 2) := by decide +kernel
theorem dX9_readsHead_75 : decode cX9_readsHead 75 = .ok (.if_icmp .eq 7, 3) := by decide +kernel
theorem dX9_readsHead_78 : decode cX9_readsHead 78 = .ok (.iconst 1, 1) := by decide +kernel
theorem dX9_readsHead_79 : decode cX9_readsHead 79 = .ok (.goto 4, 3) := by decide +kernel
theorem dX9_readsHead_82 : decode cX9_readsHead 82 = .ok (.iconst 0, 1) := by decide +kernel
theorem dX9_readsHead_83 : decode cX9_readsHead 83 = .ok (.ireturn, 1) := by decide +kernel
set_option maxRecDepth 20000 in
theorem w_X9_readsHead_b24 {w : zWd} {X : zX} {l0 : Launch} {r : Int32} {S1 : zMem} (C : zC LM w X l0 cX9_readsHead RX9 1 3 (some .boolean)) {S : zMem} {ls : Array Slot} (hl : lv_has ls 1 []) (h : X9_readsHead_b24  S = some (r, S1)) : zV LM w X (some (.int r)) S1 S 24 ls [] := by
  unfold X9_readsHead_b24 at h
  refine v_iconst 24 C (v := (0 : Int32)) dX9_readsHead_24 (by decide) ?_
  exact v_zreturn 25 C dX9_readsHead_25 h
set_option maxRecDepth 20000 in
theorem w_X9_readsHead_b83 {w : zWd} {X : zX} {l0 : Launch} {r : Int32} {S1 : zMem} (C : zC LM w X l0 cX9_readsHead RX9 1 3 (some .boolean)) {s0 : Int32} {S : zMem} {ls : Array Slot} (hl : lv_has ls 1 []) (h : X9_readsHead_b83 s0 S = some (r, S1)) : zV LM w X (some (.int r)) S1 S 83 ls [.int s0] := by
  unfold X9_readsHead_b83 at h
  exact v_zreturn 83 C dX9_readsHead_83 h
set_option maxRecDepth 20000 in
theorem w_X9_readsHead_b66 {w : zWd} {X : zX} {l0 : Launch} {r : Int32} {S1 : zMem} (C : zC LM w X l0 cX9_readsHead RX9 1 3 (some .boolean)) {s1 : Int32} {S : zMem} {ls : Array Slot} (hl : lv_has ls 1 [(0, .ref (w.2.2.1 0))]) (h : X9_readsHead_b66 s1 S = some (r, S1)) : zV LM w X (some (.int r)) S1 S 66 ls [.int s1, .ref (w.2.2.1 0)] := by
  unfold X9_readsHead_b66 at h
  refine v_puti 66 C dX9_readsHead_66 fl_X9_121 fp_8_19 rfl kM_0 h (fun S h => ?_)
  refine v_aload_n 69 C dX9_readsHead_69 rfl (lv_at hl 0 rfl) ?_
  refine v_geti 70 C dX9_readsHead_70 fl_X9_121 rfl kM_0 h (fun v1 h => ?_)
  refine v_bipush 73 C (v := (-9 : Int32)) dX9_readsHead_73 (by decide) ?_
  refine v_icmp_eq 75 82 C dX9_readsHead_75 (by decide) h (fun h => ?_) (fun h => ?_)
  · refine v_iconst 82 C (v := (0 : Int32)) dX9_readsHead_82 (by decide) ?_
    exact w_X9_readsHead_b83 C (lv_sub hl [] rfl) h
  · refine v_iconst 78 C (v := (1 : Int32)) dX9_readsHead_78 (by decide) ?_
    refine v_goto 79 83 C dX9_readsHead_79 (by decide) ?_
    exact w_X9_readsHead_b83 C (lv_sub hl [] rfl) h
set_option maxRecDepth 20000 in
theorem w_X9_readsHead_b0 {w : zWd} {X : zX} {l0 : Launch} {r : Int32} {S1 : zMem} (C : zC LM w X l0 cX9_readsHead RX9 1 3 (some .boolean)) {S : zMem} {ls : Array Slot} (hl : lv_has ls 1 [(0, .ref (w.2.2.1 0))]) (h : X9_readsHead_b0  S = some (r, S1)) : zV LM w X (some (.int r)) S1 S 0 ls [] := by
  unfold X9_readsHead_b0 at h
  refine v_aload_n 0 C dX9_readsHead_0 rfl (lv_at hl 0 rfl) ?_
  obtain ⟨v1, S, hc, h⟩ := zb_e h
  refine v_callVv 1 C (ci := 8) [] dX9_readsHead_1 ml_X9_115 hy_X9_skip (c_X9_skip  hc) (by decide) rfl hl.1 kM_0 rfl (Nat.le_of_ble_eq_true rfl) rfl ?_
  refine v_aload_n 4 C dX9_readsHead_4 rfl (lv_at hl 0 rfl) ?_
  refine v_geti 5 C dX9_readsHead_5 fl_X9_100 rfl kM_0 h (fun v2 h => ?_)
  refine v_aload_n 8 C dX9_readsHead_8 rfl (lv_at hl 0 rfl) ?_
  refine v_geti 9 C dX9_readsHead_9 fl_X9_103 rfl kM_0 h (fun v3 h => ?_)
  refine v_icmp_eq 12 24 C dX9_readsHead_12 (by decide) h (fun h => ?_) (fun h => ?_)
  · exact w_X9_readsHead_b24 C (lv_sub hl [] rfl) h
  · refine v_aload_n 15 C dX9_readsHead_15 rfl (lv_at hl 0 rfl) ?_
    obtain ⟨v4, S, hc, h⟩ := zb_e h
    refine v_callVi 16 C (ci := 8) [] dX9_readsHead_16 ml_X9_106 hy_X9_here (c_X9_here  hc) (by decide) rfl hl.1 kM_0 rfl (Nat.le_of_ble_eq_true rfl) rfl ?_
    refine v_bipush 19 C (v := (112 : Int32)) dX9_readsHead_19 (by decide) ?_
    refine v_icmp_eq 21 26 C dX9_readsHead_21 (by decide) h (fun h => ?_) (fun h => ?_)
    · refine v_aload_n 26 C dX9_readsHead_26 rfl (lv_at hl 0 rfl) ?_
      refine v_dup 27 C dX9_readsHead_27 rfl ?_
      refine v_geti 28 C dX9_readsHead_28 fl_X9_100 rfl kM_0 h (fun v5 h => ?_)
      refine v_iconst 31 C (v := (1 : Int32)) dX9_readsHead_31 (by decide) ?_
      refine v_iadd 32 C dX9_readsHead_32 h (fun v6 h => ?_)
      refine v_puti 33 C dX9_readsHead_33 fl_X9_100 fp_8_16 rfl kM_0 h (fun S h => ?_)
      refine v_aload_n 36 C dX9_readsHead_36 rfl (lv_at hl 0 rfl) ?_
      refine v_aload_n 37 C dX9_readsHead_37 rfl (lv_at hl 0 rfl) ?_
      refine v_bipush 38 C (v := (9 : Int32)) dX9_readsHead_38 (by decide) ?_
      obtain ⟨v7, S, hc, h⟩ := zb_e h
      refine v_callVi 40 C (ci := 8) [.ref (w.2.2.1 0)] dX9_readsHead_40 ml_X9_112 hy_X9_figure (c_X9_figure  hc) (by decide) rfl hl.1 kM_0 rfl (Nat.le_of_ble_eq_true rfl) rfl ?_
      refine v_puti 43 C dX9_readsHead_43 fl_X9_118 fp_8_18 rfl kM_0 h (fun S h => ?_)
      refine v_aload_n 46 C dX9_readsHead_46 rfl (lv_at hl 0 rfl) ?_
      refine v_aload_n 47 C dX9_readsHead_47 rfl (lv_at hl 0 rfl) ?_
      refine v_geti 48 C dX9_readsHead_48 fl_X9_118 rfl kM_0 h (fun v8 h => ?_)
      refine v_bipush 51 C (v := (-9 : Int32)) dX9_readsHead_51 (by decide) ?_
      refine v_icmp_ne 53 61 C dX9_readsHead_53 (by decide) h (fun h => ?_) (fun h => ?_)
      · refine v_aload_n 61 C dX9_readsHead_61 rfl (lv_at hl 0 rfl) ?_
        refine v_iconst 62 C (v := (2 : Int32)) dX9_readsHead_62 (by decide) ?_
        obtain ⟨v9, S, hc, h⟩ := zb_e h
        refine v_callVi 63 C (ci := 8) [.ref (w.2.2.1 0)] dX9_readsHead_63 ml_X9_112 hy_X9_figure (c_X9_figure  hc) (by decide) rfl hl.1 kM_0 rfl (Nat.le_of_ble_eq_true rfl) rfl ?_
        exact w_X9_readsHead_b66 C (lv_sub hl [0] rfl) h
      · refine v_bipush 56 C (v := (-9 : Int32)) dX9_readsHead_56 (by decide) ?_
        refine v_goto 58 66 C dX9_readsHead_58 (by decide) ?_
        exact w_X9_readsHead_b66 C (lv_sub hl [0] rfl) h
    · exact w_X9_readsHead_b24 C (lv_sub hl [] rfl) h
theorem c_X9_readsHead {w : zWd} {l0 : Launch} {S S1 : zMem} {r : Int32} (h : f_X9_readsHead  S = some (r, S1)) : zMet LM w l0 yX9_readsHead cX9_readsHead 1 (some .boolean) 3 [.ref (w.2.2.1 0)] S (some (.int r)) S1 :=
  zMet_of (by decide +kernel) (Nat.le_of_ble_eq_true rfl) (fun X ls C hl => w_X9_readsHead_b0 C hl h)
theorem dX9_twoFigures_0 : decode cX9_twoFigures 0 = .ok (.aload_n 0, 1) := by decide +kernel
theorem dX9_twoFigures_1 : decode cX9_twoFigures 1 = .ok (.getfield 100, 3) := by decide +kernel
theorem dX9_twoFigures_4 : decode cX9_twoFigures 4 = .ok (.istore_n 2, 1) := by decide +kernel
theorem dX9_twoFigures_5 : decode cX9_twoFigures 5 = .ok (.aload_n 0, 1) := by decide +kernel
theorem dX9_twoFigures_6 : decode cX9_twoFigures 6 = .ok (.bipush 9, 2) := by decide +kernel
theorem dX9_twoFigures_8 : decode cX9_twoFigures 8 = .ok (.invokevirtual 112, 3) := by decide +kernel
theorem dX9_twoFigures_11 : decode cX9_twoFigures 11 = .ok (.istore_n 3, 1) := by decide +kernel
theorem dX9_twoFigures_12 : decode cX9_twoFigures 12 = .ok (.iload_n 3, 1) := by decide +kernel
theorem dX9_twoFigures_13 : decode cX9_twoFigures 13 = .ok (.bipush (-9), 2) := by decide +kernel
theorem dX9_twoFigures_15 : decode cX9_twoFigures 15 = .ok (.if_icmp .ne 8, 3) := by decide +kernel
theorem dX9_twoFigures_18 : decode cX9_twoFigures 18 = .ok (.bipush (-9), 2) := by decide +kernel
theorem dX9_twoFigures_20 : decode cX9_twoFigures 20 = .ok (.goto 9, 3) := by decide +kernel
theorem dX9_twoFigures_23 : decode cX9_twoFigures 23 = .ok (.aload_n 0, 1) := by decide +kernel
theorem dX9_twoFigures_24 : decode cX9_twoFigures 24 = .ok (.bipush 9, 2) := by decide +kernel
theorem dX9_twoFigures_26 : decode cX9_twoFigures 26 = .ok (.invokevirtual 112, 3) := by decide +kernel
theorem dX9_twoFigures_29 : decode cX9_twoFigures 29 = .ok (.istore 4, 2) := by decide +kernel
theorem dX9_twoFigures_31 : decode cX9_twoFigures 31 = .ok (.iload 4, 2) := by decide +kernel
theorem dX9_twoFigures_33 : decode cX9_twoFigures 33 = .ok (.bipush (-9), 2) := by decide +kernel
theorem dX9_twoFigures_35 : decode cX9_twoFigures 35 = .ok (.if_icmp .ne 6, 3) := by decide +kernel
theorem dX9_twoFigures_38 : decode cX9_twoFigures 38 = .ok (.bipush (-9), 2) := by decide +kernel
theorem dX9_twoFigures_40 : decode cX9_twoFigures 40 = .ok (.ireturn, 1) := by decide +kernel
theorem dX9_twoFigures_41 : decode cX9_twoFigures 41 = .ok (.bipush 10, 2) := by decide +kernel
theorem dX9_twoFigures_43 : decode cX9_twoFigures 43 = .ok (.iload_n 3, 1) := by decide +kernel
theorem dX9_twoFigures_44 : decode cX9_twoFigures 44 = .ok (.imul, 1) := by decide +kernel
theorem dX9_twoFigures_45 : decode cX9_twoFigures 45 = .ok (.iload 4, 2) := by decide +kernel
theorem dX9_twoFigures_47 : decode cX9_twoFigures 47 = .ok (.iadd, 1) := by decide +kernel
theorem dX9_twoFigures_48 : decode cX9_twoFigures 48 = .ok (.iload_n 1, 1) := by decide +kernel
theorem dX9_twoFigures_49 : decode cX9_twoFigures 49 = .ok (.if_icmp .le 11, 3) := by decide +kernel
theorem dX9_twoFigures_52 : decode cX9_twoFigures 52 = .ok (.aload_n 0, 1) := by decide +kernel
theorem dX9_twoFigures_53 : decode cX9_twoFigures 53 = .ok (.iload_n 2, 1) := by decide +kernel
theorem dX9_twoFigures_54 : decode cX9_twoFigures 54 = .ok (.putfield 100, 3) := by decide +kernel
theorem dX9_twoFigures_57 : decode cX9_twoFigures 57 = .ok (.bipush (-9), 2) := by decide +kernel
theorem dX9_twoFigures_59 : decode cX9_twoFigures 59 = .ok (.ireturn, 1) := by decide +kernel
theorem dX9_twoFigures_60 : decode cX9_twoFigures 60 = .ok (.bipush 10, 2) := by decide +kernel
theorem dX9_twoFigures_62 : decode cX9_twoFigures 62 = .ok (.iload_n 3, 1) := by decide +kernel
theorem dX9_twoFigures_63 : decode cX9_twoFigures 63 = .ok (.imul, 1) := by decide +kernel
theorem dX9_twoFigures_64 : decode cX9_twoFigures 64 = .ok (.iload 4, 2) := by decide +kernel
theorem dX9_twoFigures_66 : decode cX9_twoFigures 66 = .ok (.iadd, 1) := by decide +kernel
theorem dX9_twoFigures_67 : decode cX9_twoFigures 67 = .ok (.ireturn, 1) := by decide +kernel
set_option maxRecDepth 20000 in
theorem w_X9_twoFigures_b29 {w : zWd} {X : zX} {l0 : Launch} {r : Int32} {S1 : zMem} (C : zC LM w X l0 cX9_twoFigures RX9 5 3 (some .int)) {x1 : Int32} {x2 : Int32} {x3 : Int32} {s0 : Int32} {S : zMem} {ls : Array Slot} (hl : lv_has ls 5 [(0, .ref (w.2.2.1 0)), (1, .int x1), (2, .int x2), (3, .int x3)]) (h : X9_twoFigures_b29 x1 x2 x3 s0 S = some (r, S1)) : zV LM w X (some (.int r)) S1 S 29 ls [.int s0] := by
  unfold X9_twoFigures_b29 at h
  refine v_istore 29 C [(4, .int s0), (0, .ref (w.2.2.1 0)), (1, .int x1), (2, .int x2), (3, .int x3)] dX9_twoFigures_29 hl (by decide) rfl (fun ls hl => ?_)
  refine v_iload 31 C dX9_twoFigures_31 (lv_at hl 0 rfl) ?_
  refine v_bipush 33 C (v := (-9 : Int32)) dX9_twoFigures_33 (by decide) ?_
  refine v_icmp_ne 35 41 C dX9_twoFigures_35 (by decide) h (fun h => ?_) (fun h => ?_)
  · refine v_bipush 41 C (v := (10 : Int32)) dX9_twoFigures_41 (by decide) ?_
    refine v_iload_n 43 C dX9_twoFigures_43 rfl (lv_at hl 4 rfl) ?_
    refine v_imul 44 C dX9_twoFigures_44 h (fun v1 h => ?_)
    refine v_iload 45 C dX9_twoFigures_45 (lv_at hl 0 rfl) ?_
    refine v_iadd 47 C dX9_twoFigures_47 h (fun v2 h => ?_)
    refine v_iload_n 48 C dX9_twoFigures_48 rfl (lv_at hl 2 rfl) ?_
    refine v_icmp_le 49 60 C dX9_twoFigures_49 (by decide) h (fun h => ?_) (fun h => ?_)
    · refine v_bipush 60 C (v := (10 : Int32)) dX9_twoFigures_60 (by decide) ?_
      refine v_iload_n 62 C dX9_twoFigures_62 rfl (lv_at hl 4 rfl) ?_
      refine v_imul 63 C dX9_twoFigures_63 h (fun v3 h => ?_)
      refine v_iload 64 C dX9_twoFigures_64 (lv_at hl 0 rfl) ?_
      refine v_iadd 66 C dX9_twoFigures_66 h (fun v4 h => ?_)
      exact v_ireturn 67 C dX9_twoFigures_67 h
    · refine v_aload_n 52 C dX9_twoFigures_52 rfl (lv_at hl 1 rfl) ?_
      refine v_iload_n 53 C dX9_twoFigures_53 rfl (lv_at hl 3 rfl) ?_
      refine v_puti 54 C dX9_twoFigures_54 fl_X9_100 fp_8_16 rfl kM_0 h (fun S h => ?_)
      refine v_bipush 57 C (v := (-9 : Int32)) dX9_twoFigures_57 (by decide) ?_
      exact v_ireturn 59 C dX9_twoFigures_59 h
  · refine v_bipush 38 C (v := (-9 : Int32)) dX9_twoFigures_38 (by decide) ?_
    exact v_ireturn 40 C dX9_twoFigures_40 h
set_option maxRecDepth 20000 in
theorem w_X9_twoFigures_b0 {w : zWd} {X : zX} {l0 : Launch} {r : Int32} {S1 : zMem} (C : zC LM w X l0 cX9_twoFigures RX9 5 3 (some .int)) {x1 : Int32} {S : zMem} {ls : Array Slot} (hl : lv_has ls 5 [(0, .ref (w.2.2.1 0)), (1, .int x1)]) (h : X9_twoFigures_b0 x1 S = some (r, S1)) : zV LM w X (some (.int r)) S1 S 0 ls [] := by
  unfold X9_twoFigures_b0 at h
  refine v_aload_n 0 C dX9_twoFigures_0 rfl (lv_at hl 0 rfl) ?_
  refine v_geti 1 C dX9_twoFigures_1 fl_X9_100 rfl kM_0 h (fun v1 h => ?_)
  refine v_istore_n 4 C [(2, .int v1), (0, .ref (w.2.2.1 0)), (1, .int x1)] dX9_twoFigures_4 rfl hl (by decide) rfl (fun ls hl => ?_)
  refine v_aload_n 5 C dX9_twoFigures_5 rfl (lv_at hl 1 rfl) ?_
  refine v_bipush 6 C (v := (9 : Int32)) dX9_twoFigures_6 (by decide) ?_
  obtain ⟨v2, S, hc, h⟩ := zb_e h
  refine v_callVi 8 C (ci := 8) [] dX9_twoFigures_8 ml_X9_112 hy_X9_figure (c_X9_figure  hc) (by decide) rfl hl.1 kM_0 rfl (Nat.le_of_ble_eq_true rfl) rfl ?_
  refine v_istore_n 11 C [(3, .int v2), (2, .int v1), (0, .ref (w.2.2.1 0)), (1, .int x1)] dX9_twoFigures_11 rfl hl (by decide) rfl (fun ls hl => ?_)
  refine v_iload_n 12 C dX9_twoFigures_12 rfl (lv_at hl 0 rfl) ?_
  refine v_bipush 13 C (v := (-9 : Int32)) dX9_twoFigures_13 (by decide) ?_
  refine v_icmp_ne 15 23 C dX9_twoFigures_15 (by decide) h (fun h => ?_) (fun h => ?_)
  · refine v_aload_n 23 C dX9_twoFigures_23 rfl (lv_at hl 2 rfl) ?_
    refine v_bipush 24 C (v := (9 : Int32)) dX9_twoFigures_24 (by decide) ?_
    obtain ⟨v3, S, hc, h⟩ := zb_e h
    refine v_callVi 26 C (ci := 8) [] dX9_twoFigures_26 ml_X9_112 hy_X9_figure (c_X9_figure  hc) (by decide) rfl hl.1 kM_0 rfl (Nat.le_of_ble_eq_true rfl) rfl ?_
    exact w_X9_twoFigures_b29 C (lv_sub hl [2, 3, 1, 0] rfl) h
  · refine v_bipush 18 C (v := (-9 : Int32)) dX9_twoFigures_18 (by decide) ?_
    refine v_goto 20 29 C dX9_twoFigures_20 (by decide) ?_
    exact w_X9_twoFigures_b29 C (lv_sub hl [2, 3, 1, 0] rfl) h
theorem c_X9_twoFigures {w : zWd} {l0 : Launch} {x1 : Int32} {S S1 : zMem} {r : Int32} (h : f_X9_twoFigures x1 S = some (r, S1)) : zMet LM w l0 yX9_twoFigures cX9_twoFigures 5 (some .int) 3 [.ref (w.2.2.1 0), .int x1] S (some (.int r)) S1 :=
  zMet_of (by decide +kernel) (Nat.le_of_ble_eq_true rfl) (fun X ls C hl => w_X9_twoFigures_b0 C hl h)
theorem fl_X9_124 : zFL RX9 124 8 20 := ⟨_, rfl, by decide, zT_of (List.mem_of_getElem? (i := 890) (by decide +kernel)) rfl⟩
theorem fl_X9_127 : zFL RX9 127 8 22 := ⟨_, rfl, by decide, zT_of (List.mem_of_getElem? (i := 892) (by decide +kernel)) rfl⟩
theorem ml_X9_130 : Cond.methodLink RX9 130 yX9_twoFigures ∈ zT := zT_of (List.mem_of_getElem? (i := 1044) (by decide +kernel)) rfl
theorem hy_X9_twoFigures : zYv yX9_twoFigures cX9_twoFigures 5 (some .int) 1 := ⟨⟨zT_of (List.mem_of_getElem? (i := 1047) (by decide +kernel)) rfl, zT_of (List.mem_of_getElem? (i := 78) (by decide +kernel)) rfl, by decide, by decide +kernel, by decide +kernel, by decide +kernel⟩, zT_of (List.mem_of_getElem? (i := 1046) (by decide +kernel)) rfl, zT_of (List.mem_of_getElem? (i := 32) (by decide +kernel)) rfl⟩
theorem fl_X9_41 : zFL RX9 41 8 21 := ⟨_, rfl, by decide, zT_of (List.mem_of_getElem? (i := 891) (by decide +kernel)) rfl⟩
theorem fp_8_20 : zFP 8 20 .int := fun q h => by cases h; exact ⟨rfl, by decide +kernel⟩
theorem dX9_readsHouse_0 : decode cX9_readsHouse 0 = .ok (.aload_n 0, 1) := by decide +kernel
theorem dX9_readsHouse_1 : decode cX9_readsHouse 1 = .ok (.getfield 124, 3) := by decide +kernel
theorem dX9_readsHouse_4 : decode cX9_readsHouse 4 = .ok (.bipush 6, 2) := by decide +kernel
theorem dX9_readsHouse_6 : decode cX9_readsHouse 6 = .ok (.if_icmp .eq 10, 3) := by decide +kernel
theorem dX9_readsHouse_9 : decode cX9_readsHouse 9 = .ok (.aload_n 0, 1) := by decide +kernel
theorem dX9_readsHouse_10 : decode cX9_readsHouse 10 = .ok (.getfield 127, 3) := by decide +kernel
theorem dX9_readsHouse_13 : decode cX9_readsHouse 13 = .ok (.ifCond .le 5, 3) := by decide +kernel
theorem dX9_readsHouse_16 : decode cX9_readsHouse 16 = .ok (.iconst 0, 1) := by decide +kernel
theorem dX9_readsHouse_17 : decode cX9_readsHouse 17 = .ok (.ireturn, 1) := by decide +kernel
theorem dX9_readsHouse_18 : decode cX9_readsHouse 18 = .ok (.aload_n 0, 1) := by decide +kernel
theorem dX9_readsHouse_19 : decode cX9_readsHouse 19 = .ok (.dup, 1) := by decide +kernel
theorem dX9_readsHouse_20 : decode cX9_readsHouse 20 = .ok (.getfield 100, 3) := by decide +kernel
theorem dX9_readsHouse_23 : decode cX9_readsHouse 23 = .ok (.iconst 1, 1) := by decide +kernel
theorem dX9_readsHouse_24 : decode cX9_readsHouse 24 = .ok (.iadd, 1) := by decide +kernel
theorem dX9_readsHouse_25 : decode cX9_readsHouse 25 = .ok (.putfield 100, 3) := by decide +kernel
theorem dX9_readsHouse_28 : decode cX9_readsHouse 28 = .ok (.aload_n 0, 1) := by decide +kernel
theorem dX9_readsHouse_29 : decode cX9_readsHouse 29 = .ok (.bipush 20, 2) := by decide +kernel
theorem dX9_readsHouse_31 : decode cX9_readsHouse 31 = .ok (.invokevirtual 130, 3) := by decide +kernel
theorem dX9_readsHouse_34 : decode cX9_readsHouse 34 = .ok (.istore_n 1, 1) := by decide +kernel
theorem dX9_readsHouse_35 : decode cX9_readsHouse 35 = .ok (.iload_n 1, 1) := by decide +kernel
theorem dX9_readsHouse_36 : decode cX9_readsHouse 36 = .ok (.bipush (-9), 2) := by decide +kernel
theorem dX9_readsHouse_38 : decode cX9_readsHouse 38 = .ok (.if_icmp .ne 5, 3) := by decide +kernel
theorem dX9_readsHouse_41 : decode cX9_readsHouse 41 = .ok (.iconst 0, 1) := by decide +kernel
theorem dX9_readsHouse_42 : decode cX9_readsHouse 42 = .ok (.ireturn, 1) := by decide +kernel
theorem dX9_readsHouse_43 : decode cX9_readsHouse 43 = .ok (.aload_n 0, 1) := by decide +kernel
theorem dX9_readsHouse_44 : decode cX9_readsHouse 44 = .ok (.getfield 41, 3) := by decide +kernel
theorem dX9_readsHouse_47 : decode cX9_readsHouse 47 = .ok (.aload_n 0, 1) := by decide +kernel
theorem dX9_readsHouse_48 : decode cX9_readsHouse 48 = .ok (.getfield 124, 3) := by decide +kernel
theorem dX9_readsHouse_51 : decode cX9_readsHouse 51 = .ok (.iload_n 1, 1) := by decide +kernel
theorem dX9_readsHouse_52 : decode cX9_readsHouse 52 = .ok (.iastore, 1) := by decide +kernel
theorem dX9_readsHouse_53 : decode cX9_readsHouse 53 = .ok (.aload_n 0, 1) := by decide +kernel
theorem dX9_readsHouse_54 : decode cX9_readsHouse 54 = .ok (.dup, 1) := by decide +kernel
theorem dX9_readsHouse_55 : decode cX9_readsHouse 55 = .ok (.getfield 124, 3) := by decide +kernel
theorem dX9_readsHouse_58 : decode cX9_readsHouse 58 = .ok (.iconst 1, 1) := by decide +kernel
theorem dX9_readsHouse_59 : decode cX9_readsHouse 59 = .ok (.iadd, 1) := by decide +kernel
theorem dX9_readsHouse_60 : decode cX9_readsHouse 60 = .ok (.putfield 124, 3) := by decide +kernel
theorem dX9_readsHouse_63 : decode cX9_readsHouse 63 = .ok (.iconst 1, 1) := by decide +kernel
theorem dX9_readsHouse_64 : decode cX9_readsHouse 64 = .ok (.ireturn, 1) := by decide +kernel
set_option maxRecDepth 20000 in
theorem w_X9_readsHouse_b16 {w : zWd} {X : zX} {l0 : Launch} {r : Int32} {S1 : zMem} (C : zC LM w X l0 cX9_readsHouse RX9 2 4 (some .boolean)) {S : zMem} {ls : Array Slot} (hl : lv_has ls 2 []) (h : X9_readsHouse_b16  S = some (r, S1)) : zV LM w X (some (.int r)) S1 S 16 ls [] := by
  unfold X9_readsHouse_b16 at h
  refine v_iconst 16 C (v := (0 : Int32)) dX9_readsHouse_16 (by decide) ?_
  exact v_zreturn 17 C dX9_readsHouse_17 h
set_option maxRecDepth 20000 in
theorem w_X9_readsHouse_b0 {w : zWd} {X : zX} {l0 : Launch} {r : Int32} {S1 : zMem} (C : zC LM w X l0 cX9_readsHouse RX9 2 4 (some .boolean)) {S : zMem} {ls : Array Slot} (hl : lv_has ls 2 [(0, .ref (w.2.2.1 0))]) (h : X9_readsHouse_b0  S = some (r, S1)) : zV LM w X (some (.int r)) S1 S 0 ls [] := by
  unfold X9_readsHouse_b0 at h
  refine v_aload_n 0 C dX9_readsHouse_0 rfl (lv_at hl 0 rfl) ?_
  refine v_geti 1 C dX9_readsHouse_1 fl_X9_124 rfl kM_0 h (fun v1 h => ?_)
  refine v_bipush 4 C (v := (6 : Int32)) dX9_readsHouse_4 (by decide) ?_
  refine v_icmp_eq 6 16 C dX9_readsHouse_6 (by decide) h (fun h => ?_) (fun h => ?_)
  · exact w_X9_readsHouse_b16 C (lv_sub hl [] rfl) h
  · refine v_aload_n 9 C dX9_readsHouse_9 rfl (lv_at hl 0 rfl) ?_
    refine v_geti 10 C dX9_readsHouse_10 fl_X9_127 rfl kM_0 h (fun v2 h => ?_)
    refine v_if_le 13 18 C dX9_readsHouse_13 (by decide) h (fun h => ?_) (fun h => ?_)
    · refine v_aload_n 18 C dX9_readsHouse_18 rfl (lv_at hl 0 rfl) ?_
      refine v_dup 19 C dX9_readsHouse_19 rfl ?_
      refine v_geti 20 C dX9_readsHouse_20 fl_X9_100 rfl kM_0 h (fun v3 h => ?_)
      refine v_iconst 23 C (v := (1 : Int32)) dX9_readsHouse_23 (by decide) ?_
      refine v_iadd 24 C dX9_readsHouse_24 h (fun v4 h => ?_)
      refine v_puti 25 C dX9_readsHouse_25 fl_X9_100 fp_8_16 rfl kM_0 h (fun S h => ?_)
      refine v_aload_n 28 C dX9_readsHouse_28 rfl (lv_at hl 0 rfl) ?_
      refine v_bipush 29 C (v := (20 : Int32)) dX9_readsHouse_29 (by decide) ?_
      obtain ⟨v5, S, hc, h⟩ := zb_e h
      refine v_callVi 31 C (ci := 8) [] dX9_readsHouse_31 ml_X9_130 hy_X9_twoFigures (c_X9_twoFigures  hc) (by decide) rfl hl.1 kM_0 rfl (Nat.le_of_ble_eq_true rfl) rfl ?_
      refine v_istore_n 34 C [(1, .int v5), (0, .ref (w.2.2.1 0))] dX9_readsHouse_34 rfl hl (by decide) rfl (fun ls hl => ?_)
      refine v_iload_n 35 C dX9_readsHouse_35 rfl (lv_at hl 0 rfl) ?_
      refine v_bipush 36 C (v := (-9 : Int32)) dX9_readsHouse_36 (by decide) ?_
      refine v_icmp_ne 38 43 C dX9_readsHouse_38 (by decide) h (fun h => ?_) (fun h => ?_)
      · refine v_aload_n 43 C dX9_readsHouse_43 rfl (lv_at hl 1 rfl) ?_
        refine v_getr 44 (10) C dX9_readsHouse_44 fl_X9_41 rfl kM_0 rfl ?_
        refine v_aload_n 47 C dX9_readsHouse_47 rfl (lv_at hl 1 rfl) ?_
        refine v_geti 48 C dX9_readsHouse_48 fl_X9_124 rfl kM_0 h (fun v6 h => ?_)
        refine v_iload_n 51 C dX9_readsHouse_51 rfl (lv_at hl 0 rfl) ?_
        refine v_iast 52 C dX9_readsHouse_52 kM_10 rfl h (fun S h => ?_)
        refine v_aload_n 53 C dX9_readsHouse_53 rfl (lv_at hl 1 rfl) ?_
        refine v_dup 54 C dX9_readsHouse_54 rfl ?_
        refine v_geti 55 C dX9_readsHouse_55 fl_X9_124 rfl kM_0 h (fun v7 h => ?_)
        refine v_iconst 58 C (v := (1 : Int32)) dX9_readsHouse_58 (by decide) ?_
        refine v_iadd 59 C dX9_readsHouse_59 h (fun v8 h => ?_)
        refine v_puti 60 C dX9_readsHouse_60 fl_X9_124 fp_8_20 rfl kM_0 h (fun S h => ?_)
        refine v_iconst 63 C (v := (1 : Int32)) dX9_readsHouse_63 (by decide) ?_
        exact v_zreturn 64 C dX9_readsHouse_64 h
      · refine v_iconst 41 C (v := (0 : Int32)) dX9_readsHouse_41 (by decide) ?_
        exact v_zreturn 42 C dX9_readsHouse_42 h
    · exact w_X9_readsHouse_b16 C (lv_sub hl [] rfl) h
theorem c_X9_readsHouse {w : zWd} {l0 : Launch} {S S1 : zMem} {r : Int32} (h : f_X9_readsHouse  S = some (r, S1)) : zMet LM w l0 yX9_readsHouse cX9_readsHouse 2 (some .boolean) 4 [.ref (w.2.2.1 0)] S (some (.int r)) S1 :=
  zMet_of (by decide +kernel) (Nat.le_of_ble_eq_true rfl) (fun X ls C hl => w_X9_readsHouse_b0 C hl h)
theorem dX9_kindOfLetter_0 : decode cX9_kindOfLetter 0 = .ok (.iload_n 0, 1) := by decide +kernel
theorem dX9_kindOfLetter_1 : decode cX9_kindOfLetter 1 = .ok (.bipush 108, 2) := by decide +kernel
theorem dX9_kindOfLetter_3 : decode cX9_kindOfLetter 3 = .ok (.if_icmp .ne 7, 3) := by decide +kernel
theorem dX9_kindOfLetter_6 : decode cX9_kindOfLetter 6 = .ok (.iconst 0, 1) := by decide +kernel
theorem dX9_kindOfLetter_7 : decode cX9_kindOfLetter 7 = .ok (.goto 55, 3) := by decide +kernel
theorem dX9_kindOfLetter_10 : decode cX9_kindOfLetter 10 = .ok (.iload_n 0, 1) := by decide +kernel
theorem dX9_kindOfLetter_11 : decode cX9_kindOfLetter 11 = .ok (.bipush 116, 2) := by decide +kernel
theorem dX9_kindOfLetter_13 : decode cX9_kindOfLetter 13 = .ok (.if_icmp .ne 7, 3) := by decide +kernel
theorem dX9_kindOfLetter_16 : decode cX9_kindOfLetter 16 = .ok (.iconst 1, 1) := by decide +kernel
theorem dX9_kindOfLetter_17 : decode cX9_kindOfLetter 17 = .ok (.goto 45, 3) := by decide +kernel
theorem dX9_kindOfLetter_20 : decode cX9_kindOfLetter 20 = .ok (.iload_n 0, 1) := by decide +kernel
theorem dX9_kindOfLetter_21 : decode cX9_kindOfLetter 21 = .ok (.bipush 98, 2) := by decide +kernel
theorem dX9_kindOfLetter_23 : decode cX9_kindOfLetter 23 = .ok (.if_icmp .ne 7, 3) := by decide +kernel
theorem dX9_kindOfLetter_26 : decode cX9_kindOfLetter 26 = .ok (.iconst 2, 1) := by decide +kernel
theorem dX9_kindOfLetter_27 : decode cX9_kindOfLetter 27 = .ok (.goto 35, 3) := by decide +kernel
theorem dX9_kindOfLetter_30 : decode cX9_kindOfLetter 30 = .ok (.iload_n 0, 1) := by decide +kernel
theorem dX9_kindOfLetter_31 : decode cX9_kindOfLetter 31 = .ok (.bipush 118, 2) := by decide +kernel
theorem dX9_kindOfLetter_33 : decode cX9_kindOfLetter 33 = .ok (.if_icmp .ne 7, 3) := by decide +kernel
theorem dX9_kindOfLetter_36 : decode cX9_kindOfLetter 36 = .ok (.iconst 3, 1) := by decide +kernel
theorem dX9_kindOfLetter_37 : decode cX9_kindOfLetter 37 = .ok (.goto 25, 3) := by decide +kernel
theorem dX9_kindOfLetter_40 : decode cX9_kindOfLetter 40 = .ok (.iload_n 0, 1) := by decide +kernel
theorem dX9_kindOfLetter_41 : decode cX9_kindOfLetter 41 = .ok (.bipush 107, 2) := by decide +kernel
theorem dX9_kindOfLetter_43 : decode cX9_kindOfLetter 43 = .ok (.if_icmp .ne 7, 3) := by decide +kernel
theorem dX9_kindOfLetter_46 : decode cX9_kindOfLetter 46 = .ok (.iconst 4, 1) := by decide +kernel
theorem dX9_kindOfLetter_47 : decode cX9_kindOfLetter 47 = .ok (.goto 15, 3) := by decide +kernel
theorem dX9_kindOfLetter_50 : decode cX9_kindOfLetter 50 = .ok (.iload_n 0, 1) := by decide +kernel
theorem dX9_kindOfLetter_51 : decode cX9_kindOfLetter 51 = .ok (.bipush 102, 2) := by decide +kernel
theorem dX9_kindOfLetter_53 : decode cX9_kindOfLetter 53 = .ok (.if_icmp .ne 7, 3) := by decide +kernel
theorem dX9_kindOfLetter_56 : decode cX9_kindOfLetter 56 = .ok (.iconst 5, 1) := by decide +kernel
theorem dX9_kindOfLetter_57 : decode cX9_kindOfLetter 57 = .ok (.goto 5, 3) := by decide +kernel
theorem dX9_kindOfLetter_60 : decode cX9_kindOfLetter 60 = .ok (.bipush (-9), 2) := by decide +kernel
theorem dX9_kindOfLetter_62 : decode cX9_kindOfLetter 62 = .ok (.ireturn, 1) := by decide +kernel
set_option maxRecDepth 20000 in
theorem w_X9_kindOfLetter_b62 {w : zWd} {X : zX} {l0 : Launch} {r : Int32} {S1 : zMem} (C : zC LM w X l0 cX9_kindOfLetter RX9 1 1 (some .int)) {s0 : Int32} {S : zMem} {ls : Array Slot} (hl : lv_has ls 1 []) (h : X9_kindOfLetter_b62 s0 S = some (r, S1)) : zV LM w X (some (.int r)) S1 S 62 ls [.int s0] := by
  unfold X9_kindOfLetter_b62 at h
  exact v_ireturn 62 C dX9_kindOfLetter_62 h
set_option maxRecDepth 20000 in
theorem w_X9_kindOfLetter_b0 {w : zWd} {X : zX} {l0 : Launch} {r : Int32} {S1 : zMem} (C : zC LM w X l0 cX9_kindOfLetter RX9 1 1 (some .int)) {x0 : Int32} {S : zMem} {ls : Array Slot} (hl : lv_has ls 1 [(0, .int x0)]) (h : X9_kindOfLetter_b0 x0 S = some (r, S1)) : zV LM w X (some (.int r)) S1 S 0 ls [] := by
  unfold X9_kindOfLetter_b0 at h
  refine v_iload_n 0 C dX9_kindOfLetter_0 rfl (lv_at hl 0 rfl) ?_
  refine v_bipush 1 C (v := (108 : Int32)) dX9_kindOfLetter_1 (by decide) ?_
  refine v_icmp_ne 3 10 C dX9_kindOfLetter_3 (by decide) h (fun h => ?_) (fun h => ?_)
  · refine v_iload_n 10 C dX9_kindOfLetter_10 rfl (lv_at hl 0 rfl) ?_
    refine v_bipush 11 C (v := (116 : Int32)) dX9_kindOfLetter_11 (by decide) ?_
    refine v_icmp_ne 13 20 C dX9_kindOfLetter_13 (by decide) h (fun h => ?_) (fun h => ?_)
    · refine v_iload_n 20 C dX9_kindOfLetter_20 rfl (lv_at hl 0 rfl) ?_
      refine v_bipush 21 C (v := (98 : Int32)) dX9_kindOfLetter_21 (by decide) ?_
      refine v_icmp_ne 23 30 C dX9_kindOfLetter_23 (by decide) h (fun h => ?_) (fun h => ?_)
      · refine v_iload_n 30 C dX9_kindOfLetter_30 rfl (lv_at hl 0 rfl) ?_
        refine v_bipush 31 C (v := (118 : Int32)) dX9_kindOfLetter_31 (by decide) ?_
        refine v_icmp_ne 33 40 C dX9_kindOfLetter_33 (by decide) h (fun h => ?_) (fun h => ?_)
        · refine v_iload_n 40 C dX9_kindOfLetter_40 rfl (lv_at hl 0 rfl) ?_
          refine v_bipush 41 C (v := (107 : Int32)) dX9_kindOfLetter_41 (by decide) ?_
          refine v_icmp_ne 43 50 C dX9_kindOfLetter_43 (by decide) h (fun h => ?_) (fun h => ?_)
          · refine v_iload_n 50 C dX9_kindOfLetter_50 rfl (lv_at hl 0 rfl) ?_
            refine v_bipush 51 C (v := (102 : Int32)) dX9_kindOfLetter_51 (by decide) ?_
            refine v_icmp_ne 53 60 C dX9_kindOfLetter_53 (by decide) h (fun h => ?_) (fun h => ?_)
            · refine v_bipush 60 C (v := (-9 : Int32)) dX9_kindOfLetter_60 (by decide) ?_
              exact w_X9_kindOfLetter_b62 C (lv_sub hl [] rfl) h
            · refine v_iconst 56 C (v := (5 : Int32)) dX9_kindOfLetter_56 (by decide) ?_
              refine v_goto 57 62 C dX9_kindOfLetter_57 (by decide) ?_
              exact w_X9_kindOfLetter_b62 C (lv_sub hl [] rfl) h
          · refine v_iconst 46 C (v := (4 : Int32)) dX9_kindOfLetter_46 (by decide) ?_
            refine v_goto 47 62 C dX9_kindOfLetter_47 (by decide) ?_
            exact w_X9_kindOfLetter_b62 C (lv_sub hl [] rfl) h
        · refine v_iconst 36 C (v := (3 : Int32)) dX9_kindOfLetter_36 (by decide) ?_
          refine v_goto 37 62 C dX9_kindOfLetter_37 (by decide) ?_
          exact w_X9_kindOfLetter_b62 C (lv_sub hl [] rfl) h
      · refine v_iconst 26 C (v := (2 : Int32)) dX9_kindOfLetter_26 (by decide) ?_
        refine v_goto 27 62 C dX9_kindOfLetter_27 (by decide) ?_
        exact w_X9_kindOfLetter_b62 C (lv_sub hl [] rfl) h
    · refine v_iconst 16 C (v := (1 : Int32)) dX9_kindOfLetter_16 (by decide) ?_
      refine v_goto 17 62 C dX9_kindOfLetter_17 (by decide) ?_
      exact w_X9_kindOfLetter_b62 C (lv_sub hl [] rfl) h
  · refine v_iconst 6 C (v := (0 : Int32)) dX9_kindOfLetter_6 (by decide) ?_
    refine v_goto 7 62 C dX9_kindOfLetter_7 (by decide) ?_
    exact w_X9_kindOfLetter_b62 C (lv_sub hl [] rfl) h
theorem c_X9_kindOfLetter {w : zWd} {l0 : Launch} {x0 : Int32} {S S1 : zMem} {r : Int32} (h : f_X9_kindOfLetter x0 S = some (r, S1)) : zMet LM w l0 yX9_kindOfLetter cX9_kindOfLetter 1 (some .int) 1 [.int x0] S (some (.int r)) S1 :=
  zMet_of (by decide +kernel) (Nat.le_of_ble_eq_true rfl) (fun X ls C hl => w_X9_kindOfLetter_b0 C hl h)
theorem fl_X9_44 : zFL RX9 44 8 23 := ⟨_, rfl, by decide, zT_of (List.mem_of_getElem? (i := 893) (by decide +kernel)) rfl⟩
theorem fp_8_22 : zFP 8 22 .int := fun q h => by cases h; exact ⟨rfl, by decide +kernel⟩
theorem ml_X9_133 : Cond.methodLink RX9 133 yX9_kindOfLetter ∈ zT := zT_of (List.mem_of_getElem? (i := 1052) (by decide +kernel)) rfl
theorem hy_X9_kindOfLetter : zYs yX9_kindOfLetter cX9_kindOfLetter 1 (some .int) 1 := ⟨⟨zT_of (List.mem_of_getElem? (i := 1054) (by decide +kernel)) rfl, zT_of (List.mem_of_getElem? (i := 78) (by decide +kernel)) rfl, by decide, by decide +kernel, by decide +kernel, by decide +kernel⟩, zT_of (List.mem_of_getElem? (i := 1053) (by decide +kernel)) rfl⟩
theorem dX9_readsLetter_0 : decode cX9_readsLetter 0 = .ok (.iconst 3, 1) := by decide +kernel
theorem dX9_readsLetter_1 : decode cX9_readsLetter 1 = .ok (.aload_n 0, 1) := by decide +kernel
theorem dX9_readsLetter_2 : decode cX9_readsLetter 2 = .ok (.getfield 127, 3) := by decide +kernel
theorem dX9_readsLetter_5 : decode cX9_readsLetter 5 = .ok (.imul, 1) := by decide +kernel
theorem dX9_readsLetter_6 : decode cX9_readsLetter 6 = .ok (.istore_n 1, 1) := by decide +kernel
theorem dX9_readsLetter_7 : decode cX9_readsLetter 7 = .ok (.aload_n 0, 1) := by decide +kernel
theorem dX9_readsLetter_8 : decode cX9_readsLetter 8 = .ok (.invokevirtual 106, 3) := by decide +kernel
theorem dX9_readsLetter_11 : decode cX9_readsLetter 11 = .ok (.invokestatic 133, 3) := by decide +kernel
theorem dX9_readsLetter_14 : decode cX9_readsLetter 14 = .ok (.istore_n 2, 1) := by decide +kernel
theorem dX9_readsLetter_15 : decode cX9_readsLetter 15 = .ok (.iload_n 2, 1) := by decide +kernel
theorem dX9_readsLetter_16 : decode cX9_readsLetter 16 = .ok (.bipush (-9), 2) := by decide +kernel
theorem dX9_readsLetter_18 : decode cX9_readsLetter 18 = .ok (.if_icmp .eq 19, 3) := by decide +kernel
theorem dX9_readsLetter_21 : decode cX9_readsLetter 21 = .ok (.aload_n 0, 1) := by decide +kernel
theorem dX9_readsLetter_22 : decode cX9_readsLetter 22 = .ok (.getfield 127, 3) := by decide +kernel
theorem dX9_readsLetter_25 : decode cX9_readsLetter 25 = .ok (.bipush 6, 2) := by decide +kernel
theorem dX9_readsLetter_27 : decode cX9_readsLetter 27 = .ok (.if_icmp .eq 10, 3) := by decide +kernel
theorem dX9_readsLetter_30 : decode cX9_readsLetter 30 = .ok (.aload_n 0, 1) := by decide +kernel
theorem dX9_readsLetter_31 : decode cX9_readsLetter 31 = .ok (.getfield 124, 3) := by decide +kernel
theorem dX9_readsLetter_34 : decode cX9_readsLetter 34 = .ok (.ifCond .ne 5, 3) := by decide +kernel
theorem dX9_readsLetter_37 : decode cX9_readsLetter 37 = .ok (.iconst 0, 1) := by decide +kernel
theorem dX9_readsLetter_38 : decode cX9_readsLetter 38 = .ok (.ireturn, 1) := by decide +kernel
theorem dX9_readsLetter_39 : decode cX9_readsLetter 39 = .ok (.aload_n 0, 1) := by decide +kernel
theorem dX9_readsLetter_40 : decode cX9_readsLetter 40 = .ok (.dup, 1) := by decide +kernel
theorem dX9_readsLetter_41 : decode cX9_readsLetter 41 = .ok (.getfield 100, 3) := by decide +kernel
theorem dX9_readsLetter_44 : decode cX9_readsLetter 44 = .ok (.iconst 1, 1) := by decide +kernel
theorem dX9_readsLetter_45 : decode cX9_readsLetter 45 = .ok (.iadd, 1) := by decide +kernel
theorem dX9_readsLetter_46 : decode cX9_readsLetter 46 = .ok (.putfield 100, 3) := by decide +kernel
theorem dX9_readsLetter_49 : decode cX9_readsLetter 49 = .ok (.aload_n 0, 1) := by decide +kernel
theorem dX9_readsLetter_50 : decode cX9_readsLetter 50 = .ok (.aload_n 0, 1) := by decide +kernel
theorem dX9_readsLetter_51 : decode cX9_readsLetter 51 = .ok (.getfield 124, 3) := by decide +kernel
theorem dX9_readsLetter_54 : decode cX9_readsLetter 54 = .ok (.iconst 1, 1) := by decide +kernel
theorem dX9_readsLetter_55 : decode cX9_readsLetter 55 = .ok (.isub, 1) := by decide +kernel
theorem dX9_readsLetter_56 : decode cX9_readsLetter 56 = .ok (.invokevirtual 112, 3) := by decide +kernel
theorem dX9_readsLetter_59 : decode cX9_readsLetter 59 = .ok (.istore_n 3, 1) := by decide +kernel
theorem dX9_readsLetter_60 : decode cX9_readsLetter 60 = .ok (.iload_n 3, 1) := by decide +kernel
theorem dX9_readsLetter_61 : decode cX9_readsLetter 61 = .ok (.bipush (-9), 2) := by decide +kernel
theorem dX9_readsLetter_63 : decode cX9_readsLetter 63 = .ok (.if_icmp .ne 8, 3) := by decide +kernel
theorem dX9_readsLetter_66 : decode cX9_readsLetter 66 = .ok (.bipush (-9), 2) := by decide +kernel
theorem dX9_readsLetter_68 : decode cX9_readsLetter 68 = .ok (.goto 9, 3) := by decide +kernel
theorem dX9_readsLetter_71 : decode cX9_readsLetter 71 = .ok (.aload_n 0, 1) := by decide +kernel
theorem dX9_readsLetter_72 : decode cX9_readsLetter 72 = .ok (.bipush 9, 2) := by decide +kernel
theorem dX9_readsLetter_74 : decode cX9_readsLetter 74 = .ok (.invokevirtual 112, 3) := by decide +kernel
theorem dX9_readsLetter_77 : decode cX9_readsLetter 77 = .ok (.istore 4, 2) := by decide +kernel
theorem dX9_readsLetter_79 : decode cX9_readsLetter 79 = .ok (.iload 4, 2) := by decide +kernel
theorem dX9_readsLetter_81 : decode cX9_readsLetter 81 = .ok (.bipush (-9), 2) := by decide +kernel
theorem dX9_readsLetter_83 : decode cX9_readsLetter 83 = .ok (.if_icmp .ne 5, 3) := by decide +kernel
theorem dX9_readsLetter_86 : decode cX9_readsLetter 86 = .ok (.iconst 0, 1) := by decide +kernel
theorem dX9_readsLetter_87 : decode cX9_readsLetter 87 = .ok (.ireturn, 1) := by decide +kernel
theorem dX9_readsLetter_88 : decode cX9_readsLetter 88 = .ok (.aload_n 0, 1) := by decide +kernel
theorem dX9_readsLetter_89 : decode cX9_readsLetter 89 = .ok (.getfield 44, 3) := by decide +kernel
theorem dX9_readsLetter_92 : decode cX9_readsLetter 92 = .ok (.iload_n 1, 1) := by decide +kernel
theorem dX9_readsLetter_93 : decode cX9_readsLetter 93 = .ok (.iload_n 2, 1) := by decide +kernel
theorem dX9_readsLetter_94 : decode cX9_readsLetter 94 = .ok (.iastore, 1) := by decide +kernel
theorem dX9_readsLetter_95 : decode cX9_readsLetter 95 = .ok (.aload_n 0, 1) := by decide +kernel
theorem dX9_readsLetter_96 : decode cX9_readsLetter 96 = .ok (.getfield 44, 3) := by decide +kernel
theorem dX9_readsLetter_99 : decode cX9_readsLetter 99 = .ok (.iload_n 1, 1) := by decide +kernel
theorem dX9_readsLetter_100 : decode cX9_readsLetter 100 = .ok (.iconst 1, 1) := by decide +kernel
theorem dX9_readsLetter_101 : decode cX9_readsLetter 101 = .ok (.iadd, 1) := by decide +kernel
theorem dX9_readsLetter_102 : decode cX9_readsLetter 102 = .ok (.iload_n 3, 1) := by decide +kernel
theorem dX9_readsLetter_103 : decode cX9_readsLetter 103 = .ok (.iastore, 1) := by decide +kernel
theorem dX9_readsLetter_104 : decode cX9_readsLetter 104 = .ok (.aload_n 0, 1) := by decide +kernel
theorem dX9_readsLetter_105 : decode cX9_readsLetter 105 = .ok (.getfield 44, 3) := by decide +kernel
theorem dX9_readsLetter_108 : decode cX9_readsLetter 108 = .ok (.iload_n 1, 1) := by decide +kernel
theorem dX9_readsLetter_109 : decode cX9_readsLetter 109 = .ok (.iconst 2, 1) := by decide +kernel
theorem dX9_readsLetter_110 : decode cX9_readsLetter 110 = .ok (.iadd, 1) := by decide +kernel
theorem dX9_readsLetter_111 : decode cX9_readsLetter 111 = .ok (.iload 4, 2) := by decide +kernel
theorem dX9_readsLetter_113 : decode cX9_readsLetter 113 = .ok (.iastore, 1) := by decide +kernel
theorem dX9_readsLetter_114 : decode cX9_readsLetter 114 = .ok (.aload_n 0, 1) := by decide +kernel
theorem dX9_readsLetter_115 : decode cX9_readsLetter 115 = .ok (.dup, 1) := by decide +kernel
theorem dX9_readsLetter_116 : decode cX9_readsLetter 116 = .ok (.getfield 127, 3) := by decide +kernel
theorem dX9_readsLetter_119 : decode cX9_readsLetter 119 = .ok (.iconst 1, 1) := by decide +kernel
theorem dX9_readsLetter_120 : decode cX9_readsLetter 120 = .ok (.iadd, 1) := by decide +kernel
theorem dX9_readsLetter_121 : decode cX9_readsLetter 121 = .ok (.putfield 127, 3) := by decide +kernel
theorem dX9_readsLetter_124 : decode cX9_readsLetter 124 = .ok (.iconst 1, 1) := by decide +kernel
theorem dX9_readsLetter_125 : decode cX9_readsLetter 125 = .ok (.ireturn, 1) := by decide +kernel
set_option maxRecDepth 20000 in
theorem w_X9_readsLetter_b37 {w : zWd} {X : zX} {l0 : Launch} {r : Int32} {S1 : zMem} (C : zC LM w X l0 cX9_readsLetter RX9 5 3 (some .boolean)) {S : zMem} {ls : Array Slot} (hl : lv_has ls 5 []) (h : X9_readsLetter_b37  S = some (r, S1)) : zV LM w X (some (.int r)) S1 S 37 ls [] := by
  unfold X9_readsLetter_b37 at h
  refine v_iconst 37 C (v := (0 : Int32)) dX9_readsLetter_37 (by decide) ?_
  exact v_zreturn 38 C dX9_readsLetter_38 h
set_option maxRecDepth 20000 in
theorem w_X9_readsLetter_b77 {w : zWd} {X : zX} {l0 : Launch} {r : Int32} {S1 : zMem} (C : zC LM w X l0 cX9_readsLetter RX9 5 3 (some .boolean)) {x1 : Int32} {x2 : Int32} {x3 : Int32} {s0 : Int32} {S : zMem} {ls : Array Slot} (hl : lv_has ls 5 [(0, .ref (w.2.2.1 0)), (1, .int x1), (2, .int x2), (3, .int x3)]) (h : X9_readsLetter_b77 x1 x2 x3 s0 S = some (r, S1)) : zV LM w X (some (.int r)) S1 S 77 ls [.int s0] := by
  unfold X9_readsLetter_b77 at h
  refine v_istore 77 C [(4, .int s0), (0, .ref (w.2.2.1 0)), (1, .int x1), (2, .int x2), (3, .int x3)] dX9_readsLetter_77 hl (by decide) rfl (fun ls hl => ?_)
  refine v_iload 79 C dX9_readsLetter_79 (lv_at hl 0 rfl) ?_
  refine v_bipush 81 C (v := (-9 : Int32)) dX9_readsLetter_81 (by decide) ?_
  refine v_icmp_ne 83 88 C dX9_readsLetter_83 (by decide) h (fun h => ?_) (fun h => ?_)
  · refine v_aload_n 88 C dX9_readsLetter_88 rfl (lv_at hl 1 rfl) ?_
    refine v_getr 89 (11) C dX9_readsLetter_89 fl_X9_44 rfl kM_0 rfl ?_
    refine v_iload_n 92 C dX9_readsLetter_92 rfl (lv_at hl 2 rfl) ?_
    refine v_iload_n 93 C dX9_readsLetter_93 rfl (lv_at hl 3 rfl) ?_
    refine v_iast 94 C dX9_readsLetter_94 kM_11 rfl h (fun S h => ?_)
    refine v_aload_n 95 C dX9_readsLetter_95 rfl (lv_at hl 1 rfl) ?_
    refine v_getr 96 (11) C dX9_readsLetter_96 fl_X9_44 rfl kM_0 rfl ?_
    refine v_iload_n 99 C dX9_readsLetter_99 rfl (lv_at hl 2 rfl) ?_
    refine v_iconst 100 C (v := (1 : Int32)) dX9_readsLetter_100 (by decide) ?_
    refine v_iadd 101 C dX9_readsLetter_101 h (fun v1 h => ?_)
    refine v_iload_n 102 C dX9_readsLetter_102 rfl (lv_at hl 4 rfl) ?_
    refine v_iast 103 C dX9_readsLetter_103 kM_11 rfl h (fun S h => ?_)
    refine v_aload_n 104 C dX9_readsLetter_104 rfl (lv_at hl 1 rfl) ?_
    refine v_getr 105 (11) C dX9_readsLetter_105 fl_X9_44 rfl kM_0 rfl ?_
    refine v_iload_n 108 C dX9_readsLetter_108 rfl (lv_at hl 2 rfl) ?_
    refine v_iconst 109 C (v := (2 : Int32)) dX9_readsLetter_109 (by decide) ?_
    refine v_iadd 110 C dX9_readsLetter_110 h (fun v2 h => ?_)
    refine v_iload 111 C dX9_readsLetter_111 (lv_at hl 0 rfl) ?_
    refine v_iast 113 C dX9_readsLetter_113 kM_11 rfl h (fun S h => ?_)
    refine v_aload_n 114 C dX9_readsLetter_114 rfl (lv_at hl 1 rfl) ?_
    refine v_dup 115 C dX9_readsLetter_115 rfl ?_
    refine v_geti 116 C dX9_readsLetter_116 fl_X9_127 rfl kM_0 h (fun v3 h => ?_)
    refine v_iconst 119 C (v := (1 : Int32)) dX9_readsLetter_119 (by decide) ?_
    refine v_iadd 120 C dX9_readsLetter_120 h (fun v4 h => ?_)
    refine v_puti 121 C dX9_readsLetter_121 fl_X9_127 fp_8_22 rfl kM_0 h (fun S h => ?_)
    refine v_iconst 124 C (v := (1 : Int32)) dX9_readsLetter_124 (by decide) ?_
    exact v_zreturn 125 C dX9_readsLetter_125 h
  · refine v_iconst 86 C (v := (0 : Int32)) dX9_readsLetter_86 (by decide) ?_
    exact v_zreturn 87 C dX9_readsLetter_87 h
set_option maxRecDepth 20000 in
theorem w_X9_readsLetter_b0 {w : zWd} {X : zX} {l0 : Launch} {r : Int32} {S1 : zMem} (C : zC LM w X l0 cX9_readsLetter RX9 5 3 (some .boolean)) {S : zMem} {ls : Array Slot} (hl : lv_has ls 5 [(0, .ref (w.2.2.1 0))]) (h : X9_readsLetter_b0  S = some (r, S1)) : zV LM w X (some (.int r)) S1 S 0 ls [] := by
  unfold X9_readsLetter_b0 at h
  refine v_iconst 0 C (v := (3 : Int32)) dX9_readsLetter_0 (by decide) ?_
  refine v_aload_n 1 C dX9_readsLetter_1 rfl (lv_at hl 0 rfl) ?_
  refine v_geti 2 C dX9_readsLetter_2 fl_X9_127 rfl kM_0 h (fun v1 h => ?_)
  refine v_imul 5 C dX9_readsLetter_5 h (fun v2 h => ?_)
  refine v_istore_n 6 C [(1, .int v2), (0, .ref (w.2.2.1 0))] dX9_readsLetter_6 rfl hl (by decide) rfl (fun ls hl => ?_)
  refine v_aload_n 7 C dX9_readsLetter_7 rfl (lv_at hl 1 rfl) ?_
  obtain ⟨v3, S, hc, h⟩ := zb_e h
  refine v_callVi 8 C (ci := 8) [] dX9_readsLetter_8 ml_X9_106 hy_X9_here (c_X9_here  hc) (by decide) rfl hl.1 kM_0 rfl (Nat.le_of_ble_eq_true rfl) rfl ?_
  obtain ⟨v4, S, hc, h⟩ := zb_e h
  refine v_callSi 11 C [] dX9_readsLetter_11 ml_X9_133 hy_X9_kindOfLetter (c_X9_kindOfLetter  hc) (by decide) rfl hl.1 (Nat.le_of_ble_eq_true rfl) rfl ?_
  refine v_istore_n 14 C [(2, .int v4), (1, .int v2), (0, .ref (w.2.2.1 0))] dX9_readsLetter_14 rfl hl (by decide) rfl (fun ls hl => ?_)
  refine v_iload_n 15 C dX9_readsLetter_15 rfl (lv_at hl 0 rfl) ?_
  refine v_bipush 16 C (v := (-9 : Int32)) dX9_readsLetter_16 (by decide) ?_
  refine v_icmp_eq 18 37 C dX9_readsLetter_18 (by decide) h (fun h => ?_) (fun h => ?_)
  · exact w_X9_readsLetter_b37 C (lv_sub hl [] rfl) h
  · refine v_aload_n 21 C dX9_readsLetter_21 rfl (lv_at hl 2 rfl) ?_
    refine v_geti 22 C dX9_readsLetter_22 fl_X9_127 rfl kM_0 h (fun v5 h => ?_)
    refine v_bipush 25 C (v := (6 : Int32)) dX9_readsLetter_25 (by decide) ?_
    refine v_icmp_eq 27 37 C dX9_readsLetter_27 (by decide) h (fun h => ?_) (fun h => ?_)
    · exact w_X9_readsLetter_b37 C (lv_sub hl [] rfl) h
    · refine v_aload_n 30 C dX9_readsLetter_30 rfl (lv_at hl 2 rfl) ?_
      refine v_geti 31 C dX9_readsLetter_31 fl_X9_124 rfl kM_0 h (fun v6 h => ?_)
      refine v_if_ne 34 39 C dX9_readsLetter_34 (by decide) h (fun h => ?_) (fun h => ?_)
      · refine v_aload_n 39 C dX9_readsLetter_39 rfl (lv_at hl 2 rfl) ?_
        refine v_dup 40 C dX9_readsLetter_40 rfl ?_
        refine v_geti 41 C dX9_readsLetter_41 fl_X9_100 rfl kM_0 h (fun v7 h => ?_)
        refine v_iconst 44 C (v := (1 : Int32)) dX9_readsLetter_44 (by decide) ?_
        refine v_iadd 45 C dX9_readsLetter_45 h (fun v8 h => ?_)
        refine v_puti 46 C dX9_readsLetter_46 fl_X9_100 fp_8_16 rfl kM_0 h (fun S h => ?_)
        refine v_aload_n 49 C dX9_readsLetter_49 rfl (lv_at hl 2 rfl) ?_
        refine v_aload_n 50 C dX9_readsLetter_50 rfl (lv_at hl 2 rfl) ?_
        refine v_geti 51 C dX9_readsLetter_51 fl_X9_124 rfl kM_0 h (fun v9 h => ?_)
        refine v_iconst 54 C (v := (1 : Int32)) dX9_readsLetter_54 (by decide) ?_
        refine v_isub 55 C dX9_readsLetter_55 h (fun v10 h => ?_)
        obtain ⟨v11, S, hc, h⟩ := zb_e h
        refine v_callVi 56 C (ci := 8) [] dX9_readsLetter_56 ml_X9_112 hy_X9_figure (c_X9_figure  hc) (by decide) rfl hl.1 kM_0 rfl (Nat.le_of_ble_eq_true rfl) rfl ?_
        refine v_istore_n 59 C [(3, .int v11), (2, .int v4), (1, .int v2), (0, .ref (w.2.2.1 0))] dX9_readsLetter_59 rfl hl (by decide) rfl (fun ls hl => ?_)
        refine v_iload_n 60 C dX9_readsLetter_60 rfl (lv_at hl 0 rfl) ?_
        refine v_bipush 61 C (v := (-9 : Int32)) dX9_readsLetter_61 (by decide) ?_
        refine v_icmp_ne 63 71 C dX9_readsLetter_63 (by decide) h (fun h => ?_) (fun h => ?_)
        · refine v_aload_n 71 C dX9_readsLetter_71 rfl (lv_at hl 3 rfl) ?_
          refine v_bipush 72 C (v := (9 : Int32)) dX9_readsLetter_72 (by decide) ?_
          obtain ⟨v12, S, hc, h⟩ := zb_e h
          refine v_callVi 74 C (ci := 8) [] dX9_readsLetter_74 ml_X9_112 hy_X9_figure (c_X9_figure  hc) (by decide) rfl hl.1 kM_0 rfl (Nat.le_of_ble_eq_true rfl) rfl ?_
          exact w_X9_readsLetter_b77 C (lv_sub hl [3, 2, 1, 0] rfl) h
        · refine v_bipush 66 C (v := (-9 : Int32)) dX9_readsLetter_66 (by decide) ?_
          refine v_goto 68 77 C dX9_readsLetter_68 (by decide) ?_
          exact w_X9_readsLetter_b77 C (lv_sub hl [3, 2, 1, 0] rfl) h
      · exact w_X9_readsLetter_b37 C (lv_sub hl [] rfl) h
theorem c_X9_readsLetter {w : zWd} {l0 : Launch} {S S1 : zMem} {r : Int32} (h : f_X9_readsLetter  S = some (r, S1)) : zMet LM w l0 yX9_readsLetter cX9_readsLetter 5 (some .boolean) 3 [.ref (w.2.2.1 0)] S (some (.int r)) S1 :=
  zMet_of (by decide +kernel) (Nat.le_of_ble_eq_true rfl) (fun X ls C hl => w_X9_readsLetter_b0 C hl h)
theorem ml_X9_143 : Cond.methodLink RX9 143 yX9_readsLetter ∈ zT := zT_of (List.mem_of_getElem? (i := 1048) (by decide +kernel)) rfl
theorem hy_X9_readsLetter : zYv yX9_readsLetter cX9_readsLetter 5 (some .boolean) 0 := ⟨⟨zT_of (List.mem_of_getElem? (i := 1051) (by decide +kernel)) rfl, zT_of (List.mem_of_getElem? (i := 78) (by decide +kernel)) rfl, by decide, by decide +kernel, by decide +kernel, by decide +kernel⟩, zT_of (List.mem_of_getElem? (i := 1050) (by decide +kernel)) rfl, zT_of (List.mem_of_getElem? (i := 33) (by decide +kernel)) rfl⟩
theorem ml_X9_140 : Cond.methodLink RX9 140 yX9_readsHouse ∈ zT := zT_of (List.mem_of_getElem? (i := 1040) (by decide +kernel)) rfl
theorem hy_X9_readsHouse : zYv yX9_readsHouse cX9_readsHouse 2 (some .boolean) 0 := ⟨⟨zT_of (List.mem_of_getElem? (i := 1043) (by decide +kernel)) rfl, zT_of (List.mem_of_getElem? (i := 78) (by decide +kernel)) rfl, by decide, by decide +kernel, by decide +kernel, by decide +kernel⟩, zT_of (List.mem_of_getElem? (i := 1042) (by decide +kernel)) rfl, zT_of (List.mem_of_getElem? (i := 31) (by decide +kernel)) rfl⟩
theorem fp_8_15 : zFP 8 15 .int := fun q h => by cases h; exact ⟨rfl, by decide +kernel⟩
theorem fp_8_17 : zFP 8 17 .int := fun q h => by cases h; exact ⟨rfl, by decide +kernel⟩
theorem ml_X9_136 : Cond.methodLink RX9 136 yX9_readsHead ∈ zT := zT_of (List.mem_of_getElem? (i := 1023) (by decide +kernel)) rfl
theorem hy_X9_readsHead : zYv yX9_readsHead cX9_readsHead 1 (some .boolean) 0 := ⟨⟨zT_of (List.mem_of_getElem? (i := 1026) (by decide +kernel)) rfl, zT_of (List.mem_of_getElem? (i := 78) (by decide +kernel)) rfl, by decide, by decide +kernel, by decide +kernel, by decide +kernel⟩, zT_of (List.mem_of_getElem? (i := 1025) (by decide +kernel)) rfl, zT_of (List.mem_of_getElem? (i := 27) (by decide +kernel)) rfl⟩
theorem dX9_faultOf_0 : decode cX9_faultOf 0 = .ok (.aload_n 0, 1) := by decide +kernel
theorem dX9_faultOf_1 : decode cX9_faultOf 1 = .ok (.bipush 60, 2) := by decide +kernel
theorem dX9_faultOf_3 : decode cX9_faultOf 3 = .ok (.iload_n 1, 1) := by decide +kernel
theorem dX9_faultOf_4 : decode cX9_faultOf 4 = .ok (.imul, 1) := by decide +kernel
theorem dX9_faultOf_5 : decode cX9_faultOf 5 = .ok (.putfield 97, 3) := by decide +kernel
theorem dX9_faultOf_8 : decode cX9_faultOf 8 = .ok (.aload_n 0, 1) := by decide +kernel
theorem dX9_faultOf_9 : decode cX9_faultOf 9 = .ok (.iconst 0, 1) := by decide +kernel
theorem dX9_faultOf_10 : decode cX9_faultOf 10 = .ok (.putfield 100, 3) := by decide +kernel
theorem dX9_faultOf_13 : decode cX9_faultOf 13 = .ok (.aload_n 0, 1) := by decide +kernel
theorem dX9_faultOf_14 : decode cX9_faultOf 14 = .ok (.aload_n 0, 1) := by decide +kernel
theorem dX9_faultOf_15 : decode cX9_faultOf 15 = .ok (.getfield 28, 3) := by decide +kernel
theorem dX9_faultOf_18 : decode cX9_faultOf 18 = .ok (.iload_n 1, 1) := by decide +kernel
theorem dX9_faultOf_19 : decode cX9_faultOf 19 = .ok (.iaload, 1) := by decide +kernel
theorem dX9_faultOf_20 : decode cX9_faultOf 20 = .ok (.putfield 103, 3) := by decide +kernel
theorem dX9_faultOf_23 : decode cX9_faultOf 23 = .ok (.aload_n 0, 1) := by decide +kernel
theorem dX9_faultOf_24 : decode cX9_faultOf 24 = .ok (.iconst 0, 1) := by decide +kernel
theorem dX9_faultOf_25 : decode cX9_faultOf 25 = .ok (.putfield 124, 3) := by decide +kernel
theorem dX9_faultOf_28 : decode cX9_faultOf 28 = .ok (.aload_n 0, 1) := by decide +kernel
theorem dX9_faultOf_29 : decode cX9_faultOf 29 = .ok (.iconst 0, 1) := by decide +kernel
theorem dX9_faultOf_30 : decode cX9_faultOf 30 = .ok (.putfield 127, 3) := by decide +kernel
theorem dX9_faultOf_33 : decode cX9_faultOf 33 = .ok (.aload_n 0, 1) := by decide +kernel
theorem dX9_faultOf_34 : decode cX9_faultOf 34 = .ok (.invokevirtual 136, 3) := by decide +kernel
theorem dX9_faultOf_37 : decode cX9_faultOf 37 = .ok (.istore_n 2, 1) := by decide +kernel
theorem dX9_faultOf_38 : decode cX9_faultOf 38 = .ok (.iload_n 2, 1) := by decide +kernel
theorem dX9_faultOf_39 : decode cX9_faultOf 39 = .ok (.ifCond .eq 7, 3) := by decide +kernel
theorem dX9_faultOf_42 : decode cX9_faultOf 42 = .ok (.aload_n 0, 1) := by decide +kernel
theorem dX9_faultOf_43 : decode cX9_faultOf 43 = .ok (.invokevirtual 115, 3) := by decide +kernel
theorem dX9_faultOf_46 : decode cX9_faultOf 46 = .ok (.iload_n 2, 1) := by decide +kernel
theorem dX9_faultOf_47 : decode cX9_faultOf 47 = .ok (.ifCond .eq 46, 3) := by decide +kernel
theorem dX9_faultOf_50 : decode cX9_faultOf 50 = .ok (.aload_n 0, 1) := by decide +kernel
theorem dX9_faultOf_51 : decode cX9_faultOf 51 = .ok (.getfield 100, 3) := by decide +kernel
theorem dX9_faultOf_54 : decode cX9_faultOf 54 = .ok (.aload_n 0, 1) := by decide +kernel
theorem dX9_faultOf_55 : decode cX9_faultOf 55 = .ok (.getfield 103, 3) := by decide +kernel
theorem dX9_faultOf_58 : decode cX9_faultOf 58 = .ok (.if_icmp .ge 35, 3) := by decide +kernel
theorem dX9_faultOf_61 : decode cX9_faultOf 61 = .ok (.aload_n 0, 1) := by decide +kernel
theorem dX9_faultOf_62 : decode cX9_faultOf 62 = .ok (.invokevirtual 106, 3) := by decide +kernel
theorem dX9_faultOf_65 : decode cX9_faultOf 65 = .ok (.bipush 104, 2) := by decide +kernel
theorem dX9_faultOf_67 : decode cX9_faultOf 67 = .ok (.if_icmp .ne 10, 3) := by decide +kernel
theorem dX9_faultOf_70 : decode cX9_faultOf 70 = .ok (.aload_n 0, 1) := by decide +kernel
theorem dX9_faultOf_71 : decode cX9_faultOf 71 = .ok (.invokevirtual 140, 3) := by decide +kernel
theorem dX9_faultOf_74 : decode cX9_faultOf 74 = .ok (.goto 7, 3) := by decide +kernel
theorem dX9_faultOf_77 : decode cX9_faultOf 77 = .ok (.aload_n 0, 1) := by decide +kernel
theorem dX9_faultOf_78 : decode cX9_faultOf 78 = .ok (.invokevirtual 143, 3) := by decide +kernel
theorem dX9_faultOf_81 : decode cX9_faultOf 81 = .ok (.istore_n 2, 1) := by decide +kernel
theorem dX9_faultOf_82 : decode cX9_faultOf 82 = .ok (.iload_n 2, 1) := by decide +kernel
theorem dX9_faultOf_83 : decode cX9_faultOf 83 = .ok (.ifCond .eq (-37), 3) := by decide +kernel
theorem dX9_faultOf_86 : decode cX9_faultOf 86 = .ok (.aload_n 0, 1) := by decide +kernel
theorem dX9_faultOf_87 : decode cX9_faultOf 87 = .ok (.invokevirtual 115, 3) := by decide +kernel
theorem dX9_faultOf_90 : decode cX9_faultOf 90 = .ok (.goto (-44), 3) := by decide +kernel
theorem dX9_faultOf_93 : decode cX9_faultOf 93 = .ok (.iload_n 2, 1) := by decide +kernel
theorem dX9_faultOf_94 : decode cX9_faultOf 94 = .ok (.ifCond .eq 15, 3) := by decide +kernel
theorem dX9_faultOf_97 : decode cX9_faultOf 97 = .ok (.aload_n 0, 1) := by decide +kernel
theorem dX9_faultOf_98 : decode cX9_faultOf 98 = .ok (.getfield 127, 3) := by decide +kernel
theorem dX9_faultOf_101 : decode cX9_faultOf 101 = .ok (.ifCond .le 8, 3) := by decide +kernel
theorem dX9_faultOf_104 : decode cX9_faultOf 104 = .ok (.bipush (-9), 2) := by decide +kernel
theorem dX9_faultOf_106 : decode cX9_faultOf 106 = .ok (.goto 7, 3) := by decide +kernel
theorem dX9_faultOf_109 : decode cX9_faultOf 109 = .ok (.aload_n 0, 1) := by decide +kernel
theorem dX9_faultOf_110 : decode cX9_faultOf 110 = .ok (.getfield 100, 3) := by decide +kernel
theorem dX9_faultOf_113 : decode cX9_faultOf 113 = .ok (.ireturn, 1) := by decide +kernel
set_option maxRecDepth 20000 in
theorem w_X9_faultOf_b81 {w : zWd} {X : zX} {l0 : Launch} {r : Int32} {S1 : zMem} (C : zC LM w X l0 cX9_faultOf RX9 3 5 (some .int)) {k46 : Int32 → zMem → Option (Int32 × zMem)} (hc46 : ∀ (x2 : Int32) (S : zMem) (ls : Array Slot), lv_has ls 3 [(0, .ref (w.2.2.1 0)), (2, .int x2)] → k46 x2 S = some (r, S1) → zV LM w X (some (.int r)) S1 S 46 ls []) {s0 : Int32} {S : zMem} {ls : Array Slot} (hl : lv_has ls 3 [(0, .ref (w.2.2.1 0))]) (h : X9_faultOf_b81 k46 s0 S = some (r, S1)) : zV LM w X (some (.int r)) S1 S 81 ls [.int s0] := by
  unfold X9_faultOf_b81 at h
  refine v_istore_n 81 C [(2, .int s0), (0, .ref (w.2.2.1 0))] dX9_faultOf_81 rfl hl (by decide) rfl (fun ls hl => ?_)
  refine v_iload_n 82 C dX9_faultOf_82 rfl (lv_at hl 0 rfl) ?_
  refine v_if_eq 83 46 C dX9_faultOf_83 (by decide) h (fun h => ?_) (fun h => ?_)
  · exact hc46 _ _ _ (lv_sub hl [1, 0] rfl) h
  · refine v_aload_n 86 C dX9_faultOf_86 rfl (lv_at hl 1 rfl) ?_
    obtain ⟨v1, S, hc, h⟩ := zb_e h
    refine v_callVv 87 C (ci := 8) [] dX9_faultOf_87 ml_X9_115 hy_X9_skip (c_X9_skip  hc) (by decide) rfl hl.1 kM_0 rfl (Nat.le_of_ble_eq_true rfl) rfl ?_
    refine v_goto 90 46 C dX9_faultOf_90 (by decide) ?_
    exact hc46 _ _ _ (lv_sub hl [1, 0] rfl) h
set_option maxRecDepth 20000 in
theorem w_X9_faultOf_b113 {w : zWd} {X : zX} {l0 : Launch} {r : Int32} {S1 : zMem} (C : zC LM w X l0 cX9_faultOf RX9 3 5 (some .int)) {s0 : Int32} {S : zMem} {ls : Array Slot} (hl : lv_has ls 3 []) (h : X9_faultOf_b113 s0 S = some (r, S1)) : zV LM w X (some (.int r)) S1 S 113 ls [.int s0] := by
  unfold X9_faultOf_b113 at h
  exact v_ireturn 113 C dX9_faultOf_113 h
set_option maxRecDepth 20000 in
theorem w_X9_faultOf_b109 {w : zWd} {X : zX} {l0 : Launch} {r : Int32} {S1 : zMem} (C : zC LM w X l0 cX9_faultOf RX9 3 5 (some .int)) {S : zMem} {ls : Array Slot} (hl : lv_has ls 3 [(0, .ref (w.2.2.1 0))]) (h : X9_faultOf_b109  S = some (r, S1)) : zV LM w X (some (.int r)) S1 S 109 ls [] := by
  unfold X9_faultOf_b109 at h
  refine v_aload_n 109 C dX9_faultOf_109 rfl (lv_at hl 0 rfl) ?_
  refine v_geti 110 C dX9_faultOf_110 fl_X9_100 rfl kM_0 h (fun v1 h => ?_)
  exact w_X9_faultOf_b113 C (lv_sub hl [] rfl) h
set_option maxRecDepth 20000 in
theorem w_X9_faultOf_b93 {w : zWd} {X : zX} {l0 : Launch} {r : Int32} {S1 : zMem} (C : zC LM w X l0 cX9_faultOf RX9 3 5 (some .int)) {x2 : Int32} {S : zMem} {ls : Array Slot} (hl : lv_has ls 3 [(0, .ref (w.2.2.1 0)), (2, .int x2)]) (h : X9_faultOf_b93 x2 S = some (r, S1)) : zV LM w X (some (.int r)) S1 S 93 ls [] := by
  unfold X9_faultOf_b93 at h
  refine v_iload_n 93 C dX9_faultOf_93 rfl (lv_at hl 1 rfl) ?_
  refine v_if_eq 94 109 C dX9_faultOf_94 (by decide) h (fun h => ?_) (fun h => ?_)
  · exact w_X9_faultOf_b109 C (lv_sub hl [0] rfl) h
  · refine v_aload_n 97 C dX9_faultOf_97 rfl (lv_at hl 0 rfl) ?_
    refine v_geti 98 C dX9_faultOf_98 fl_X9_127 rfl kM_0 h (fun v1 h => ?_)
    refine v_if_le 101 109 C dX9_faultOf_101 (by decide) h (fun h => ?_) (fun h => ?_)
    · exact w_X9_faultOf_b109 C (lv_sub hl [0] rfl) h
    · refine v_bipush 104 C (v := (-9 : Int32)) dX9_faultOf_104 (by decide) ?_
      refine v_goto 106 113 C dX9_faultOf_106 (by decide) ?_
      exact w_X9_faultOf_b113 C (lv_sub hl [] rfl) h
set_option maxRecDepth 20000 in
theorem w_X9_faultOf_b46 {w : zWd} {X : zX} {l0 : Launch} {r : Int32} {S1 : zMem} (C : zC LM w X l0 cX9_faultOf RX9 3 5 (some .int)) {k46 : Int32 → zMem → Option (Int32 × zMem)} (hc46 : ∀ (x2 : Int32) (S : zMem) (ls : Array Slot), lv_has ls 3 [(0, .ref (w.2.2.1 0)), (2, .int x2)] → k46 x2 S = some (r, S1) → zV LM w X (some (.int r)) S1 S 46 ls []) {x2 : Int32} {S : zMem} {ls : Array Slot} (hl : lv_has ls 3 [(0, .ref (w.2.2.1 0)), (2, .int x2)]) (h : X9_faultOf_b46 k46 x2 S = some (r, S1)) : zV LM w X (some (.int r)) S1 S 46 ls [] := by
  unfold X9_faultOf_b46 at h
  refine v_iload_n 46 C dX9_faultOf_46 rfl (lv_at hl 1 rfl) ?_
  refine v_if_eq 47 93 C dX9_faultOf_47 (by decide) h (fun h => ?_) (fun h => ?_)
  · exact w_X9_faultOf_b93 C (lv_sub hl [0, 1] rfl) h
  · refine v_aload_n 50 C dX9_faultOf_50 rfl (lv_at hl 0 rfl) ?_
    refine v_geti 51 C dX9_faultOf_51 fl_X9_100 rfl kM_0 h (fun v1 h => ?_)
    refine v_aload_n 54 C dX9_faultOf_54 rfl (lv_at hl 0 rfl) ?_
    refine v_geti 55 C dX9_faultOf_55 fl_X9_103 rfl kM_0 h (fun v2 h => ?_)
    refine v_icmp_ge 58 93 C dX9_faultOf_58 (by decide) h (fun h => ?_) (fun h => ?_)
    · exact w_X9_faultOf_b93 C (lv_sub hl [0, 1] rfl) h
    · refine v_aload_n 61 C dX9_faultOf_61 rfl (lv_at hl 0 rfl) ?_
      obtain ⟨v3, S, hc, h⟩ := zb_e h
      refine v_callVi 62 C (ci := 8) [] dX9_faultOf_62 ml_X9_106 hy_X9_here (c_X9_here  hc) (by decide) rfl hl.1 kM_0 rfl (Nat.le_of_ble_eq_true rfl) rfl ?_
      refine v_bipush 65 C (v := (104 : Int32)) dX9_faultOf_65 (by decide) ?_
      refine v_icmp_ne 67 77 C dX9_faultOf_67 (by decide) h (fun h => ?_) (fun h => ?_)
      · refine v_aload_n 77 C dX9_faultOf_77 rfl (lv_at hl 0 rfl) ?_
        obtain ⟨v4, S, hc, h⟩ := zb_e h
        refine v_callVi 78 C (ci := 8) [] dX9_faultOf_78 ml_X9_143 hy_X9_readsLetter (c_X9_readsLetter  hc) (by decide) rfl hl.1 kM_0 rfl (Nat.le_of_ble_eq_true rfl) rfl ?_
        exact w_X9_faultOf_b81 C hc46 (lv_sub hl [0] rfl) h
      · refine v_aload_n 70 C dX9_faultOf_70 rfl (lv_at hl 0 rfl) ?_
        obtain ⟨v5, S, hc, h⟩ := zb_e h
        refine v_callVi 71 C (ci := 8) [] dX9_faultOf_71 ml_X9_140 hy_X9_readsHouse (c_X9_readsHouse  hc) (by decide) rfl hl.1 kM_0 rfl (Nat.le_of_ble_eq_true rfl) rfl ?_
        refine v_goto 74 81 C dX9_faultOf_74 (by decide) ?_
        exact w_X9_faultOf_b81 C hc46 (lv_sub hl [0] rfl) h
theorem w_X9_faultOf_l46 {w : zWd} {X : zX} {l0 : Launch} {r : Int32} {S1 : zMem} (C : zC LM w X l0 cX9_faultOf RX9 3 5 (some .int)) : ∀ (n : Nat) (x2 : Int32) (S : zMem) (ls : Array Slot), lv_has ls 3 [(0, .ref (w.2.2.1 0)), (2, .int x2)] → X9_faultOf_l46 n x2 S = some (r, S1) → zV LM w X (some (.int r)) S1 S 46 ls [] := by
  intro n
  induction n with
  | zero =>
    intro x2 S ls hl h
    cases (show (none : Option (Int32 × zMem)) = some _ from h)
  | succ n ih =>
    intro x2 S ls hl h
    exact w_X9_faultOf_b46 C ih hl h
set_option maxRecDepth 20000 in
theorem w_X9_faultOf_b0 {w : zWd} {X : zX} {l0 : Launch} {r : Int32} {S1 : zMem} (C : zC LM w X l0 cX9_faultOf RX9 3 5 (some .int)) {x1 : Int32} {S : zMem} {ls : Array Slot} (hl : lv_has ls 3 [(0, .ref (w.2.2.1 0)), (1, .int x1)]) (h : X9_faultOf_b0 x1 S = some (r, S1)) : zV LM w X (some (.int r)) S1 S 0 ls [] := by
  unfold X9_faultOf_b0 at h
  refine v_aload_n 0 C dX9_faultOf_0 rfl (lv_at hl 0 rfl) ?_
  refine v_bipush 1 C (v := (60 : Int32)) dX9_faultOf_1 (by decide) ?_
  refine v_iload_n 3 C dX9_faultOf_3 rfl (lv_at hl 1 rfl) ?_
  refine v_imul 4 C dX9_faultOf_4 h (fun v1 h => ?_)
  refine v_puti 5 C dX9_faultOf_5 fl_X9_97 fp_8_15 rfl kM_0 h (fun S h => ?_)
  refine v_aload_n 8 C dX9_faultOf_8 rfl (lv_at hl 0 rfl) ?_
  refine v_iconst 9 C (v := (0 : Int32)) dX9_faultOf_9 (by decide) ?_
  refine v_puti 10 C dX9_faultOf_10 fl_X9_100 fp_8_16 rfl kM_0 h (fun S h => ?_)
  refine v_aload_n 13 C dX9_faultOf_13 rfl (lv_at hl 0 rfl) ?_
  refine v_aload_n 14 C dX9_faultOf_14 rfl (lv_at hl 0 rfl) ?_
  refine v_getr 15 (7) C dX9_faultOf_15 fl_X9_28 rfl kM_0 rfl ?_
  refine v_iload_n 18 C dX9_faultOf_18 rfl (lv_at hl 1 rfl) ?_
  refine v_iald 19 C dX9_faultOf_19 kM_7 rfl h (fun v2 h => ?_)
  refine v_puti 20 C dX9_faultOf_20 fl_X9_103 fp_8_17 rfl kM_0 h (fun S h => ?_)
  refine v_aload_n 23 C dX9_faultOf_23 rfl (lv_at hl 0 rfl) ?_
  refine v_iconst 24 C (v := (0 : Int32)) dX9_faultOf_24 (by decide) ?_
  refine v_puti 25 C dX9_faultOf_25 fl_X9_124 fp_8_20 rfl kM_0 h (fun S h => ?_)
  refine v_aload_n 28 C dX9_faultOf_28 rfl (lv_at hl 0 rfl) ?_
  refine v_iconst 29 C (v := (0 : Int32)) dX9_faultOf_29 (by decide) ?_
  refine v_puti 30 C dX9_faultOf_30 fl_X9_127 fp_8_22 rfl kM_0 h (fun S h => ?_)
  refine v_aload_n 33 C dX9_faultOf_33 rfl (lv_at hl 0 rfl) ?_
  obtain ⟨v3, S, hc, h⟩ := zb_e h
  refine v_callVi 34 C (ci := 8) [] dX9_faultOf_34 ml_X9_136 hy_X9_readsHead (c_X9_readsHead  hc) (by decide) rfl hl.1 kM_0 rfl (Nat.le_of_ble_eq_true rfl) rfl ?_
  refine v_istore_n 37 C [(2, .int v3), (0, .ref (w.2.2.1 0)), (1, .int x1)] dX9_faultOf_37 rfl hl (by decide) rfl (fun ls hl => ?_)
  refine v_iload_n 38 C dX9_faultOf_38 rfl (lv_at hl 0 rfl) ?_
  refine v_if_eq 39 46 C dX9_faultOf_39 (by decide) h (fun h => ?_) (fun h => ?_)
  · exact w_X9_faultOf_l46 C zF _ _ _ (lv_sub hl [1, 0] rfl) h
  · refine v_aload_n 42 C dX9_faultOf_42 rfl (lv_at hl 1 rfl) ?_
    obtain ⟨v4, S, hc, h⟩ := zb_e h
    refine v_callVv 43 C (ci := 8) [] dX9_faultOf_43 ml_X9_115 hy_X9_skip (c_X9_skip  hc) (by decide) rfl hl.1 kM_0 rfl (Nat.le_of_ble_eq_true rfl) rfl ?_
    exact w_X9_faultOf_l46 C zF _ _ _ (lv_sub hl [1, 0] rfl) h
theorem c_X9_faultOf {w : zWd} {l0 : Launch} {x1 : Int32} {S S1 : zMem} {r : Int32} (h : f_X9_faultOf x1 S = some (r, S1)) : zMet LM w l0 yX9_faultOf cX9_faultOf 3 (some .int) 5 [.ref (w.2.2.1 0), .int x1] S (some (.int r)) S1 :=
  zMet_of (by decide +kernel) (Nat.le_of_ble_eq_true rfl) (fun X ls C hl => w_X9_faultOf_b0 C hl h)
theorem ml_X9_146 : Cond.methodLink RX9 146 yX9_faultOf ∈ zT := zT_of (List.mem_of_getElem? (i := 1019) (by decide +kernel)) rfl
theorem hy_X9_faultOf : zYv yX9_faultOf cX9_faultOf 3 (some .int) 1 := ⟨⟨zT_of (List.mem_of_getElem? (i := 1022) (by decide +kernel)) rfl, zT_of (List.mem_of_getElem? (i := 78) (by decide +kernel)) rfl, by decide, by decide +kernel, by decide +kernel, by decide +kernel⟩, zT_of (List.mem_of_getElem? (i := 1021) (by decide +kernel)) rfl, zT_of (List.mem_of_getElem? (i := 26) (by decide +kernel)) rfl⟩
theorem dX9_fault_0 : decode cX9_fault 0 = .ok (.iload_n 1, 1) := by decide +kernel
theorem dX9_fault_1 : decode cX9_fault 1 = .ok (.invokestatic 94, 3) := by decide +kernel
theorem dX9_fault_4 : decode cX9_fault 4 = .ok (.ifCond .ne 5, 3) := by decide +kernel
theorem dX9_fault_7 : decode cX9_fault 7 = .ok (.iconst (-1), 1) := by decide +kernel
theorem dX9_fault_8 : decode cX9_fault 8 = .ok (.ireturn, 1) := by decide +kernel
theorem dX9_fault_9 : decode cX9_fault 9 = .ok (.aload_n 0, 1) := by decide +kernel
theorem dX9_fault_10 : decode cX9_fault 10 = .ok (.getfield 28, 3) := by decide +kernel
theorem dX9_fault_13 : decode cX9_fault 13 = .ok (.iload_n 1, 1) := by decide +kernel
theorem dX9_fault_14 : decode cX9_fault 14 = .ok (.iaload, 1) := by decide +kernel
theorem dX9_fault_15 : decode cX9_fault 15 = .ok (.ifCond .ge 11, 3) := by decide +kernel
theorem dX9_fault_18 : decode cX9_fault 18 = .ok (.aload_n 0, 1) := by decide +kernel
theorem dX9_fault_19 : decode cX9_fault 19 = .ok (.iconst 1, 1) := by decide +kernel
theorem dX9_fault_20 : decode cX9_fault 20 = .ok (.invokevirtual 75, 3) := by decide +kernel
theorem dX9_fault_23 : decode cX9_fault 23 = .ok (.goto 8, 3) := by decide +kernel
theorem dX9_fault_26 : decode cX9_fault 26 = .ok (.aload_n 0, 1) := by decide +kernel
theorem dX9_fault_27 : decode cX9_fault 27 = .ok (.iload_n 1, 1) := by decide +kernel
theorem dX9_fault_28 : decode cX9_fault 28 = .ok (.invokevirtual 146, 3) := by decide +kernel
theorem dX9_fault_31 : decode cX9_fault 31 = .ok (.ireturn, 1) := by decide +kernel
set_option maxRecDepth 20000 in
theorem w_X9_fault_b31 {w : zWd} {X : zX} {l0 : Launch} {r : Int32} {S1 : zMem} (C : zC LM w X l0 cX9_fault RX9 2 6 (some .int)) {s0 : Int32} {S : zMem} {ls : Array Slot} (hl : lv_has ls 2 []) (h : X9_fault_b31 s0 S = some (r, S1)) : zV LM w X (some (.int r)) S1 S 31 ls [.int s0] := by
  unfold X9_fault_b31 at h
  exact v_ireturn 31 C dX9_fault_31 h
set_option maxRecDepth 20000 in
theorem w_X9_fault_b0 {w : zWd} {X : zX} {l0 : Launch} {r : Int32} {S1 : zMem} (C : zC LM w X l0 cX9_fault RX9 2 6 (some .int)) {x1 : Int32} {S : zMem} {ls : Array Slot} (hl : lv_has ls 2 [(0, .ref (w.2.2.1 0)), (1, .int x1)]) (h : X9_fault_b0 x1 S = some (r, S1)) : zV LM w X (some (.int r)) S1 S 0 ls [] := by
  unfold X9_fault_b0 at h
  refine v_iload_n 0 C dX9_fault_0 rfl (lv_at hl 1 rfl) ?_
  obtain ⟨v1, S, hc, h⟩ := zb_e h
  refine v_callSi 1 C [] dX9_fault_1 ml_X9_94 hy_X9_isText (c_X9_isText  hc) (by decide) rfl hl.1 (Nat.le_of_ble_eq_true rfl) rfl ?_
  refine v_if_ne 4 9 C dX9_fault_4 (by decide) h (fun h => ?_) (fun h => ?_)
  · refine v_aload_n 9 C dX9_fault_9 rfl (lv_at hl 0 rfl) ?_
    refine v_getr 10 (7) C dX9_fault_10 fl_X9_28 rfl kM_0 rfl ?_
    refine v_iload_n 13 C dX9_fault_13 rfl (lv_at hl 1 rfl) ?_
    refine v_iald 14 C dX9_fault_14 kM_7 rfl h (fun v2 h => ?_)
    refine v_if_ge 15 26 C dX9_fault_15 (by decide) h (fun h => ?_) (fun h => ?_)
    · refine v_aload_n 26 C dX9_fault_26 rfl (lv_at hl 0 rfl) ?_
      refine v_iload_n 27 C dX9_fault_27 rfl (lv_at hl 1 rfl) ?_
      obtain ⟨v3, S, hc, h⟩ := zb_e h
      refine v_callVi 28 C (ci := 8) [] dX9_fault_28 ml_X9_146 hy_X9_faultOf (c_X9_faultOf  hc) (by decide) rfl hl.1 kM_0 rfl (Nat.le_of_ble_eq_true rfl) rfl ?_
      exact w_X9_fault_b31 C (lv_sub hl [] rfl) h
    · refine v_aload_n 18 C dX9_fault_18 rfl (lv_at hl 0 rfl) ?_
      refine v_iconst 19 C (v := (1 : Int32)) dX9_fault_19 (by decide) ?_
      obtain ⟨v4, S, hc, h⟩ := zb_e h
      refine v_callVi 20 C (ci := 8) [] dX9_fault_20 ml_X9_75 hy_X9_find (c_X9_find  hc) (by decide) rfl hl.1 kM_0 rfl (Nat.le_of_ble_eq_true rfl) rfl ?_
      refine v_goto 23 31 C dX9_fault_23 (by decide) ?_
      exact w_X9_fault_b31 C (lv_sub hl [] rfl) h
  · refine v_iconst 7 C (v := (-1 : Int32)) dX9_fault_7 (by decide) ?_
    exact v_ireturn 8 C dX9_fault_8 h
theorem c_X9_fault {w : zWd} {l0 : Launch} {x1 : Int32} {S S1 : zMem} {r : Int32} (h : f_X9_fault x1 S = some (r, S1)) : zMet LM w l0 yX9_fault cX9_fault 2 (some .int) 6 [.ref (w.2.2.1 0), .int x1] S (some (.int r)) S1 :=
  zMet_of (by decide +kernel) (Nat.le_of_ble_eq_true rfl) (fun X ls C hl => w_X9_fault_b0 C hl h)
theorem fl_X9_152 : zFL RX9 152 8 2 := ⟨_, rfl, by decide, zT_of (List.mem_of_getElem? (i := 872) (by decide +kernel)) rfl⟩
theorem fl_X9_7 : zFL RX9 7 8 0 := ⟨_, rfl, by decide, zT_of (List.mem_of_getElem? (i := 870) (by decide +kernel)) rfl⟩
theorem fl_X9_13 : zFL RX9 13 8 3 := ⟨_, rfl, by decide, zT_of (List.mem_of_getElem? (i := 873) (by decide +kernel)) rfl⟩
theorem fl_X9_16 : zFL RX9 16 8 4 := ⟨_, rfl, by decide, zT_of (List.mem_of_getElem? (i := 874) (by decide +kernel)) rfl⟩
theorem fl_X9_19 : zFL RX9 19 8 5 := ⟨_, rfl, by decide, zT_of (List.mem_of_getElem? (i := 875) (by decide +kernel)) rfl⟩
theorem fl_X9_149 : zFL RX9 149 8 1 := ⟨_, rfl, by decide, zT_of (List.mem_of_getElem? (i := 871) (by decide +kernel)) rfl⟩
theorem fp_8_1 : zFP 8 1 .int := fun q h => by cases h; exact ⟨rfl, by decide +kernel⟩
theorem fp_8_2 : zFP 8 2 .int := fun q h => by cases h; exact ⟨rfl, by decide +kernel⟩
theorem dX9_post_0 : decode cX9_post 0 = .ok (.iload_n 1, 1) := by decide +kernel
theorem dX9_post_1 : decode cX9_post 1 = .ok (.invokestatic 94, 3) := by decide +kernel
theorem dX9_post_4 : decode cX9_post 4 = .ok (.ifCond .ne 5, 3) := by decide +kernel
theorem dX9_post_7 : decode cX9_post 7 = .ok (.iconst (-1), 1) := by decide +kernel
theorem dX9_post_8 : decode cX9_post 8 = .ok (.ireturn, 1) := by decide +kernel
theorem dX9_post_9 : decode cX9_post 9 = .ok (.aload_n 0, 1) := by decide +kernel
theorem dX9_post_10 : decode cX9_post 10 = .ok (.getfield 28, 3) := by decide +kernel
theorem dX9_post_13 : decode cX9_post 13 = .ok (.iload_n 1, 1) := by decide +kernel
theorem dX9_post_14 : decode cX9_post 14 = .ok (.iaload, 1) := by decide +kernel
theorem dX9_post_15 : decode cX9_post 15 = .ok (.ifCond .ge 9, 3) := by decide +kernel
theorem dX9_post_18 : decode cX9_post 18 = .ok (.aload_n 0, 1) := by decide +kernel
theorem dX9_post_19 : decode cX9_post 19 = .ok (.iconst 1, 1) := by decide +kernel
theorem dX9_post_20 : decode cX9_post 20 = .ok (.invokevirtual 75, 3) := by decide +kernel
theorem dX9_post_23 : decode cX9_post 23 = .ok (.ireturn, 1) := by decide +kernel
theorem dX9_post_24 : decode cX9_post 24 = .ok (.aload_n 0, 1) := by decide +kernel
theorem dX9_post_25 : decode cX9_post 25 = .ok (.iload_n 1, 1) := by decide +kernel
theorem dX9_post_26 : decode cX9_post 26 = .ok (.invokevirtual 146, 3) := by decide +kernel
theorem dX9_post_29 : decode cX9_post 29 = .ok (.bipush (-9), 2) := by decide +kernel
theorem dX9_post_31 : decode cX9_post 31 = .ok (.if_icmp .eq 6, 3) := by decide +kernel
theorem dX9_post_34 : decode cX9_post 34 = .ok (.bipush (-4), 2) := by decide +kernel
theorem dX9_post_36 : decode cX9_post 36 = .ok (.ireturn, 1) := by decide +kernel
theorem dX9_post_37 : decode cX9_post 37 = .ok (.iconst 0, 1) := by decide +kernel
theorem dX9_post_38 : decode cX9_post 38 = .ok (.istore_n 2, 1) := by decide +kernel
theorem dX9_post_39 : decode cX9_post 39 = .ok (.iload_n 2, 1) := by decide +kernel
theorem dX9_post_40 : decode cX9_post 40 = .ok (.sipush 698, 3) := by decide +kernel
theorem dX9_post_43 : decode cX9_post 43 = .ok (.if_icmp .ge 16, 3) := by decide +kernel
theorem dX9_post_46 : decode cX9_post 46 = .ok (.aload_n 0, 1) := by decide +kernel
theorem dX9_post_47 : decode cX9_post 47 = .ok (.getfield 7, 3) := by decide +kernel
theorem dX9_post_50 : decode cX9_post 50 = .ok (.iload_n 2, 1) := by decide +kernel
theorem dX9_post_51 : decode cX9_post 51 = .ok (.iconst 0, 1) := by decide +kernel
theorem dX9_post_52 : decode cX9_post 52 = .ok (.iastore, 1) := by decide +kernel
theorem dX9_post_53 : decode cX9_post 53 = .ok (.iinc 2 1, 3) := by decide +kernel
theorem dX9_post_56 : decode cX9_post 56 = .ok (.goto (-17), 3) := by decide +kernel
theorem dX9_post_59 : decode cX9_post 59 = .ok (.aload_n 0, 1) := by decide +kernel
theorem dX9_post_60 : decode cX9_post 60 = .ok (.getfield 7, 3) := by decide +kernel
theorem dX9_post_63 : decode cX9_post 63 = .ok (.iconst 2, 1) := by decide +kernel
theorem dX9_post_64 : decode cX9_post 64 = .ok (.aload_n 0, 1) := by decide +kernel
theorem dX9_post_65 : decode cX9_post 65 = .ok (.getfield 118, 3) := by decide +kernel
theorem dX9_post_68 : decode cX9_post 68 = .ok (.iastore, 1) := by decide +kernel
theorem dX9_post_69 : decode cX9_post 69 = .ok (.aload_n 0, 1) := by decide +kernel
theorem dX9_post_70 : decode cX9_post 70 = .ok (.getfield 7, 3) := by decide +kernel
theorem dX9_post_73 : decode cX9_post 73 = .ok (.iconst 3, 1) := by decide +kernel
theorem dX9_post_74 : decode cX9_post 74 = .ok (.aload_n 0, 1) := by decide +kernel
theorem dX9_post_75 : decode cX9_post 75 = .ok (.getfield 121, 3) := by decide +kernel
theorem dX9_post_78 : decode cX9_post 78 = .ok (.iastore, 1) := by decide +kernel
theorem dX9_post_79 : decode cX9_post 79 = .ok (.aload_n 0, 1) := by decide +kernel
theorem dX9_post_80 : decode cX9_post 80 = .ok (.aload_n 0, 1) := by decide +kernel
theorem dX9_post_81 : decode cX9_post 81 = .ok (.getfield 124, 3) := by decide +kernel
theorem dX9_post_84 : decode cX9_post 84 = .ok (.putfield 149, 3) := by decide +kernel
theorem dX9_post_87 : decode cX9_post 87 = .ok (.aload_n 0, 1) := by decide +kernel
theorem dX9_post_88 : decode cX9_post 88 = .ok (.aload_n 0, 1) := by decide +kernel
theorem dX9_post_89 : decode cX9_post 89 = .ok (.getfield 127, 3) := by decide +kernel
theorem dX9_post_92 : decode cX9_post 92 = .ok (.putfield 152, 3) := by decide +kernel
theorem dX9_post_95 : decode cX9_post 95 = .ok (.iconst 0, 1) := by decide +kernel
theorem dX9_post_96 : decode cX9_post 96 = .ok (.istore_n 2, 1) := by decide +kernel
theorem dX9_post_97 : decode cX9_post 97 = .ok (.iload_n 2, 1) := by decide +kernel
theorem dX9_post_98 : decode cX9_post 98 = .ok (.aload_n 0, 1) := by decide +kernel
theorem dX9_post_99 : decode cX9_post 99 = .ok (.getfield 149, 3) := by decide +kernel
theorem dX9_post_102 : decode cX9_post 102 = .ok (.if_icmp .ge 24, 3) := by decide +kernel
theorem dX9_post_105 : decode cX9_post 105 = .ok (.aload_n 0, 1) := by decide +kernel
theorem dX9_post_106 : decode cX9_post 106 = .ok (.getfield 7, 3) := by decide +kernel
theorem dX9_post_109 : decode cX9_post 109 = .ok (.bipush 6, 2) := by decide +kernel
theorem dX9_post_111 : decode cX9_post 111 = .ok (.iload_n 2, 1) := by decide +kernel
theorem dX9_post_112 : decode cX9_post 112 = .ok (.iadd, 1) := by decide +kernel
theorem dX9_post_113 : decode cX9_post 113 = .ok (.aload_n 0, 1) := by decide +kernel
theorem dX9_post_114 : decode cX9_post 114 = .ok (.getfield 41, 3) := by decide +kernel
theorem dX9_post_117 : decode cX9_post 117 = .ok (.iload_n 2, 1) := by decide +kernel
theorem dX9_post_118 : decode cX9_post 118 = .ok (.iaload, 1) := by decide +kernel
theorem dX9_post_119 : decode cX9_post 119 = .ok (.iastore, 1) := by decide +kernel
theorem dX9_post_120 : decode cX9_post 120 = .ok (.iinc 2 1, 3) := by decide +kernel
theorem dX9_post_123 : decode cX9_post 123 = .ok (.goto (-26), 3) := by decide +kernel
theorem dX9_post_126 : decode cX9_post 126 = .ok (.iconst 0, 1) := by decide +kernel
theorem dX9_post_127 : decode cX9_post 127 = .ok (.istore_n 2, 1) := by decide +kernel
theorem dX9_post_128 : decode cX9_post 128 = .ok (.iload_n 2, 1) := by decide +kernel
theorem dX9_post_129 : decode cX9_post 129 = .ok (.aload_n 0, 1) := by decide +kernel
theorem dX9_post_130 : decode cX9_post 130 = .ok (.getfield 152, 3) := by decide +kernel
theorem dX9_post_133 : decode cX9_post 133 = .ok (.if_icmp .ge 55, 3) := by decide +kernel
theorem dX9_post_136 : decode cX9_post 136 = .ok (.aload_n 0, 1) := by decide +kernel
theorem dX9_post_137 : decode cX9_post 137 = .ok (.getfield 13, 3) := by decide +kernel
theorem dX9_post_140 : decode cX9_post 140 = .ok (.iload_n 2, 1) := by decide +kernel
theorem dX9_post_141 : decode cX9_post 141 = .ok (.aload_n 0, 1) := by decide +kernel
theorem dX9_post_142 : decode cX9_post 142 = .ok (.getfield 44, 3) := by decide +kernel
theorem dX9_post_145 : decode cX9_post 145 = .ok (.iconst 3, 1) := by decide +kernel
theorem dX9_post_146 : decode cX9_post 146 = .ok (.iload_n 2, 1) := by decide +kernel
theorem dX9_post_147 : decode cX9_post 147 = .ok (.imul, 1) := by decide +kernel
theorem dX9_post_148 : decode cX9_post 148 = .ok (.iaload, 1) := by decide +kernel
theorem dX9_post_149 : decode cX9_post 149 = .ok (.iastore, 1) := by decide +kernel
theorem dX9_post_150 : decode cX9_post 150 = .ok (.aload_n 0, 1) := by decide +kernel
theorem dX9_post_151 : decode cX9_post 151 = .ok (.getfield 16, 3) := by decide +kernel
theorem dX9_post_154 : decode cX9_post 154 = .ok (.iload_n 2, 1) := by decide +kernel
theorem dX9_post_155 : decode cX9_post 155 = .ok (.aload_n 0, 1) := by decide +kernel
theorem dX9_post_156 : decode cX9_post 156 = .ok (.getfield 44, 3) := by decide +kernel
theorem dX9_post_159 : decode cX9_post 159 = .ok (.iconst 3, 1) := by decide +kernel
theorem dX9_post_160 : decode cX9_post 160 = .ok (.iload_n 2, 1) := by decide +kernel
theorem dX9_post_161 : decode cX9_post 161 = .ok (.imul, 1) := by decide +kernel
theorem dX9_post_162 : decode cX9_post 162 = .ok (.iconst 1, 1) := by decide +kernel
theorem dX9_post_163 : decode cX9_post 163 = .ok (.iadd, 1) := by decide +kernel
theorem dX9_post_164 : decode cX9_post 164 = .ok (.iaload, 1) := by decide +kernel
theorem dX9_post_165 : decode cX9_post 165 = .ok (.iastore, 1) := by decide +kernel
theorem dX9_post_166 : decode cX9_post 166 = .ok (.aload_n 0, 1) := by decide +kernel
theorem dX9_post_167 : decode cX9_post 167 = .ok (.getfield 19, 3) := by decide +kernel
theorem dX9_post_170 : decode cX9_post 170 = .ok (.iload_n 2, 1) := by decide +kernel
theorem dX9_post_171 : decode cX9_post 171 = .ok (.aload_n 0, 1) := by decide +kernel
theorem dX9_post_172 : decode cX9_post 172 = .ok (.getfield 44, 3) := by decide +kernel
theorem dX9_post_175 : decode cX9_post 175 = .ok (.iconst 3, 1) := by decide +kernel
theorem dX9_post_176 : decode cX9_post 176 = .ok (.iload_n 2, 1) := by decide +kernel
theorem dX9_post_177 : decode cX9_post 177 = .ok (.imul, 1) := by decide +kernel
theorem dX9_post_178 : decode cX9_post 178 = .ok (.iconst 2, 1) := by decide +kernel
theorem dX9_post_179 : decode cX9_post 179 = .ok (.iadd, 1) := by decide +kernel
theorem dX9_post_180 : decode cX9_post 180 = .ok (.iaload, 1) := by decide +kernel
theorem dX9_post_181 : decode cX9_post 181 = .ok (.iastore, 1) := by decide +kernel
theorem dX9_post_182 : decode cX9_post 182 = .ok (.iinc 2 1, 3) := by decide +kernel
theorem dX9_post_185 : decode cX9_post 185 = .ok (.goto (-57), 3) := by decide +kernel
theorem dX9_post_188 : decode cX9_post 188 = .ok (.iconst 1, 1) := by decide +kernel
theorem dX9_post_189 : decode cX9_post 189 = .ok (.istore_n 2, 1) := by decide +kernel
theorem dX9_post_190 : decode cX9_post 190 = .ok (.iload_n 2, 1) := by decide +kernel
theorem dX9_post_191 : decode cX9_post 191 = .ok (.iconst 4, 1) := by decide +kernel
theorem dX9_post_192 : decode cX9_post 192 = .ok (.if_icmp .ge 22, 3) := by decide +kernel
theorem dX9_post_195 : decode cX9_post 195 = .ok (.aload_n 0, 1) := by decide +kernel
theorem dX9_post_196 : decode cX9_post 196 = .ok (.getfield 7, 3) := by decide +kernel
theorem dX9_post_199 : decode cX9_post 199 = .ok (.sipush 698, 3) := by decide +kernel
theorem dX9_post_202 : decode cX9_post 202 = .ok (.iload_n 2, 1) := by decide +kernel
theorem dX9_post_203 : decode cX9_post 203 = .ok (.imul, 1) := by decide +kernel
theorem dX9_post_204 : decode cX9_post 204 = .ok (.iconst 0, 1) := by decide +kernel
theorem dX9_post_205 : decode cX9_post 205 = .ok (.iadd, 1) := by decide +kernel
theorem dX9_post_206 : decode cX9_post 206 = .ok (.iconst (-1), 1) := by decide +kernel
theorem dX9_post_207 : decode cX9_post 207 = .ok (.iastore, 1) := by decide +kernel
theorem dX9_post_208 : decode cX9_post 208 = .ok (.iinc 2 1, 3) := by decide +kernel
theorem dX9_post_211 : decode cX9_post 211 = .ok (.goto (-21), 3) := by decide +kernel
theorem dX9_post_214 : decode cX9_post 214 = .ok (.aload_n 0, 1) := by decide +kernel
theorem dX9_post_215 : decode cX9_post 215 = .ok (.getfield 152, 3) := by decide +kernel
theorem dX9_post_218 : decode cX9_post 218 = .ok (.ireturn, 1) := by decide +kernel
set_option maxRecDepth 20000 in
theorem w_X9_post_b190 {w : zWd} {X : zX} {l0 : Launch} {r : Int32} {S1 : zMem} (C : zC LM w X l0 cX9_post RX9 3 6 (some .int)) {k190 : Int32 → zMem → Option (Int32 × zMem)} (hc190 : ∀ (x2 : Int32) (S : zMem) (ls : Array Slot), lv_has ls 3 [(0, .ref (w.2.2.1 0)), (2, .int x2)] → k190 x2 S = some (r, S1) → zV LM w X (some (.int r)) S1 S 190 ls []) {x2 : Int32} {S : zMem} {ls : Array Slot} (hl : lv_has ls 3 [(0, .ref (w.2.2.1 0)), (2, .int x2)]) (h : X9_post_b190 k190 x2 S = some (r, S1)) : zV LM w X (some (.int r)) S1 S 190 ls [] := by
  unfold X9_post_b190 at h
  refine v_iload_n 190 C dX9_post_190 rfl (lv_at hl 1 rfl) ?_
  refine v_iconst 191 C (v := (4 : Int32)) dX9_post_191 (by decide) ?_
  refine v_icmp_ge 192 214 C dX9_post_192 (by decide) h (fun h => ?_) (fun h => ?_)
  · refine v_aload_n 214 C dX9_post_214 rfl (lv_at hl 0 rfl) ?_
    refine v_geti 215 C dX9_post_215 fl_X9_152 rfl kM_0 h (fun v1 h => ?_)
    exact v_ireturn 218 C dX9_post_218 h
  · refine v_aload_n 195 C dX9_post_195 rfl (lv_at hl 0 rfl) ?_
    refine v_getr 196 (1) C dX9_post_196 fl_X9_7 rfl kM_0 rfl ?_
    refine v_sipush 199 C (v := (698 : Int32)) dX9_post_199 (by decide) ?_
    refine v_iload_n 202 C dX9_post_202 rfl (lv_at hl 1 rfl) ?_
    refine v_imul 203 C dX9_post_203 h (fun v2 h => ?_)
    refine v_iconst 204 C (v := (0 : Int32)) dX9_post_204 (by decide) ?_
    refine v_iadd 205 C dX9_post_205 h (fun v3 h => ?_)
    refine v_iconst 206 C (v := (-1 : Int32)) dX9_post_206 (by decide) ?_
    refine v_iast 207 C dX9_post_207 kM_1 rfl h (fun S h => ?_)
    refine v_iinc 208 C (nn := (1 : Int32)) (fun v => [(2, .int v), (0, .ref (w.2.2.1 0))]) dX9_post_208 hl (k := 1) rfl (by decide) (by decide) (fun _ => rfl) h (fun v4 ls hl h => ?_)
    refine v_goto 211 190 C dX9_post_211 (by decide) ?_
    exact hc190 _ _ _ (lv_sub hl [1, 0] rfl) h
theorem w_X9_post_l190 {w : zWd} {X : zX} {l0 : Launch} {r : Int32} {S1 : zMem} (C : zC LM w X l0 cX9_post RX9 3 6 (some .int)) : ∀ (n : Nat) (x2 : Int32) (S : zMem) (ls : Array Slot), lv_has ls 3 [(0, .ref (w.2.2.1 0)), (2, .int x2)] → X9_post_l190 n x2 S = some (r, S1) → zV LM w X (some (.int r)) S1 S 190 ls [] := by
  intro n
  induction n with
  | zero =>
    intro x2 S ls hl h
    cases (show (none : Option (Int32 × zMem)) = some _ from h)
  | succ n ih =>
    intro x2 S ls hl h
    exact w_X9_post_b190 C ih hl h
set_option maxRecDepth 20000 in
theorem w_X9_post_b128 {w : zWd} {X : zX} {l0 : Launch} {r : Int32} {S1 : zMem} (C : zC LM w X l0 cX9_post RX9 3 6 (some .int)) {k128 : Int32 → zMem → Option (Int32 × zMem)} (hc128 : ∀ (x2 : Int32) (S : zMem) (ls : Array Slot), lv_has ls 3 [(0, .ref (w.2.2.1 0)), (2, .int x2)] → k128 x2 S = some (r, S1) → zV LM w X (some (.int r)) S1 S 128 ls []) {x2 : Int32} {S : zMem} {ls : Array Slot} (hl : lv_has ls 3 [(0, .ref (w.2.2.1 0)), (2, .int x2)]) (h : X9_post_b128 k128 x2 S = some (r, S1)) : zV LM w X (some (.int r)) S1 S 128 ls [] := by
  unfold X9_post_b128 at h
  refine v_iload_n 128 C dX9_post_128 rfl (lv_at hl 1 rfl) ?_
  refine v_aload_n 129 C dX9_post_129 rfl (lv_at hl 0 rfl) ?_
  refine v_geti 130 C dX9_post_130 fl_X9_152 rfl kM_0 h (fun v1 h => ?_)
  refine v_icmp_ge 133 188 C dX9_post_133 (by decide) h (fun h => ?_) (fun h => ?_)
  · refine v_iconst 188 C (v := (1 : Int32)) dX9_post_188 (by decide) ?_
    refine v_istore_n 189 C [(2, .int (1 : Int32)), (0, .ref (w.2.2.1 0))] dX9_post_189 rfl hl (by decide) rfl (fun ls hl => ?_)
    exact w_X9_post_l190 C zF _ _ _ (lv_sub hl [1, 0] rfl) h
  · refine v_aload_n 136 C dX9_post_136 rfl (lv_at hl 0 rfl) ?_
    refine v_getr 137 (2) C dX9_post_137 fl_X9_13 rfl kM_0 rfl ?_
    refine v_iload_n 140 C dX9_post_140 rfl (lv_at hl 1 rfl) ?_
    refine v_aload_n 141 C dX9_post_141 rfl (lv_at hl 0 rfl) ?_
    refine v_getr 142 (11) C dX9_post_142 fl_X9_44 rfl kM_0 rfl ?_
    refine v_iconst 145 C (v := (3 : Int32)) dX9_post_145 (by decide) ?_
    refine v_iload_n 146 C dX9_post_146 rfl (lv_at hl 1 rfl) ?_
    refine v_imul 147 C dX9_post_147 h (fun v2 h => ?_)
    refine v_iald 148 C dX9_post_148 kM_11 rfl h (fun v3 h => ?_)
    refine v_iast 149 C dX9_post_149 kM_2 rfl h (fun S h => ?_)
    refine v_aload_n 150 C dX9_post_150 rfl (lv_at hl 0 rfl) ?_
    refine v_getr 151 (3) C dX9_post_151 fl_X9_16 rfl kM_0 rfl ?_
    refine v_iload_n 154 C dX9_post_154 rfl (lv_at hl 1 rfl) ?_
    refine v_aload_n 155 C dX9_post_155 rfl (lv_at hl 0 rfl) ?_
    refine v_getr 156 (11) C dX9_post_156 fl_X9_44 rfl kM_0 rfl ?_
    refine v_iconst 159 C (v := (3 : Int32)) dX9_post_159 (by decide) ?_
    refine v_iload_n 160 C dX9_post_160 rfl (lv_at hl 1 rfl) ?_
    refine v_imul 161 C dX9_post_161 h (fun v4 h => ?_)
    refine v_iconst 162 C (v := (1 : Int32)) dX9_post_162 (by decide) ?_
    refine v_iadd 163 C dX9_post_163 h (fun v5 h => ?_)
    refine v_iald 164 C dX9_post_164 kM_11 rfl h (fun v6 h => ?_)
    refine v_iast 165 C dX9_post_165 kM_3 rfl h (fun S h => ?_)
    refine v_aload_n 166 C dX9_post_166 rfl (lv_at hl 0 rfl) ?_
    refine v_getr 167 (4) C dX9_post_167 fl_X9_19 rfl kM_0 rfl ?_
    refine v_iload_n 170 C dX9_post_170 rfl (lv_at hl 1 rfl) ?_
    refine v_aload_n 171 C dX9_post_171 rfl (lv_at hl 0 rfl) ?_
    refine v_getr 172 (11) C dX9_post_172 fl_X9_44 rfl kM_0 rfl ?_
    refine v_iconst 175 C (v := (3 : Int32)) dX9_post_175 (by decide) ?_
    refine v_iload_n 176 C dX9_post_176 rfl (lv_at hl 1 rfl) ?_
    refine v_imul 177 C dX9_post_177 h (fun v7 h => ?_)
    refine v_iconst 178 C (v := (2 : Int32)) dX9_post_178 (by decide) ?_
    refine v_iadd 179 C dX9_post_179 h (fun v8 h => ?_)
    refine v_iald 180 C dX9_post_180 kM_11 rfl h (fun v9 h => ?_)
    refine v_iast 181 C dX9_post_181 kM_4 rfl h (fun S h => ?_)
    refine v_iinc 182 C (nn := (1 : Int32)) (fun v => [(2, .int v), (0, .ref (w.2.2.1 0))]) dX9_post_182 hl (k := 1) rfl (by decide) (by decide) (fun _ => rfl) h (fun v10 ls hl h => ?_)
    refine v_goto 185 128 C dX9_post_185 (by decide) ?_
    exact hc128 _ _ _ (lv_sub hl [1, 0] rfl) h
theorem w_X9_post_l128 {w : zWd} {X : zX} {l0 : Launch} {r : Int32} {S1 : zMem} (C : zC LM w X l0 cX9_post RX9 3 6 (some .int)) : ∀ (n : Nat) (x2 : Int32) (S : zMem) (ls : Array Slot), lv_has ls 3 [(0, .ref (w.2.2.1 0)), (2, .int x2)] → X9_post_l128 n x2 S = some (r, S1) → zV LM w X (some (.int r)) S1 S 128 ls [] := by
  intro n
  induction n with
  | zero =>
    intro x2 S ls hl h
    cases (show (none : Option (Int32 × zMem)) = some _ from h)
  | succ n ih =>
    intro x2 S ls hl h
    exact w_X9_post_b128 C ih hl h
set_option maxRecDepth 20000 in
theorem w_X9_post_b97 {w : zWd} {X : zX} {l0 : Launch} {r : Int32} {S1 : zMem} (C : zC LM w X l0 cX9_post RX9 3 6 (some .int)) {k97 : Int32 → zMem → Option (Int32 × zMem)} (hc97 : ∀ (x2 : Int32) (S : zMem) (ls : Array Slot), lv_has ls 3 [(0, .ref (w.2.2.1 0)), (2, .int x2)] → k97 x2 S = some (r, S1) → zV LM w X (some (.int r)) S1 S 97 ls []) {x2 : Int32} {S : zMem} {ls : Array Slot} (hl : lv_has ls 3 [(0, .ref (w.2.2.1 0)), (2, .int x2)]) (h : X9_post_b97 k97 x2 S = some (r, S1)) : zV LM w X (some (.int r)) S1 S 97 ls [] := by
  unfold X9_post_b97 at h
  refine v_iload_n 97 C dX9_post_97 rfl (lv_at hl 1 rfl) ?_
  refine v_aload_n 98 C dX9_post_98 rfl (lv_at hl 0 rfl) ?_
  refine v_geti 99 C dX9_post_99 fl_X9_149 rfl kM_0 h (fun v1 h => ?_)
  refine v_icmp_ge 102 126 C dX9_post_102 (by decide) h (fun h => ?_) (fun h => ?_)
  · refine v_iconst 126 C (v := (0 : Int32)) dX9_post_126 (by decide) ?_
    refine v_istore_n 127 C [(2, .int (0 : Int32)), (0, .ref (w.2.2.1 0))] dX9_post_127 rfl hl (by decide) rfl (fun ls hl => ?_)
    exact w_X9_post_l128 C zF _ _ _ (lv_sub hl [1, 0] rfl) h
  · refine v_aload_n 105 C dX9_post_105 rfl (lv_at hl 0 rfl) ?_
    refine v_getr 106 (1) C dX9_post_106 fl_X9_7 rfl kM_0 rfl ?_
    refine v_bipush 109 C (v := (6 : Int32)) dX9_post_109 (by decide) ?_
    refine v_iload_n 111 C dX9_post_111 rfl (lv_at hl 1 rfl) ?_
    refine v_iadd 112 C dX9_post_112 h (fun v2 h => ?_)
    refine v_aload_n 113 C dX9_post_113 rfl (lv_at hl 0 rfl) ?_
    refine v_getr 114 (10) C dX9_post_114 fl_X9_41 rfl kM_0 rfl ?_
    refine v_iload_n 117 C dX9_post_117 rfl (lv_at hl 1 rfl) ?_
    refine v_iald 118 C dX9_post_118 kM_10 rfl h (fun v3 h => ?_)
    refine v_iast 119 C dX9_post_119 kM_1 rfl h (fun S h => ?_)
    refine v_iinc 120 C (nn := (1 : Int32)) (fun v => [(2, .int v), (0, .ref (w.2.2.1 0))]) dX9_post_120 hl (k := 1) rfl (by decide) (by decide) (fun _ => rfl) h (fun v4 ls hl h => ?_)
    refine v_goto 123 97 C dX9_post_123 (by decide) ?_
    exact hc97 _ _ _ (lv_sub hl [1, 0] rfl) h
theorem w_X9_post_l97 {w : zWd} {X : zX} {l0 : Launch} {r : Int32} {S1 : zMem} (C : zC LM w X l0 cX9_post RX9 3 6 (some .int)) : ∀ (n : Nat) (x2 : Int32) (S : zMem) (ls : Array Slot), lv_has ls 3 [(0, .ref (w.2.2.1 0)), (2, .int x2)] → X9_post_l97 n x2 S = some (r, S1) → zV LM w X (some (.int r)) S1 S 97 ls [] := by
  intro n
  induction n with
  | zero =>
    intro x2 S ls hl h
    cases (show (none : Option (Int32 × zMem)) = some _ from h)
  | succ n ih =>
    intro x2 S ls hl h
    exact w_X9_post_b97 C ih hl h
set_option maxRecDepth 20000 in
theorem w_X9_post_b39 {w : zWd} {X : zX} {l0 : Launch} {r : Int32} {S1 : zMem} (C : zC LM w X l0 cX9_post RX9 3 6 (some .int)) {k39 : Int32 → zMem → Option (Int32 × zMem)} (hc39 : ∀ (x2 : Int32) (S : zMem) (ls : Array Slot), lv_has ls 3 [(0, .ref (w.2.2.1 0)), (2, .int x2)] → k39 x2 S = some (r, S1) → zV LM w X (some (.int r)) S1 S 39 ls []) {x2 : Int32} {S : zMem} {ls : Array Slot} (hl : lv_has ls 3 [(0, .ref (w.2.2.1 0)), (2, .int x2)]) (h : X9_post_b39 k39 x2 S = some (r, S1)) : zV LM w X (some (.int r)) S1 S 39 ls [] := by
  unfold X9_post_b39 at h
  refine v_iload_n 39 C dX9_post_39 rfl (lv_at hl 1 rfl) ?_
  refine v_sipush 40 C (v := (698 : Int32)) dX9_post_40 (by decide) ?_
  refine v_icmp_ge 43 59 C dX9_post_43 (by decide) h (fun h => ?_) (fun h => ?_)
  · refine v_aload_n 59 C dX9_post_59 rfl (lv_at hl 0 rfl) ?_
    refine v_getr 60 (1) C dX9_post_60 fl_X9_7 rfl kM_0 rfl ?_
    refine v_iconst 63 C (v := (2 : Int32)) dX9_post_63 (by decide) ?_
    refine v_aload_n 64 C dX9_post_64 rfl (lv_at hl 0 rfl) ?_
    refine v_geti 65 C dX9_post_65 fl_X9_118 rfl kM_0 h (fun v1 h => ?_)
    refine v_iast 68 C dX9_post_68 kM_1 rfl h (fun S h => ?_)
    refine v_aload_n 69 C dX9_post_69 rfl (lv_at hl 0 rfl) ?_
    refine v_getr 70 (1) C dX9_post_70 fl_X9_7 rfl kM_0 rfl ?_
    refine v_iconst 73 C (v := (3 : Int32)) dX9_post_73 (by decide) ?_
    refine v_aload_n 74 C dX9_post_74 rfl (lv_at hl 0 rfl) ?_
    refine v_geti 75 C dX9_post_75 fl_X9_121 rfl kM_0 h (fun v2 h => ?_)
    refine v_iast 78 C dX9_post_78 kM_1 rfl h (fun S h => ?_)
    refine v_aload_n 79 C dX9_post_79 rfl (lv_at hl 0 rfl) ?_
    refine v_aload_n 80 C dX9_post_80 rfl (lv_at hl 0 rfl) ?_
    refine v_geti 81 C dX9_post_81 fl_X9_124 rfl kM_0 h (fun v3 h => ?_)
    refine v_puti 84 C dX9_post_84 fl_X9_149 fp_8_1 rfl kM_0 h (fun S h => ?_)
    refine v_aload_n 87 C dX9_post_87 rfl (lv_at hl 0 rfl) ?_
    refine v_aload_n 88 C dX9_post_88 rfl (lv_at hl 0 rfl) ?_
    refine v_geti 89 C dX9_post_89 fl_X9_127 rfl kM_0 h (fun v4 h => ?_)
    refine v_puti 92 C dX9_post_92 fl_X9_152 fp_8_2 rfl kM_0 h (fun S h => ?_)
    refine v_iconst 95 C (v := (0 : Int32)) dX9_post_95 (by decide) ?_
    refine v_istore_n 96 C [(2, .int (0 : Int32)), (0, .ref (w.2.2.1 0))] dX9_post_96 rfl hl (by decide) rfl (fun ls hl => ?_)
    exact w_X9_post_l97 C zF _ _ _ (lv_sub hl [1, 0] rfl) h
  · refine v_aload_n 46 C dX9_post_46 rfl (lv_at hl 0 rfl) ?_
    refine v_getr 47 (1) C dX9_post_47 fl_X9_7 rfl kM_0 rfl ?_
    refine v_iload_n 50 C dX9_post_50 rfl (lv_at hl 1 rfl) ?_
    refine v_iconst 51 C (v := (0 : Int32)) dX9_post_51 (by decide) ?_
    refine v_iast 52 C dX9_post_52 kM_1 rfl h (fun S h => ?_)
    refine v_iinc 53 C (nn := (1 : Int32)) (fun v => [(2, .int v), (0, .ref (w.2.2.1 0))]) dX9_post_53 hl (k := 1) rfl (by decide) (by decide) (fun _ => rfl) h (fun v5 ls hl h => ?_)
    refine v_goto 56 39 C dX9_post_56 (by decide) ?_
    exact hc39 _ _ _ (lv_sub hl [1, 0] rfl) h
theorem w_X9_post_l39 {w : zWd} {X : zX} {l0 : Launch} {r : Int32} {S1 : zMem} (C : zC LM w X l0 cX9_post RX9 3 6 (some .int)) : ∀ (n : Nat) (x2 : Int32) (S : zMem) (ls : Array Slot), lv_has ls 3 [(0, .ref (w.2.2.1 0)), (2, .int x2)] → X9_post_l39 n x2 S = some (r, S1) → zV LM w X (some (.int r)) S1 S 39 ls [] := by
  intro n
  induction n with
  | zero =>
    intro x2 S ls hl h
    cases (show (none : Option (Int32 × zMem)) = some _ from h)
  | succ n ih =>
    intro x2 S ls hl h
    exact w_X9_post_b39 C ih hl h
set_option maxRecDepth 20000 in
theorem w_X9_post_b0 {w : zWd} {X : zX} {l0 : Launch} {r : Int32} {S1 : zMem} (C : zC LM w X l0 cX9_post RX9 3 6 (some .int)) {x1 : Int32} {S : zMem} {ls : Array Slot} (hl : lv_has ls 3 [(0, .ref (w.2.2.1 0)), (1, .int x1)]) (h : X9_post_b0 x1 S = some (r, S1)) : zV LM w X (some (.int r)) S1 S 0 ls [] := by
  unfold X9_post_b0 at h
  refine v_iload_n 0 C dX9_post_0 rfl (lv_at hl 1 rfl) ?_
  obtain ⟨v1, S, hc, h⟩ := zb_e h
  refine v_callSi 1 C [] dX9_post_1 ml_X9_94 hy_X9_isText (c_X9_isText  hc) (by decide) rfl hl.1 (Nat.le_of_ble_eq_true rfl) rfl ?_
  refine v_if_ne 4 9 C dX9_post_4 (by decide) h (fun h => ?_) (fun h => ?_)
  · refine v_aload_n 9 C dX9_post_9 rfl (lv_at hl 0 rfl) ?_
    refine v_getr 10 (7) C dX9_post_10 fl_X9_28 rfl kM_0 rfl ?_
    refine v_iload_n 13 C dX9_post_13 rfl (lv_at hl 1 rfl) ?_
    refine v_iald 14 C dX9_post_14 kM_7 rfl h (fun v2 h => ?_)
    refine v_if_ge 15 24 C dX9_post_15 (by decide) h (fun h => ?_) (fun h => ?_)
    · refine v_aload_n 24 C dX9_post_24 rfl (lv_at hl 0 rfl) ?_
      refine v_iload_n 25 C dX9_post_25 rfl (lv_at hl 1 rfl) ?_
      obtain ⟨v3, S, hc, h⟩ := zb_e h
      refine v_callVi 26 C (ci := 8) [] dX9_post_26 ml_X9_146 hy_X9_faultOf (c_X9_faultOf  hc) (by decide) rfl hl.1 kM_0 rfl (Nat.le_of_ble_eq_true rfl) rfl ?_
      refine v_bipush 29 C (v := (-9 : Int32)) dX9_post_29 (by decide) ?_
      refine v_icmp_eq 31 37 C dX9_post_31 (by decide) h (fun h => ?_) (fun h => ?_)
      · refine v_iconst 37 C (v := (0 : Int32)) dX9_post_37 (by decide) ?_
        refine v_istore_n 38 C [(2, .int (0 : Int32)), (0, .ref (w.2.2.1 0)), (1, .int x1)] dX9_post_38 rfl hl (by decide) rfl (fun ls hl => ?_)
        exact w_X9_post_l39 C zF _ _ _ (lv_sub hl [1, 0] rfl) h
      · refine v_bipush 34 C (v := (-4 : Int32)) dX9_post_34 (by decide) ?_
        exact v_ireturn 36 C dX9_post_36 h
    · refine v_aload_n 18 C dX9_post_18 rfl (lv_at hl 0 rfl) ?_
      refine v_iconst 19 C (v := (1 : Int32)) dX9_post_19 (by decide) ?_
      obtain ⟨v4, S, hc, h⟩ := zb_e h
      refine v_callVi 20 C (ci := 8) [] dX9_post_20 ml_X9_75 hy_X9_find (c_X9_find  hc) (by decide) rfl hl.1 kM_0 rfl (Nat.le_of_ble_eq_true rfl) rfl ?_
      exact v_ireturn 23 C dX9_post_23 h
  · refine v_iconst 7 C (v := (-1 : Int32)) dX9_post_7 (by decide) ?_
    exact v_ireturn 8 C dX9_post_8 h
theorem c_X9_post {w : zWd} {l0 : Launch} {x1 : Int32} {S S1 : zMem} {r : Int32} (h : f_X9_post x1 S = some (r, S1)) : zMet LM w l0 yX9_post cX9_post 3 (some .int) 6 [.ref (w.2.2.1 0), .int x1] S (some (.int r)) S1 :=
  zMet_of (by decide +kernel) (Nat.le_of_ble_eq_true rfl) (fun X ls C hl => w_X9_post_b0 C hl h)
theorem dX9_isHouse_0 : decode cX9_isHouse 0 = .ok (.iload_n 1, 1) := by decide +kernel
theorem dX9_isHouse_1 : decode cX9_isHouse 1 = .ok (.i2l, 1) := by decide +kernel
theorem dX9_isHouse_2 : decode cX9_isHouse 2 = .ok (.lconst 0, 1) := by decide +kernel
theorem dX9_isHouse_3 : decode cX9_isHouse 3 = .ok (.aload_n 0, 1) := by decide +kernel
theorem dX9_isHouse_4 : decode cX9_isHouse 4 = .ok (.getfield 149, 3) := by decide +kernel
theorem dX9_isHouse_7 : decode cX9_isHouse 7 = .ok (.iconst 1, 1) := by decide +kernel
theorem dX9_isHouse_8 : decode cX9_isHouse 8 = .ok (.isub, 1) := by decide +kernel
theorem dX9_isHouse_9 : decode cX9_isHouse 9 = .ok (.i2l, 1) := by decide +kernel
theorem dX9_isHouse_10 : decode cX9_isHouse 10 = .ok (.invokestatic 65, 3) := by decide +kernel
theorem dX9_isHouse_13 : decode cX9_isHouse 13 = .ok (.ireturn, 1) := by decide +kernel
set_option maxRecDepth 20000 in
theorem w_X9_isHouse_b0 {w : zWd} {X : zX} {l0 : Launch} {r : Int32} {S1 : zMem} (C : zC LM w X l0 cX9_isHouse RX9 2 2 (some .boolean)) {x1 : Int32} {S : zMem} {ls : Array Slot} (hl : lv_has ls 2 [(0, .ref (w.2.2.1 0)), (1, .int x1)]) (h : X9_isHouse_b0 x1 S = some (r, S1)) : zV LM w X (some (.int r)) S1 S 0 ls [] := by
  unfold X9_isHouse_b0 at h
  refine v_iload_n 0 C dX9_isHouse_0 rfl (lv_at hl 1 rfl) ?_
  refine v_i2l 1 C dX9_isHouse_1 h (fun v1 h => ?_)
  refine v_lconst 2 C (v := 0) dX9_isHouse_2 (by decide) ?_
  refine v_aload_n 3 C dX9_isHouse_3 rfl (lv_at hl 0 rfl) ?_
  refine v_geti 4 C dX9_isHouse_4 fl_X9_149 rfl kM_0 h (fun v2 h => ?_)
  refine v_iconst 7 C (v := (1 : Int32)) dX9_isHouse_7 (by decide) ?_
  refine v_isub 8 C dX9_isHouse_8 h (fun v3 h => ?_)
  refine v_i2l 9 C dX9_isHouse_9 h (fun v4 h => ?_)
  obtain ⟨v5, S, hc, h⟩ := zb_e h
  refine v_callSi 10 C [] dX9_isHouse_10 ml_X9_65 hy_X9_in (c_X9_in  hc) (by decide) rfl hl.1 (Nat.le_of_ble_eq_true rfl) rfl ?_
  exact v_zreturn 13 C dX9_isHouse_13 h
theorem c_X9_isHouse {w : zWd} {l0 : Launch} {x1 : Int32} {S S1 : zMem} {r : Int32} (h : f_X9_isHouse x1 S = some (r, S1)) : zMet LM w l0 yX9_isHouse cX9_isHouse 2 (some .boolean) 2 [.ref (w.2.2.1 0), .int x1] S (some (.int r)) S1 :=
  zMet_of (by decide +kernel) (Nat.le_of_ble_eq_true rfl) (fun X ls C hl => w_X9_isHouse_b0 C hl h)
theorem dX9_toHouse_0 : decode cX9_toHouse 0 = .ok (.iconst 0, 1) := by decide +kernel
theorem dX9_toHouse_1 : decode cX9_toHouse 1 = .ok (.istore_n 2, 1) := by decide +kernel
theorem dX9_toHouse_2 : decode cX9_toHouse 2 = .ok (.iconst 0, 1) := by decide +kernel
theorem dX9_toHouse_3 : decode cX9_toHouse 3 = .ok (.istore_n 3, 1) := by decide +kernel
theorem dX9_toHouse_4 : decode cX9_toHouse 4 = .ok (.iload_n 3, 1) := by decide +kernel
theorem dX9_toHouse_5 : decode cX9_toHouse 5 = .ok (.aload_n 0, 1) := by decide +kernel
theorem dX9_toHouse_6 : decode cX9_toHouse 6 = .ok (.getfield 152, 3) := by decide +kernel
theorem dX9_toHouse_9 : decode cX9_toHouse 9 = .ok (.if_icmp .ge 29, 3) := by decide +kernel
theorem dX9_toHouse_12 : decode cX9_toHouse 12 = .ok (.iload_n 2, 1) := by decide +kernel
theorem dX9_toHouse_13 : decode cX9_toHouse 13 = .ok (.aload_n 0, 1) := by decide +kernel
theorem dX9_toHouse_14 : decode cX9_toHouse 14 = .ok (.getfield 16, 3) := by decide +kernel
theorem dX9_toHouse_17 : decode cX9_toHouse 17 = .ok (.iload_n 3, 1) := by decide +kernel
theorem dX9_toHouse_18 : decode cX9_toHouse 18 = .ok (.iaload, 1) := by decide +kernel
theorem dX9_toHouse_19 : decode cX9_toHouse 19 = .ok (.iload_n 1, 1) := by decide +kernel
theorem dX9_toHouse_20 : decode cX9_toHouse 20 = .ok (.if_icmp .ne 9, 3) := by decide +kernel
theorem dX9_toHouse_23 : decode cX9_toHouse 23 = .ok (.iconst 1, 1) := by decide +kernel
theorem dX9_toHouse_24 : decode cX9_toHouse 24 = .ok (.iload_n 3, 1) := by decide +kernel
theorem dX9_toHouse_25 : decode cX9_toHouse 25 = .ok (.ishl, 1) := by decide +kernel
theorem dX9_toHouse_26 : decode cX9_toHouse 26 = .ok (.goto 4, 3) := by decide +kernel
theorem dX9_toHouse_29 : decode cX9_toHouse 29 = .ok (.iconst 0, 1) := by decide +kernel
theorem dX9_toHouse_30 : decode cX9_toHouse 30 = .ok (.ior, 1) := by decide +kernel
theorem dX9_toHouse_31 : decode cX9_toHouse 31 = .ok (.istore_n 2, 1) := by decide +kernel
theorem dX9_toHouse_32 : decode cX9_toHouse 32 = .ok (.iinc 3 1, 3) := by decide +kernel
theorem dX9_toHouse_35 : decode cX9_toHouse 35 = .ok (.goto (-31), 3) := by decide +kernel
theorem dX9_toHouse_38 : decode cX9_toHouse 38 = .ok (.iload_n 2, 1) := by decide +kernel
theorem dX9_toHouse_39 : decode cX9_toHouse 39 = .ok (.ireturn, 1) := by decide +kernel
set_option maxRecDepth 20000 in
theorem w_X9_toHouse_b30 {w : zWd} {X : zX} {l0 : Launch} {r : Int32} {S1 : zMem} (C : zC LM w X l0 cX9_toHouse RX9 4 1 (some .int)) {k4 : Int32 → Int32 → Int32 → zMem → Option (Int32 × zMem)} (hc4 : ∀ (x1 : Int32) (x2 : Int32) (x3 : Int32) (S : zMem) (ls : Array Slot), lv_has ls 4 [(0, .ref (w.2.2.1 0)), (1, .int x1), (2, .int x2), (3, .int x3)] → k4 x1 x2 x3 S = some (r, S1) → zV LM w X (some (.int r)) S1 S 4 ls []) {x1 : Int32} {x3 : Int32} {s0 : Int32} {s1 : Int32} {S : zMem} {ls : Array Slot} (hl : lv_has ls 4 [(0, .ref (w.2.2.1 0)), (1, .int x1), (3, .int x3)]) (h : X9_toHouse_b30 k4 x1 x3 s0 s1 S = some (r, S1)) : zV LM w X (some (.int r)) S1 S 30 ls [.int s1, .int s0] := by
  unfold X9_toHouse_b30 at h
  refine v_ior 30 C dX9_toHouse_30 h (fun v1 h => ?_)
  refine v_istore_n 31 C [(2, .int v1), (0, .ref (w.2.2.1 0)), (1, .int x1), (3, .int x3)] dX9_toHouse_31 rfl hl (by decide) rfl (fun ls hl => ?_)
  refine v_iinc 32 C (nn := (1 : Int32)) (fun v => [(3, .int v), (2, .int v1), (0, .ref (w.2.2.1 0)), (1, .int x1)]) dX9_toHouse_32 hl (k := 3) rfl (by decide) (by decide) (fun _ => rfl) h (fun v2 ls hl h => ?_)
  refine v_goto 35 4 C dX9_toHouse_35 (by decide) ?_
  exact hc4 _ _ _ _ _ (lv_sub hl [2, 3, 1, 0] rfl) h
set_option maxRecDepth 20000 in
theorem w_X9_toHouse_b4 {w : zWd} {X : zX} {l0 : Launch} {r : Int32} {S1 : zMem} (C : zC LM w X l0 cX9_toHouse RX9 4 1 (some .int)) {k4 : Int32 → Int32 → Int32 → zMem → Option (Int32 × zMem)} (hc4 : ∀ (x1 : Int32) (x2 : Int32) (x3 : Int32) (S : zMem) (ls : Array Slot), lv_has ls 4 [(0, .ref (w.2.2.1 0)), (1, .int x1), (2, .int x2), (3, .int x3)] → k4 x1 x2 x3 S = some (r, S1) → zV LM w X (some (.int r)) S1 S 4 ls []) {x1 : Int32} {x2 : Int32} {x3 : Int32} {S : zMem} {ls : Array Slot} (hl : lv_has ls 4 [(0, .ref (w.2.2.1 0)), (1, .int x1), (2, .int x2), (3, .int x3)]) (h : X9_toHouse_b4 k4 x1 x2 x3 S = some (r, S1)) : zV LM w X (some (.int r)) S1 S 4 ls [] := by
  unfold X9_toHouse_b4 at h
  refine v_iload_n 4 C dX9_toHouse_4 rfl (lv_at hl 3 rfl) ?_
  refine v_aload_n 5 C dX9_toHouse_5 rfl (lv_at hl 0 rfl) ?_
  refine v_geti 6 C dX9_toHouse_6 fl_X9_152 rfl kM_0 h (fun v1 h => ?_)
  refine v_icmp_ge 9 38 C dX9_toHouse_9 (by decide) h (fun h => ?_) (fun h => ?_)
  · refine v_iload_n 38 C dX9_toHouse_38 rfl (lv_at hl 2 rfl) ?_
    exact v_ireturn 39 C dX9_toHouse_39 h
  · refine v_iload_n 12 C dX9_toHouse_12 rfl (lv_at hl 2 rfl) ?_
    refine v_aload_n 13 C dX9_toHouse_13 rfl (lv_at hl 0 rfl) ?_
    refine v_getr 14 (3) C dX9_toHouse_14 fl_X9_16 rfl kM_0 rfl ?_
    refine v_iload_n 17 C dX9_toHouse_17 rfl (lv_at hl 3 rfl) ?_
    refine v_iald 18 C dX9_toHouse_18 kM_3 rfl h (fun v2 h => ?_)
    refine v_iload_n 19 C dX9_toHouse_19 rfl (lv_at hl 1 rfl) ?_
    refine v_icmp_ne 20 29 C dX9_toHouse_20 (by decide) h (fun h => ?_) (fun h => ?_)
    · refine v_iconst 29 C (v := (0 : Int32)) dX9_toHouse_29 (by decide) ?_
      exact w_X9_toHouse_b30 C hc4 (lv_sub hl [0, 1, 3] rfl) h
    · refine v_iconst 23 C (v := (1 : Int32)) dX9_toHouse_23 (by decide) ?_
      refine v_iload_n 24 C dX9_toHouse_24 rfl (lv_at hl 3 rfl) ?_
      refine v_ishl 25 C dX9_toHouse_25 h (fun v3 h => ?_)
      refine v_goto 26 30 C dX9_toHouse_26 (by decide) ?_
      exact w_X9_toHouse_b30 C hc4 (lv_sub hl [0, 1, 3] rfl) h
theorem w_X9_toHouse_l4 {w : zWd} {X : zX} {l0 : Launch} {r : Int32} {S1 : zMem} (C : zC LM w X l0 cX9_toHouse RX9 4 1 (some .int)) : ∀ (n : Nat) (x1 : Int32) (x2 : Int32) (x3 : Int32) (S : zMem) (ls : Array Slot), lv_has ls 4 [(0, .ref (w.2.2.1 0)), (1, .int x1), (2, .int x2), (3, .int x3)] → X9_toHouse_l4 n x1 x2 x3 S = some (r, S1) → zV LM w X (some (.int r)) S1 S 4 ls [] := by
  intro n
  induction n with
  | zero =>
    intro x1 x2 x3 S ls hl h
    cases (show (none : Option (Int32 × zMem)) = some _ from h)
  | succ n ih =>
    intro x1 x2 x3 S ls hl h
    exact w_X9_toHouse_b4 C ih hl h
set_option maxRecDepth 20000 in
theorem w_X9_toHouse_b0 {w : zWd} {X : zX} {l0 : Launch} {r : Int32} {S1 : zMem} (C : zC LM w X l0 cX9_toHouse RX9 4 1 (some .int)) {x1 : Int32} {S : zMem} {ls : Array Slot} (hl : lv_has ls 4 [(0, .ref (w.2.2.1 0)), (1, .int x1)]) (h : X9_toHouse_b0 x1 S = some (r, S1)) : zV LM w X (some (.int r)) S1 S 0 ls [] := by
  unfold X9_toHouse_b0 at h
  refine v_iconst 0 C (v := (0 : Int32)) dX9_toHouse_0 (by decide) ?_
  refine v_istore_n 1 C [(2, .int (0 : Int32)), (0, .ref (w.2.2.1 0)), (1, .int x1)] dX9_toHouse_1 rfl hl (by decide) rfl (fun ls hl => ?_)
  refine v_iconst 2 C (v := (0 : Int32)) dX9_toHouse_2 (by decide) ?_
  refine v_istore_n 3 C [(3, .int (0 : Int32)), (2, .int (0 : Int32)), (0, .ref (w.2.2.1 0)), (1, .int x1)] dX9_toHouse_3 rfl hl (by decide) rfl (fun ls hl => ?_)
  exact w_X9_toHouse_l4 C zF _ _ _ _ _ (lv_sub hl [2, 3, 1, 0] rfl) h
theorem c_X9_toHouse {w : zWd} {l0 : Launch} {x1 : Int32} {S S1 : zMem} {r : Int32} (h : f_X9_toHouse x1 S = some (r, S1)) : zMet LM w l0 yX9_toHouse cX9_toHouse 4 (some .int) 1 [.ref (w.2.2.1 0), .int x1] S (some (.int r)) S1 :=
  zMet_of (by decide +kernel) (Nat.le_of_ble_eq_true rfl) (fun X ls C hl => w_X9_toHouse_b0 C hl h)
theorem dX9_farFrom_0 : decode cX9_farFrom 0 = .ok (.aload_n 0, 1) := by decide +kernel
theorem dX9_farFrom_1 : decode cX9_farFrom 1 = .ok (.getfield 7, 3) := by decide +kernel
theorem dX9_farFrom_4 : decode cX9_farFrom 4 = .ok (.iload_n 1, 1) := by decide +kernel
theorem dX9_farFrom_5 : decode cX9_farFrom 5 = .ok (.iconst 4, 1) := by decide +kernel
theorem dX9_farFrom_6 : decode cX9_farFrom 6 = .ok (.iadd, 1) := by decide +kernel
theorem dX9_farFrom_7 : decode cX9_farFrom 7 = .ok (.iaload, 1) := by decide +kernel
theorem dX9_farFrom_8 : decode cX9_farFrom 8 = .ok (.iload_n 2, 1) := by decide +kernel
theorem dX9_farFrom_9 : decode cX9_farFrom 9 = .ok (.isub, 1) := by decide +kernel
theorem dX9_farFrom_10 : decode cX9_farFrom 10 = .ok (.istore_n 3, 1) := by decide +kernel
theorem dX9_farFrom_11 : decode cX9_farFrom 11 = .ok (.iload_n 3, 1) := by decide +kernel
theorem dX9_farFrom_12 : decode cX9_farFrom 12 = .ok (.ifCond .ge 8, 3) := by decide +kernel
theorem dX9_farFrom_15 : decode cX9_farFrom 15 = .ok (.iload_n 3, 1) := by decide +kernel
theorem dX9_farFrom_16 : decode cX9_farFrom 16 = .ok (.ineg, 1) := by decide +kernel
theorem dX9_farFrom_17 : decode cX9_farFrom 17 = .ok (.goto 4, 3) := by decide +kernel
theorem dX9_farFrom_20 : decode cX9_farFrom 20 = .ok (.iload_n 3, 1) := by decide +kernel
theorem dX9_farFrom_21 : decode cX9_farFrom 21 = .ok (.ireturn, 1) := by decide +kernel
set_option maxRecDepth 20000 in
theorem w_X9_farFrom_b21 {w : zWd} {X : zX} {l0 : Launch} {r : Int32} {S1 : zMem} (C : zC LM w X l0 cX9_farFrom RX9 4 1 (some .int)) {s0 : Int32} {S : zMem} {ls : Array Slot} (hl : lv_has ls 4 []) (h : X9_farFrom_b21 s0 S = some (r, S1)) : zV LM w X (some (.int r)) S1 S 21 ls [.int s0] := by
  unfold X9_farFrom_b21 at h
  exact v_ireturn 21 C dX9_farFrom_21 h
set_option maxRecDepth 20000 in
theorem w_X9_farFrom_b0 {w : zWd} {X : zX} {l0 : Launch} {r : Int32} {S1 : zMem} (C : zC LM w X l0 cX9_farFrom RX9 4 1 (some .int)) {x1 : Int32} {x2 : Int32} {S : zMem} {ls : Array Slot} (hl : lv_has ls 4 [(0, .ref (w.2.2.1 0)), (1, .int x1), (2, .int x2)]) (h : X9_farFrom_b0 x1 x2 S = some (r, S1)) : zV LM w X (some (.int r)) S1 S 0 ls [] := by
  unfold X9_farFrom_b0 at h
  refine v_aload_n 0 C dX9_farFrom_0 rfl (lv_at hl 0 rfl) ?_
  refine v_getr 1 (1) C dX9_farFrom_1 fl_X9_7 rfl kM_0 rfl ?_
  refine v_iload_n 4 C dX9_farFrom_4 rfl (lv_at hl 1 rfl) ?_
  refine v_iconst 5 C (v := (4 : Int32)) dX9_farFrom_5 (by decide) ?_
  refine v_iadd 6 C dX9_farFrom_6 h (fun v1 h => ?_)
  refine v_iald 7 C dX9_farFrom_7 kM_1 rfl h (fun v2 h => ?_)
  refine v_iload_n 8 C dX9_farFrom_8 rfl (lv_at hl 2 rfl) ?_
  refine v_isub 9 C dX9_farFrom_9 h (fun v3 h => ?_)
  refine v_istore_n 10 C [(3, .int v3), (0, .ref (w.2.2.1 0)), (1, .int x1), (2, .int x2)] dX9_farFrom_10 rfl hl (by decide) rfl (fun ls hl => ?_)
  refine v_iload_n 11 C dX9_farFrom_11 rfl (lv_at hl 0 rfl) ?_
  refine v_if_ge 12 20 C dX9_farFrom_12 (by decide) h (fun h => ?_) (fun h => ?_)
  · refine v_iload_n 20 C dX9_farFrom_20 rfl (lv_at hl 0 rfl) ?_
    exact w_X9_farFrom_b21 C (lv_sub hl [] rfl) h
  · refine v_iload_n 15 C dX9_farFrom_15 rfl (lv_at hl 0 rfl) ?_
    refine v_ineg 16 C dX9_farFrom_16 h (fun v4 h => ?_)
    refine v_goto 17 21 C dX9_farFrom_17 (by decide) ?_
    exact w_X9_farFrom_b21 C (lv_sub hl [] rfl) h
theorem c_X9_farFrom {w : zWd} {l0 : Launch} {x1 : Int32} {x2 : Int32} {S S1 : zMem} {r : Int32} (h : f_X9_farFrom x1 x2 S = some (r, S1)) : zMet LM w l0 yX9_farFrom cX9_farFrom 4 (some .int) 1 [.ref (w.2.2.1 0), .int x1, .int x2] S (some (.int r)) S1 :=
  zMet_of (by decide +kernel) (Nat.le_of_ble_eq_true rfl) (fun X ls C hl => w_X9_farFrom_b0 C hl h)
theorem ml_X9_155 : Cond.methodLink RX9 155 yX9_farFrom ∈ zT := zT_of (List.mem_of_getElem? (i := 1076) (by decide +kernel)) rfl
theorem hy_X9_farFrom : zYv yX9_farFrom cX9_farFrom 4 (some .int) 2 := ⟨⟨zT_of (List.mem_of_getElem? (i := 1079) (by decide +kernel)) rfl, zT_of (List.mem_of_getElem? (i := 78) (by decide +kernel)) rfl, by decide, by decide +kernel, by decide +kernel, by decide +kernel⟩, zT_of (List.mem_of_getElem? (i := 1078) (by decide +kernel)) rfl, zT_of (List.mem_of_getElem? (i := 37) (by decide +kernel)) rfl⟩
theorem ml_X9_165 : Cond.methodLink RX9 165 yX9_toHouse ∈ zT := zT_of (List.mem_of_getElem? (i := 1072) (by decide +kernel)) rfl
theorem hy_X9_toHouse : zYv yX9_toHouse cX9_toHouse 4 (some .int) 1 := ⟨⟨zT_of (List.mem_of_getElem? (i := 1075) (by decide +kernel)) rfl, zT_of (List.mem_of_getElem? (i := 78) (by decide +kernel)) rfl, by decide, by decide +kernel, by decide +kernel, by decide +kernel⟩, zT_of (List.mem_of_getElem? (i := 1074) (by decide +kernel)) rfl, zT_of (List.mem_of_getElem? (i := 36) (by decide +kernel)) rfl⟩
theorem dX9_houseTold_0 : decode cX9_houseTold 0 = .ok (.iload_n 2, 1) := by decide +kernel
theorem dX9_houseTold_1 : decode cX9_houseTold 1 = .ok (.ifCond .ne 15, 3) := by decide +kernel
theorem dX9_houseTold_4 : decode cX9_houseTold 4 = .ok (.aload_n 0, 1) := by decide +kernel
theorem dX9_houseTold_5 : decode cX9_houseTold 5 = .ok (.getfield 7, 3) := by decide +kernel
theorem dX9_houseTold_8 : decode cX9_houseTold 8 = .ok (.bipush 6, 2) := by decide +kernel
theorem dX9_houseTold_10 : decode cX9_houseTold 10 = .ok (.iload_n 1, 1) := by decide +kernel
theorem dX9_houseTold_11 : decode cX9_houseTold 11 = .ok (.iadd, 1) := by decide +kernel
theorem dX9_houseTold_12 : decode cX9_houseTold 12 = .ok (.iaload, 1) := by decide +kernel
theorem dX9_houseTold_13 : decode cX9_houseTold 13 = .ok (.goto 22, 3) := by decide +kernel
theorem dX9_houseTold_16 : decode cX9_houseTold 16 = .ok (.iload_n 2, 1) := by decide +kernel
theorem dX9_houseTold_17 : decode cX9_houseTold 17 = .ok (.iconst 1, 1) := by decide +kernel
theorem dX9_houseTold_18 : decode cX9_houseTold 18 = .ok (.if_icmp .ne 11, 3) := by decide +kernel
theorem dX9_houseTold_21 : decode cX9_houseTold 21 = .ok (.aload_n 0, 1) := by decide +kernel
theorem dX9_houseTold_22 : decode cX9_houseTold 22 = .ok (.iload_n 1, 1) := by decide +kernel
theorem dX9_houseTold_23 : decode cX9_houseTold 23 = .ok (.invokevirtual 165, 3) := by decide +kernel
theorem dX9_houseTold_26 : decode cX9_houseTold 26 = .ok (.goto 9, 3) := by decide +kernel
theorem dX9_houseTold_29 : decode cX9_houseTold 29 = .ok (.aload_n 0, 1) := by decide +kernel
theorem dX9_houseTold_30 : decode cX9_houseTold 30 = .ok (.iconst 0, 1) := by decide +kernel
theorem dX9_houseTold_31 : decode cX9_houseTold 31 = .ok (.iload_n 1, 1) := by decide +kernel
theorem dX9_houseTold_32 : decode cX9_houseTold 32 = .ok (.invokevirtual 155, 3) := by decide +kernel
theorem dX9_houseTold_35 : decode cX9_houseTold 35 = .ok (.ireturn, 1) := by decide +kernel
set_option maxRecDepth 20000 in
theorem w_X9_houseTold_b35 {w : zWd} {X : zX} {l0 : Launch} {r : Int32} {S1 : zMem} (C : zC LM w X l0 cX9_houseTold RX9 3 2 (some .int)) {s0 : Int32} {S : zMem} {ls : Array Slot} (hl : lv_has ls 3 []) (h : X9_houseTold_b35 s0 S = some (r, S1)) : zV LM w X (some (.int r)) S1 S 35 ls [.int s0] := by
  unfold X9_houseTold_b35 at h
  exact v_ireturn 35 C dX9_houseTold_35 h
set_option maxRecDepth 20000 in
theorem w_X9_houseTold_b0 {w : zWd} {X : zX} {l0 : Launch} {r : Int32} {S1 : zMem} (C : zC LM w X l0 cX9_houseTold RX9 3 2 (some .int)) {x1 : Int32} {x2 : Int32} {S : zMem} {ls : Array Slot} (hl : lv_has ls 3 [(0, .ref (w.2.2.1 0)), (1, .int x1), (2, .int x2)]) (h : X9_houseTold_b0 x1 x2 S = some (r, S1)) : zV LM w X (some (.int r)) S1 S 0 ls [] := by
  unfold X9_houseTold_b0 at h
  refine v_iload_n 0 C dX9_houseTold_0 rfl (lv_at hl 2 rfl) ?_
  refine v_if_ne 1 16 C dX9_houseTold_1 (by decide) h (fun h => ?_) (fun h => ?_)
  · refine v_iload_n 16 C dX9_houseTold_16 rfl (lv_at hl 2 rfl) ?_
    refine v_iconst 17 C (v := (1 : Int32)) dX9_houseTold_17 (by decide) ?_
    refine v_icmp_ne 18 29 C dX9_houseTold_18 (by decide) h (fun h => ?_) (fun h => ?_)
    · refine v_aload_n 29 C dX9_houseTold_29 rfl (lv_at hl 0 rfl) ?_
      refine v_iconst 30 C (v := (0 : Int32)) dX9_houseTold_30 (by decide) ?_
      refine v_iload_n 31 C dX9_houseTold_31 rfl (lv_at hl 1 rfl) ?_
      obtain ⟨v1, S, hc, h⟩ := zb_e h
      refine v_callVi 32 C (ci := 8) [] dX9_houseTold_32 ml_X9_155 hy_X9_farFrom (c_X9_farFrom  hc) (by decide) rfl hl.1 kM_0 rfl (Nat.le_of_ble_eq_true rfl) rfl ?_
      exact w_X9_houseTold_b35 C (lv_sub hl [] rfl) h
    · refine v_aload_n 21 C dX9_houseTold_21 rfl (lv_at hl 0 rfl) ?_
      refine v_iload_n 22 C dX9_houseTold_22 rfl (lv_at hl 1 rfl) ?_
      obtain ⟨v2, S, hc, h⟩ := zb_e h
      refine v_callVi 23 C (ci := 8) [] dX9_houseTold_23 ml_X9_165 hy_X9_toHouse (c_X9_toHouse  hc) (by decide) rfl hl.1 kM_0 rfl (Nat.le_of_ble_eq_true rfl) rfl ?_
      refine v_goto 26 35 C dX9_houseTold_26 (by decide) ?_
      exact w_X9_houseTold_b35 C (lv_sub hl [] rfl) h
  · refine v_aload_n 4 C dX9_houseTold_4 rfl (lv_at hl 0 rfl) ?_
    refine v_getr 5 (1) C dX9_houseTold_5 fl_X9_7 rfl kM_0 rfl ?_
    refine v_bipush 8 C (v := (6 : Int32)) dX9_houseTold_8 (by decide) ?_
    refine v_iload_n 10 C dX9_houseTold_10 rfl (lv_at hl 1 rfl) ?_
    refine v_iadd 11 C dX9_houseTold_11 h (fun v3 h => ?_)
    refine v_iald 12 C dX9_houseTold_12 kM_1 rfl h (fun v4 h => ?_)
    refine v_goto 13 35 C dX9_houseTold_13 (by decide) ?_
    exact w_X9_houseTold_b35 C (lv_sub hl [] rfl) h
theorem c_X9_houseTold {w : zWd} {l0 : Launch} {x1 : Int32} {x2 : Int32} {S S1 : zMem} {r : Int32} (h : f_X9_houseTold x1 x2 S = some (r, S1)) : zMet LM w l0 yX9_houseTold cX9_houseTold 3 (some .int) 2 [.ref (w.2.2.1 0), .int x1, .int x2] S (some (.int r)) S1 :=
  zMet_of (by decide +kernel) (Nat.le_of_ble_eq_true rfl) (fun X ls C hl => w_X9_houseTold_b0 C hl h)
theorem ml_X9_168 : Cond.methodLink RX9 168 yX9_isHouse ∈ zT := zT_of (List.mem_of_getElem? (i := 1063) (by decide +kernel)) rfl
theorem hy_X9_isHouse : zYv yX9_isHouse cX9_isHouse 2 (some .boolean) 1 := ⟨⟨zT_of (List.mem_of_getElem? (i := 1066) (by decide +kernel)) rfl, zT_of (List.mem_of_getElem? (i := 78) (by decide +kernel)) rfl, by decide, by decide +kernel, by decide +kernel, by decide +kernel⟩, zT_of (List.mem_of_getElem? (i := 1065) (by decide +kernel)) rfl, zT_of (List.mem_of_getElem? (i := 34) (by decide +kernel)) rfl⟩
theorem co_X9_171 : Cond.constantLong RX9 171 2 ∈ zT := zT_of (List.mem_of_getElem? (i := 1067) (by decide +kernel)) rfl
theorem ml_X9_173 : Cond.methodLink RX9 173 yX9_houseTold ∈ zT := zT_of (List.mem_of_getElem? (i := 1068) (by decide +kernel)) rfl
theorem hy_X9_houseTold : zYv yX9_houseTold cX9_houseTold 3 (some .int) 2 := ⟨⟨zT_of (List.mem_of_getElem? (i := 1071) (by decide +kernel)) rfl, zT_of (List.mem_of_getElem? (i := 78) (by decide +kernel)) rfl, by decide, by decide +kernel, by decide +kernel, by decide +kernel⟩, zT_of (List.mem_of_getElem? (i := 1070) (by decide +kernel)) rfl, zT_of (List.mem_of_getElem? (i := 35) (by decide +kernel)) rfl⟩
theorem dX9_house_0 : decode cX9_house 0 = .ok (.aload_n 0, 1) := by decide +kernel
theorem dX9_house_1 : decode cX9_house 1 = .ok (.iload_n 1, 1) := by decide +kernel
theorem dX9_house_2 : decode cX9_house 2 = .ok (.invokevirtual 168, 3) := by decide +kernel
theorem dX9_house_5 : decode cX9_house 5 = .ok (.ifCond .eq 28, 3) := by decide +kernel
theorem dX9_house_8 : decode cX9_house 8 = .ok (.iload_n 2, 1) := by decide +kernel
theorem dX9_house_9 : decode cX9_house 9 = .ok (.i2l, 1) := by decide +kernel
theorem dX9_house_10 : decode cX9_house 10 = .ok (.lconst 0, 1) := by decide +kernel
theorem dX9_house_11 : decode cX9_house 11 = .ok (.ldc2_w 171, 3) := by decide +kernel
theorem dX9_house_14 : decode cX9_house 14 = .ok (.invokestatic 65, 3) := by decide +kernel
theorem dX9_house_17 : decode cX9_house 17 = .ok (.ifCond .eq 16, 3) := by decide +kernel
theorem dX9_house_20 : decode cX9_house 20 = .ok (.aload_n 0, 1) := by decide +kernel
theorem dX9_house_21 : decode cX9_house 21 = .ok (.aload_n 0, 1) := by decide +kernel
theorem dX9_house_22 : decode cX9_house 22 = .ok (.iload_n 1, 1) := by decide +kernel
theorem dX9_house_23 : decode cX9_house 23 = .ok (.iload_n 2, 1) := by decide +kernel
theorem dX9_house_24 : decode cX9_house 24 = .ok (.invokevirtual 173, 3) := by decide +kernel
theorem dX9_house_27 : decode cX9_house 27 = .ok (.invokevirtual 87, 3) := by decide +kernel
theorem dX9_house_30 : decode cX9_house 30 = .ok (.goto 4, 3) := by decide +kernel
theorem dX9_house_33 : decode cX9_house 33 = .ok (.iconst (-1), 1) := by decide +kernel
theorem dX9_house_34 : decode cX9_house 34 = .ok (.ireturn, 1) := by decide +kernel
set_option maxRecDepth 20000 in
theorem w_X9_house_b34 {w : zWd} {X : zX} {l0 : Launch} {r : Int32} {S1 : zMem} (C : zC LM w X l0 cX9_house RX9 3 3 (some .int)) {s0 : Int32} {S : zMem} {ls : Array Slot} (hl : lv_has ls 3 []) (h : X9_house_b34 s0 S = some (r, S1)) : zV LM w X (some (.int r)) S1 S 34 ls [.int s0] := by
  unfold X9_house_b34 at h
  exact v_ireturn 34 C dX9_house_34 h
set_option maxRecDepth 20000 in
theorem w_X9_house_b33 {w : zWd} {X : zX} {l0 : Launch} {r : Int32} {S1 : zMem} (C : zC LM w X l0 cX9_house RX9 3 3 (some .int)) {S : zMem} {ls : Array Slot} (hl : lv_has ls 3 []) (h : X9_house_b33  S = some (r, S1)) : zV LM w X (some (.int r)) S1 S 33 ls [] := by
  unfold X9_house_b33 at h
  refine v_iconst 33 C (v := (-1 : Int32)) dX9_house_33 (by decide) ?_
  exact w_X9_house_b34 C (lv_sub hl [] rfl) h
set_option maxRecDepth 20000 in
theorem w_X9_house_b0 {w : zWd} {X : zX} {l0 : Launch} {r : Int32} {S1 : zMem} (C : zC LM w X l0 cX9_house RX9 3 3 (some .int)) {x1 : Int32} {x2 : Int32} {S : zMem} {ls : Array Slot} (hl : lv_has ls 3 [(0, .ref (w.2.2.1 0)), (1, .int x1), (2, .int x2)]) (h : X9_house_b0 x1 x2 S = some (r, S1)) : zV LM w X (some (.int r)) S1 S 0 ls [] := by
  unfold X9_house_b0 at h
  refine v_aload_n 0 C dX9_house_0 rfl (lv_at hl 0 rfl) ?_
  refine v_iload_n 1 C dX9_house_1 rfl (lv_at hl 1 rfl) ?_
  obtain ⟨v1, S, hc, h⟩ := zb_e h
  refine v_callVi 2 C (ci := 8) [] dX9_house_2 ml_X9_168 hy_X9_isHouse (c_X9_isHouse  hc) (by decide) rfl hl.1 kM_0 rfl (Nat.le_of_ble_eq_true rfl) rfl ?_
  refine v_if_eq 5 33 C dX9_house_5 (by decide) h (fun h => ?_) (fun h => ?_)
  · exact w_X9_house_b33 C (lv_sub hl [] rfl) h
  · refine v_iload_n 8 C dX9_house_8 rfl (lv_at hl 2 rfl) ?_
    refine v_i2l 9 C dX9_house_9 h (fun v2 h => ?_)
    refine v_lconst 10 C (v := 0) dX9_house_10 (by decide) ?_
    refine v_ldc2 11 C (v := 2) dX9_house_11 co_X9_171 ?_
    obtain ⟨v3, S, hc, h⟩ := zb_e h
    refine v_callSi 14 C [] dX9_house_14 ml_X9_65 hy_X9_in (c_X9_in  hc) (by decide) rfl hl.1 (Nat.le_of_ble_eq_true rfl) rfl ?_
    refine v_if_eq 17 33 C dX9_house_17 (by decide) h (fun h => ?_) (fun h => ?_)
    · exact w_X9_house_b33 C (lv_sub hl [] rfl) h
    · refine v_aload_n 20 C dX9_house_20 rfl (lv_at hl 0 rfl) ?_
      refine v_aload_n 21 C dX9_house_21 rfl (lv_at hl 0 rfl) ?_
      refine v_iload_n 22 C dX9_house_22 rfl (lv_at hl 1 rfl) ?_
      refine v_iload_n 23 C dX9_house_23 rfl (lv_at hl 2 rfl) ?_
      obtain ⟨v4, S, hc, h⟩ := zb_e h
      refine v_callVi 24 C (ci := 8) [.ref (w.2.2.1 0)] dX9_house_24 ml_X9_173 hy_X9_houseTold (c_X9_houseTold  hc) (by decide) rfl hl.1 kM_0 rfl (Nat.le_of_ble_eq_true rfl) rfl ?_
      obtain ⟨v5, S, hc, h⟩ := zb_e h
      refine v_callVi 27 C (ci := 8) [] dX9_house_27 ml_X9_87 hy_X9_tell (c_X9_tell  hc) (by decide) rfl hl.1 kM_0 rfl (Nat.le_of_ble_eq_true rfl) rfl ?_
      refine v_goto 30 34 C dX9_house_30 (by decide) ?_
      exact w_X9_house_b34 C (lv_sub hl [] rfl) h
theorem c_X9_house {w : zWd} {l0 : Launch} {x1 : Int32} {x2 : Int32} {S S1 : zMem} {r : Int32} (h : f_X9_house x1 x2 S = some (r, S1)) : zMet LM w l0 yX9_house cX9_house 3 (some .int) 3 [.ref (w.2.2.1 0), .int x1, .int x2] S (some (.int r)) S1 :=
  zMet_of (by decide +kernel) (Nat.le_of_ble_eq_true rfl) (fun X ls C hl => w_X9_house_b0 C hl h)
theorem dX9_isLetter_0 : decode cX9_isLetter 0 = .ok (.iload_n 1, 1) := by decide +kernel
theorem dX9_isLetter_1 : decode cX9_isLetter 1 = .ok (.i2l, 1) := by decide +kernel
theorem dX9_isLetter_2 : decode cX9_isLetter 2 = .ok (.lconst 0, 1) := by decide +kernel
theorem dX9_isLetter_3 : decode cX9_isLetter 3 = .ok (.aload_n 0, 1) := by decide +kernel
theorem dX9_isLetter_4 : decode cX9_isLetter 4 = .ok (.getfield 152, 3) := by decide +kernel
theorem dX9_isLetter_7 : decode cX9_isLetter 7 = .ok (.iconst 1, 1) := by decide +kernel
theorem dX9_isLetter_8 : decode cX9_isLetter 8 = .ok (.isub, 1) := by decide +kernel
theorem dX9_isLetter_9 : decode cX9_isLetter 9 = .ok (.i2l, 1) := by decide +kernel
theorem dX9_isLetter_10 : decode cX9_isLetter 10 = .ok (.invokestatic 65, 3) := by decide +kernel
theorem dX9_isLetter_13 : decode cX9_isLetter 13 = .ok (.ireturn, 1) := by decide +kernel
set_option maxRecDepth 20000 in
theorem w_X9_isLetter_b0 {w : zWd} {X : zX} {l0 : Launch} {r : Int32} {S1 : zMem} (C : zC LM w X l0 cX9_isLetter RX9 2 2 (some .boolean)) {x1 : Int32} {S : zMem} {ls : Array Slot} (hl : lv_has ls 2 [(0, .ref (w.2.2.1 0)), (1, .int x1)]) (h : X9_isLetter_b0 x1 S = some (r, S1)) : zV LM w X (some (.int r)) S1 S 0 ls [] := by
  unfold X9_isLetter_b0 at h
  refine v_iload_n 0 C dX9_isLetter_0 rfl (lv_at hl 1 rfl) ?_
  refine v_i2l 1 C dX9_isLetter_1 h (fun v1 h => ?_)
  refine v_lconst 2 C (v := 0) dX9_isLetter_2 (by decide) ?_
  refine v_aload_n 3 C dX9_isLetter_3 rfl (lv_at hl 0 rfl) ?_
  refine v_geti 4 C dX9_isLetter_4 fl_X9_152 rfl kM_0 h (fun v2 h => ?_)
  refine v_iconst 7 C (v := (1 : Int32)) dX9_isLetter_7 (by decide) ?_
  refine v_isub 8 C dX9_isLetter_8 h (fun v3 h => ?_)
  refine v_i2l 9 C dX9_isLetter_9 h (fun v4 h => ?_)
  obtain ⟨v5, S, hc, h⟩ := zb_e h
  refine v_callSi 10 C [] dX9_isLetter_10 ml_X9_65 hy_X9_in (c_X9_in  hc) (by decide) rfl hl.1 (Nat.le_of_ble_eq_true rfl) rfl ?_
  exact v_zreturn 13 C dX9_isLetter_13 h
theorem c_X9_isLetter {w : zWd} {l0 : Launch} {x1 : Int32} {S S1 : zMem} {r : Int32} (h : f_X9_isLetter x1 S = some (r, S1)) : zMet LM w l0 yX9_isLetter cX9_isLetter 2 (some .boolean) 2 [.ref (w.2.2.1 0), .int x1] S (some (.int r)) S1 :=
  zMet_of (by decide +kernel) (Nat.le_of_ble_eq_true rfl) (fun X ls C hl => w_X9_isLetter_b0 C hl h)
