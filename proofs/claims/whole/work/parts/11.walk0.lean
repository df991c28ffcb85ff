-- X8_within X8_isRow X8_refuse X7_lieAnew X8_row X7_isThere X7_has X8_tell X8_lay X8_at X7_goMissing X8_tear X7_hasSpan X8_copy X7_sum X8_mean X8_isText X8_text X8_put X5_figureAt X5_houseFault X1_bySign X5_letterFault X5_itemFault X5_postmanFault X5_faultOf X8_fault X6_become X4_begin X8_post X8_isHouse X6_lettersTo X8_ofHouse
theorem dX8_within_0 : decode cX8_within 0 = .ok (.iload_n 0, 1) := by decide +kernel
theorem dX8_within_1 : decode cX8_within 1 = .ok (.ifCond .lt 12, 3) := by decide +kernel
theorem dX8_within_4 : decode cX8_within 4 = .ok (.iload_n 0, 1) := by decide +kernel
theorem dX8_within_5 : decode cX8_within 5 = .ok (.iload_n 1, 1) := by decide +kernel
theorem dX8_within_6 : decode cX8_within 6 = .ok (.if_icmp .gt 7, 3) := by decide +kernel
theorem dX8_within_9 : decode cX8_within 9 = .ok (.iconst 1, 1) := by decide +kernel
theorem dX8_within_10 : decode cX8_within 10 = .ok (.goto 4, 3) := by decide +kernel
theorem dX8_within_13 : decode cX8_within 13 = .ok (.iconst 0, 1) := by decide +kernel
theorem dX8_within_14 : decode cX8_within 14 = .ok (.ireturn, 1) := by decide +kernel
set_option maxRecDepth 20000 in
theorem w_X8_within_b14 {w : zWd} {X : zX} {l0 : Launch} {r : Int32} {S1 : zMem} (C : zC LC w X l0 cX8_within RX8 2 1 (some .boolean)) {s0 : Int32} {S : zMem} {ls : Array Slot} (hl : lv_has ls 2 []) (h : X8_within_b14 s0 S = some (r, S1)) : zV LC w X (some (.int r)) S1 S 14 ls [.int s0] := by
  unfold X8_within_b14 at h
  exact v_zreturn 14 C dX8_within_14 h
set_option maxRecDepth 20000 in
theorem w_X8_within_b13 {w : zWd} {X : zX} {l0 : Launch} {r : Int32} {S1 : zMem} (C : zC LC w X l0 cX8_within RX8 2 1 (some .boolean)) {S : zMem} {ls : Array Slot} (hl : lv_has ls 2 []) (h : X8_within_b13  S = some (r, S1)) : zV LC w X (some (.int r)) S1 S 13 ls [] := by
  unfold X8_within_b13 at h
  refine v_iconst 13 C (v := (0 : Int32)) dX8_within_13 (by decide) ?_
  exact w_X8_within_b14 C (lv_sub hl [] rfl) h
set_option maxRecDepth 20000 in
theorem w_X8_within_b0 {w : zWd} {X : zX} {l0 : Launch} {r : Int32} {S1 : zMem} (C : zC LC w X l0 cX8_within RX8 2 1 (some .boolean)) {x0 : Int32} {x1 : Int32} {S : zMem} {ls : Array Slot} (hl : lv_has ls 2 [(0, .int x0), (1, .int x1)]) (h : X8_within_b0 x0 x1 S = some (r, S1)) : zV LC w X (some (.int r)) S1 S 0 ls [] := by
  unfold X8_within_b0 at h
  refine v_iload_n 0 C dX8_within_0 rfl (lv_at hl 0 rfl) ?_
  refine v_if_lt 1 13 C dX8_within_1 (by decide) h (fun h => ?_) (fun h => ?_)
  · exact w_X8_within_b13 C (lv_sub hl [] rfl) h
  · refine v_iload_n 4 C dX8_within_4 rfl (lv_at hl 0 rfl) ?_
    refine v_iload_n 5 C dX8_within_5 rfl (lv_at hl 1 rfl) ?_
    refine v_icmp_gt 6 13 C dX8_within_6 (by decide) h (fun h => ?_) (fun h => ?_)
    · exact w_X8_within_b13 C (lv_sub hl [] rfl) h
    · refine v_iconst 9 C (v := (1 : Int32)) dX8_within_9 (by decide) ?_
      refine v_goto 10 14 C dX8_within_10 (by decide) ?_
      exact w_X8_within_b14 C (lv_sub hl [] rfl) h
theorem c_X8_within {w : zWd} {l0 : Launch} {x0 : Int32} {x1 : Int32} {S S1 : zMem} {r : Int32} (h : f_X8_within x0 x1 S = some (r, S1)) : zMet LC w l0 yX8_within cX8_within 2 (some .boolean) 1 [.int x0, .int x1] S (some (.int r)) S1 :=
  zMet_of (by decide +kernel) (Nat.le_of_ble_eq_true rfl) (fun X ls C hl => w_X8_within_b0 C hl h)
theorem ml_X8_152 : Cond.methodLink RX8 152 yX8_within ∈ zT := zT_of (List.mem_of_getElem? (i := 370) (by decide +kernel)) rfl
theorem hy_X8_within : zYs yX8_within cX8_within 2 (some .boolean) 2 := ⟨⟨zT_of (List.mem_of_getElem? (i := 372) (by decide +kernel)) rfl, zT_of (List.mem_of_getElem? (i := 70) (by decide +kernel)) rfl, by decide, by decide +kernel, by decide +kernel, by decide +kernel⟩, zT_of (List.mem_of_getElem? (i := 371) (by decide +kernel)) rfl⟩
theorem dX8_isRow_0 : decode cX8_isRow 0 = .ok (.iload_n 0, 1) := by decide +kernel
theorem dX8_isRow_1 : decode cX8_isRow 1 = .ok (.iconst 5, 1) := by decide +kernel
theorem dX8_isRow_2 : decode cX8_isRow 2 = .ok (.invokestatic 152, 3) := by decide +kernel
theorem dX8_isRow_5 : decode cX8_isRow 5 = .ok (.ireturn, 1) := by decide +kernel
set_option maxRecDepth 20000 in
theorem w_X8_isRow_b0 {w : zWd} {X : zX} {l0 : Launch} {r : Int32} {S1 : zMem} (C : zC LC w X l0 cX8_isRow RX8 1 2 (some .boolean)) {x0 : Int32} {S : zMem} {ls : Array Slot} (hl : lv_has ls 1 [(0, .int x0)]) (h : X8_isRow_b0 x0 S = some (r, S1)) : zV LC w X (some (.int r)) S1 S 0 ls [] := by
  unfold X8_isRow_b0 at h
  refine v_iload_n 0 C dX8_isRow_0 rfl (lv_at hl 0 rfl) ?_
  refine v_iconst 1 C (v := (5 : Int32)) dX8_isRow_1 (by decide) ?_
  obtain ⟨v1, S, hc, h⟩ := zb_e h
  refine v_callSi 2 C [] dX8_isRow_2 ml_X8_152 hy_X8_within (c_X8_within  hc) (by decide) rfl hl.1 (Nat.le_of_ble_eq_true rfl) rfl ?_
  exact v_zreturn 5 C dX8_isRow_5 h
theorem c_X8_isRow {w : zWd} {l0 : Launch} {x0 : Int32} {S S1 : zMem} {r : Int32} (h : f_X8_isRow x0 S = some (r, S1)) : zMet LC w l0 yX8_isRow cX8_isRow 1 (some .boolean) 2 [.int x0] S (some (.int r)) S1 :=
  zMet_of (by decide +kernel) (Nat.le_of_ble_eq_true rfl) (fun X ls C hl => w_X8_isRow_b0 C hl h)
theorem fl_X8_330 : zFL RX8 330 7 11 := ⟨_, rfl, by decide, zT_of (List.mem_of_getElem? (i := 328) (by decide +kernel)) rfl⟩
theorem fp_7_11 : zFP 7 11 .int := fun q h => by cases h; exact ⟨rfl, by decide +kernel⟩
theorem fl_X8_69 : zFL RX8 69 7 10 := ⟨_, rfl, by decide, zT_of (List.mem_of_getElem? (i := 327) (by decide +kernel)) rfl⟩
theorem dX8_refuse_0 : decode cX8_refuse 0 = .ok (.aload_n 0, 1) := by decide +kernel
theorem dX8_refuse_1 : decode cX8_refuse 1 = .ok (.iload_n 1, 1) := by decide +kernel
theorem dX8_refuse_2 : decode cX8_refuse 2 = .ok (.putfield 330, 3) := by decide +kernel
theorem dX8_refuse_5 : decode cX8_refuse 5 = .ok (.aload_n 0, 1) := by decide +kernel
theorem dX8_refuse_6 : decode cX8_refuse 6 = .ok (.getfield 69, 3) := by decide +kernel
theorem dX8_refuse_9 : decode cX8_refuse 9 = .ok (.iload_n 1, 1) := by decide +kernel
theorem dX8_refuse_10 : decode cX8_refuse 10 = .ok (.dup2, 1) := by decide +kernel
theorem dX8_refuse_11 : decode cX8_refuse 11 = .ok (.iaload, 1) := by decide +kernel
theorem dX8_refuse_12 : decode cX8_refuse 12 = .ok (.iconst 1, 1) := by decide +kernel
theorem dX8_refuse_13 : decode cX8_refuse 13 = .ok (.iadd, 1) := by decide +kernel
theorem dX8_refuse_14 : decode cX8_refuse 14 = .ok (.iastore, 1) := by decide +kernel
theorem dX8_refuse_15 : decode cX8_refuse 15 = .ok (.bipush (-3), 2) := by decide +kernel
theorem dX8_refuse_17 : decode cX8_refuse 17 = .ok (.ireturn, 1) := by decide +kernel
set_option maxRecDepth 20000 in
theorem w_X8_refuse_b0 {w : zWd} {X : zX} {l0 : Launch} {r : Int32} {S1 : zMem} (C : zC LC w X l0 cX8_refuse RX8 2 1 (some .int)) {x1 : Int32} {S : zMem} {ls : Array Slot} (hl : lv_has ls 2 [(0, .ref (w.2.2.1 0)), (1, .int x1)]) (h : X8_refuse_b0 x1 S = some (r, S1)) : zV LC w X (some (.int r)) S1 S 0 ls [] := by
  unfold X8_refuse_b0 at h
  refine v_aload_n 0 C dX8_refuse_0 rfl (lv_at hl 0 rfl) ?_
  refine v_iload_n 1 C dX8_refuse_1 rfl (lv_at hl 1 rfl) ?_
  refine v_puti 2 C dX8_refuse_2 fl_X8_330 fp_7_11 rfl kC_0 h (fun S h => ?_)
  refine v_aload_n 5 C dX8_refuse_5 rfl (lv_at hl 0 rfl) ?_
  refine v_getr 6 (67) C dX8_refuse_6 fl_X8_69 rfl kC_0 rfl ?_
  refine v_iload_n 9 C dX8_refuse_9 rfl (lv_at hl 1 rfl) ?_
  refine v_dup2 10 C dX8_refuse_10 rfl rfl ?_
  refine v_iald 11 C dX8_refuse_11 kC_67 rfl h (fun v1 h => ?_)
  refine v_iconst 12 C (v := (1 : Int32)) dX8_refuse_12 (by decide) ?_
  refine v_iadd 13 C dX8_refuse_13 h (fun v2 h => ?_)
  refine v_iast 14 C dX8_refuse_14 kC_67 rfl h (fun S h => ?_)
  refine v_bipush 15 C (v := (-3 : Int32)) dX8_refuse_15 (by decide) ?_
  exact v_ireturn 17 C dX8_refuse_17 h
theorem c_X8_refuse {w : zWd} {l0 : Launch} {x1 : Int32} {S S1 : zMem} {r : Int32} (h : f_X8_refuse x1 S = some (r, S1)) : zMet LC w l0 yX8_refuse cX8_refuse 2 (some .int) 1 [.ref (w.2.2.1 0), .int x1] S (some (.int r)) S1 :=
  zMet_of (by decide +kernel) (Nat.le_of_ble_eq_true rfl) (fun X ls C hl => w_X8_refuse_b0 C hl h)
theorem fl_X7_13 : zFL RX7 13 6 0 := ⟨_, rfl, by decide, zT_of (List.mem_of_getElem? (i := 302) (by decide +kernel)) rfl⟩
theorem fl_X7_9 : zFL RX7 9 6 1 := ⟨_, rfl, by decide, zT_of (List.mem_of_getElem? (i := 307) (by decide +kernel)) rfl⟩
theorem fp_6_1 : zFP 6 1 .int := fun q h => by cases h; exact ⟨rfl, by decide +kernel⟩
theorem dX7_lieAnew_0 : decode cX7_lieAnew 0 = .ok (.iload_n 1, 1) := by decide +kernel
theorem dX7_lieAnew_1 : decode cX7_lieAnew 1 = .ok (.ifCond .lt 12, 3) := by decide +kernel
theorem dX7_lieAnew_4 : decode cX7_lieAnew 4 = .ok (.iload_n 1, 1) := by decide +kernel
theorem dX7_lieAnew_5 : decode cX7_lieAnew 5 = .ok (.aload_n 0, 1) := by decide +kernel
theorem dX7_lieAnew_6 : decode cX7_lieAnew 6 = .ok (.getfield 13, 3) := by decide +kernel
theorem dX7_lieAnew_9 : decode cX7_lieAnew 9 = .ok (.arraylength, 1) := by decide +kernel
theorem dX7_lieAnew_10 : decode cX7_lieAnew 10 = .ok (.if_icmp .le 4, 3) := by decide +kernel
theorem dX7_lieAnew_13 : decode cX7_lieAnew 13 = .ok (.return_, 1) := by decide +kernel
theorem dX7_lieAnew_14 : decode cX7_lieAnew 14 = .ok (.aload_n 0, 1) := by decide +kernel
theorem dX7_lieAnew_15 : decode cX7_lieAnew 15 = .ok (.iload_n 1, 1) := by decide +kernel
theorem dX7_lieAnew_16 : decode cX7_lieAnew 16 = .ok (.putfield 9, 3) := by decide +kernel
theorem dX7_lieAnew_19 : decode cX7_lieAnew 19 = .ok (.iconst 0, 1) := by decide +kernel
theorem dX7_lieAnew_20 : decode cX7_lieAnew 20 = .ok (.istore_n 3, 1) := by decide +kernel
theorem dX7_lieAnew_21 : decode cX7_lieAnew 21 = .ok (.iload_n 3, 1) := by decide +kernel
theorem dX7_lieAnew_22 : decode cX7_lieAnew 22 = .ok (.iload_n 1, 1) := by decide +kernel
theorem dX7_lieAnew_23 : decode cX7_lieAnew 23 = .ok (.if_icmp .ge 16, 3) := by decide +kernel
theorem dX7_lieAnew_26 : decode cX7_lieAnew 26 = .ok (.aload_n 0, 1) := by decide +kernel
theorem dX7_lieAnew_27 : decode cX7_lieAnew 27 = .ok (.getfield 13, 3) := by decide +kernel
theorem dX7_lieAnew_30 : decode cX7_lieAnew 30 = .ok (.iload_n 3, 1) := by decide +kernel
theorem dX7_lieAnew_31 : decode cX7_lieAnew 31 = .ok (.iload_n 2, 1) := by decide +kernel
theorem dX7_lieAnew_32 : decode cX7_lieAnew 32 = .ok (.iastore, 1) := by decide +kernel
theorem dX7_lieAnew_33 : decode cX7_lieAnew 33 = .ok (.iinc 3 1, 3) := by decide +kernel
theorem dX7_lieAnew_36 : decode cX7_lieAnew 36 = .ok (.goto (-15), 3) := by decide +kernel
theorem dX7_lieAnew_39 : decode cX7_lieAnew 39 = .ok (.return_, 1) := by decide +kernel
set_option maxRecDepth 20000 in
theorem w_X7_lieAnew_b13 {w : zWd} {X : zX} {l0 : Launch} {r : Unit} {S1 : zMem} (C : zC LC w X l0 cX7_lieAnew RX7 4 1 none) {S : zMem} {ls : Array Slot} (hl : lv_has ls 4 []) (h : X7_lieAnew_b13  S = some (r, S1)) : zV LC w X none S1 S 13 ls [] := by
  unfold X7_lieAnew_b13 at h
  exact v_return 13 C dX7_lieAnew_13 h
set_option maxRecDepth 20000 in
theorem w_X7_lieAnew_b21 {w : zWd} {X : zX} {l0 : Launch} {r : Unit} {S1 : zMem} (C : zC LC w X l0 cX7_lieAnew RX7 4 1 none) {k21 : Nat → Int32 → Int32 → Int32 → zMem → Option (Unit × zMem)} (hc21 : ∀ (c0 : Nat) (x1 : Int32) (x2 : Int32) (x3 : Int32) (S : zMem) (ls : Array Slot), lv_has ls 4 [(0, .ref (w.2.2.1 c0)), (1, .int x1), (2, .int x2), (3, .int x3)] → (c0 < LC.1 ∧ LC.2.1 c0 = 9) → k21 c0 x1 x2 x3 S = some (r, S1) → zV LC w X none S1 S 21 ls []) {c0 : Nat} {x1 : Int32} {x2 : Int32} {x3 : Int32} {S : zMem} {ls : Array Slot} (hl : lv_has ls 4 [(0, .ref (w.2.2.1 c0)), (1, .int x1), (2, .int x2), (3, .int x3)]) (hk_c0 : c0 < LC.1 ∧ LC.2.1 c0 = 9) (h : X7_lieAnew_b21 k21 c0 x1 x2 x3 S = some (r, S1)) : zV LC w X none S1 S 21 ls [] := by
  unfold X7_lieAnew_b21 at h
  refine v_iload_n 21 C dX7_lieAnew_21 rfl (lv_at hl 3 rfl) ?_
  refine v_iload_n 22 C dX7_lieAnew_22 rfl (lv_at hl 1 rfl) ?_
  refine v_icmp_ge 23 39 C dX7_lieAnew_23 (by decide) h (fun h => ?_) (fun h => ?_)
  · exact v_return 39 C dX7_lieAnew_39 h
  · refine v_aload_n 26 C dX7_lieAnew_26 rfl (lv_at hl 0 rfl) ?_
    refine v_getr 27 (c0 + 1) C dX7_lieAnew_27 fl_X7_13 rfl hk_c0 (rS1 hk_c0) ?_
    refine v_iload_n 30 C dX7_lieAnew_30 rfl (lv_at hl 3 rfl) ?_
    refine v_iload_n 31 C dX7_lieAnew_31 rfl (lv_at hl 2 rfl) ?_
    refine v_iast 32 C dX7_lieAnew_32 (kS1 hk_c0) rfl h (fun S h => ?_)
    refine v_iinc 33 C (nn := (1 : Int32)) (fun v => [(3, .int v), (0, .ref (w.2.2.1 c0)), (1, .int x1), (2, .int x2)]) dX7_lieAnew_33 hl (k := 3) rfl (by decide) (by decide) (fun _ => rfl) h (fun v1 ls hl h => ?_)
    refine v_goto 36 21 C dX7_lieAnew_36 (by decide) ?_
    exact hc21 _ _ _ _ _ _ (lv_sub hl [1, 2, 3, 0] rfl) hk_c0 h
theorem w_X7_lieAnew_l21 {w : zWd} {X : zX} {l0 : Launch} {r : Unit} {S1 : zMem} (C : zC LC w X l0 cX7_lieAnew RX7 4 1 none) : ∀ (n : Nat) (c0 : Nat) (x1 : Int32) (x2 : Int32) (x3 : Int32) (S : zMem) (ls : Array Slot), lv_has ls 4 [(0, .ref (w.2.2.1 c0)), (1, .int x1), (2, .int x2), (3, .int x3)] → (c0 < LC.1 ∧ LC.2.1 c0 = 9) → X7_lieAnew_l21 n c0 x1 x2 x3 S = some (r, S1) → zV LC w X none S1 S 21 ls [] := by
  intro n
  induction n with
  | zero =>
    intro c0 x1 x2 x3 S ls hl hk_c0 h
    cases (show (none : Option (Unit × zMem)) = some _ from h)
  | succ n ih =>
    intro c0 x1 x2 x3 S ls hl hk_c0 h
    exact w_X7_lieAnew_b21 C ih hl hk_c0 h
set_option maxRecDepth 20000 in
theorem w_X7_lieAnew_b0 {w : zWd} {X : zX} {l0 : Launch} {r : Unit} {S1 : zMem} (C : zC LC w X l0 cX7_lieAnew RX7 4 1 none) {c0 : Nat} {x1 : Int32} {x2 : Int32} {S : zMem} {ls : Array Slot} (hl : lv_has ls 4 [(0, .ref (w.2.2.1 c0)), (1, .int x1), (2, .int x2)]) (hk_c0 : c0 < LC.1 ∧ LC.2.1 c0 = 9) (h : X7_lieAnew_b0 c0 x1 x2 S = some (r, S1)) : zV LC w X none S1 S 0 ls [] := by
  unfold X7_lieAnew_b0 at h
  refine v_iload_n 0 C dX7_lieAnew_0 rfl (lv_at hl 1 rfl) ?_
  refine v_if_lt 1 13 C dX7_lieAnew_1 (by decide) h (fun h => ?_) (fun h => ?_)
  · exact w_X7_lieAnew_b13 C (lv_sub hl [] rfl) h
  · refine v_iload_n 4 C dX7_lieAnew_4 rfl (lv_at hl 1 rfl) ?_
    refine v_aload_n 5 C dX7_lieAnew_5 rfl (lv_at hl 0 rfl) ?_
    refine v_getr 6 (c0 + 1) C dX7_lieAnew_6 fl_X7_13 rfl hk_c0 (rS1 hk_c0) ?_
    refine v_ilen 9 C (v := (Int32.ofNat (lnC (c0 + 1)))) dX7_lieAnew_9 (kS1 hk_c0) rfl ?_
    refine v_icmp_le 10 14 C dX7_lieAnew_10 (by decide) h (fun h => ?_) (fun h => ?_)
    · refine v_aload_n 14 C dX7_lieAnew_14 rfl (lv_at hl 0 rfl) ?_
      refine v_iload_n 15 C dX7_lieAnew_15 rfl (lv_at hl 1 rfl) ?_
      refine v_puti 16 C dX7_lieAnew_16 fl_X7_9 fp_6_1 rfl hk_c0 h (fun S h => ?_)
      refine v_iconst 19 C (v := (0 : Int32)) dX7_lieAnew_19 (by decide) ?_
      refine v_istore_n 20 C [(3, .int (0 : Int32)), (0, .ref (w.2.2.1 c0)), (1, .int x1), (2, .int x2)] dX7_lieAnew_20 rfl hl (by decide) rfl (fun ls hl => ?_)
      exact w_X7_lieAnew_l21 C zF _ _ _ _ _ _ (lv_sub hl [1, 2, 3, 0] rfl) hk_c0 h
    · exact w_X7_lieAnew_b13 C (lv_sub hl [] rfl) h
theorem c_X7_lieAnew {w : zWd} {l0 : Launch} {c0 : Nat} {x1 : Int32} {x2 : Int32} {S S1 : zMem} {r : Unit} (hk_c0 : c0 < LC.1 ∧ LC.2.1 c0 = 9) (h : f_X7_lieAnew c0 x1 x2 S = some (r, S1)) : zMet LC w l0 yX7_lieAnew cX7_lieAnew 4 none 1 [.ref (w.2.2.1 c0), .int x1, .int x2] S none S1 :=
  zMet_of (by decide +kernel) (Nat.le_of_ble_eq_true rfl) (fun X ls C hl => w_X7_lieAnew_b0 C hl hk_c0 h)
theorem ml_X8_80 : Cond.methodLink RX8 80 yX8_isRow ∈ zT := zT_of (List.mem_of_getElem? (i := 367) (by decide +kernel)) rfl
theorem hy_X8_isRow : zYs yX8_isRow cX8_isRow 1 (some .boolean) 1 := ⟨⟨zT_of (List.mem_of_getElem? (i := 369) (by decide +kernel)) rfl, zT_of (List.mem_of_getElem? (i := 70) (by decide +kernel)) rfl, by decide, by decide +kernel, by decide +kernel, by decide +kernel⟩, zT_of (List.mem_of_getElem? (i := 368) (by decide +kernel)) rfl⟩
theorem fl_X8_11 : zFL RX8 11 7 0 := ⟨_, rfl, by decide, zT_of (List.mem_of_getElem? (i := 317) (by decide +kernel)) rfl⟩
theorem ml_X8_88 : Cond.methodLink RX8 88 yX7_lieAnew ∈ zT := zT_of (List.mem_of_getElem? (i := 377) (by decide +kernel)) rfl
theorem hy_X7_lieAnew : zYv yX7_lieAnew cX7_lieAnew 4 none 2 := ⟨⟨zT_of (List.mem_of_getElem? (i := 380) (by decide +kernel)) rfl, zT_of (List.mem_of_getElem? (i := 77) (by decide +kernel)) rfl, by decide, by decide +kernel, by decide +kernel, by decide +kernel⟩, zT_of (List.mem_of_getElem? (i := 378) (by decide +kernel)) rfl, zT_of (List.mem_of_getElem? (i := 379) (by decide +kernel)) rfl⟩
theorem ml_X8_84 : Cond.methodLink RX8 84 yX8_refuse ∈ zT := zT_of (List.mem_of_getElem? (i := 373) (by decide +kernel)) rfl
theorem hy_X8_refuse : zYv yX8_refuse cX8_refuse 2 (some .int) 1 := ⟨⟨zT_of (List.mem_of_getElem? (i := 376) (by decide +kernel)) rfl, zT_of (List.mem_of_getElem? (i := 70) (by decide +kernel)) rfl, by decide, by decide +kernel, by decide +kernel, by decide +kernel⟩, zT_of (List.mem_of_getElem? (i := 375) (by decide +kernel)) rfl, zT_of (List.mem_of_getElem? (i := 0) (by decide +kernel)) rfl⟩
theorem dX8_row_0 : decode cX8_row 0 = .ok (.iload_n 1, 1) := by decide +kernel
theorem dX8_row_1 : decode cX8_row 1 = .ok (.invokestatic 80, 3) := by decide +kernel
theorem dX8_row_4 : decode cX8_row 4 = .ok (.ifCond .eq 9, 3) := by decide +kernel
theorem dX8_row_7 : decode cX8_row 7 = .ok (.iload_n 2, 1) := by decide +kernel
theorem dX8_row_8 : decode cX8_row 8 = .ok (.bipush 40, 2) := by decide +kernel
theorem dX8_row_10 : decode cX8_row 10 = .ok (.if_icmp .le 5, 3) := by decide +kernel
theorem dX8_row_13 : decode cX8_row 13 = .ok (.iconst (-1), 1) := by decide +kernel
theorem dX8_row_14 : decode cX8_row 14 = .ok (.ireturn, 1) := by decide +kernel
theorem dX8_row_15 : decode cX8_row 15 = .ok (.iload_n 2, 1) := by decide +kernel
theorem dX8_row_16 : decode cX8_row 16 = .ok (.ifCond .ge 9, 3) := by decide +kernel
theorem dX8_row_19 : decode cX8_row 19 = .ok (.aload_n 0, 1) := by decide +kernel
theorem dX8_row_20 : decode cX8_row 20 = .ok (.iconst 5, 1) := by decide +kernel
theorem dX8_row_21 : decode cX8_row 21 = .ok (.invokevirtual 84, 3) := by decide +kernel
theorem dX8_row_24 : decode cX8_row 24 = .ok (.ireturn, 1) := by decide +kernel
theorem dX8_row_25 : decode cX8_row 25 = .ok (.aload_n 0, 1) := by decide +kernel
theorem dX8_row_26 : decode cX8_row 26 = .ok (.getfield 11, 3) := by decide +kernel
theorem dX8_row_29 : decode cX8_row 29 = .ok (.iload_n 1, 1) := by decide +kernel
theorem dX8_row_30 : decode cX8_row 30 = .ok (.aaload, 1) := by decide +kernel
theorem dX8_row_31 : decode cX8_row 31 = .ok (.iload_n 2, 1) := by decide +kernel
theorem dX8_row_32 : decode cX8_row 32 = .ok (.iconst 0, 1) := by decide +kernel
theorem dX8_row_33 : decode cX8_row 33 = .ok (.invokevirtual 88, 3) := by decide +kernel
theorem dX8_row_36 : decode cX8_row 36 = .ok (.iload_n 2, 1) := by decide +kernel
theorem dX8_row_37 : decode cX8_row 37 = .ok (.ireturn, 1) := by decide +kernel
set_option maxRecDepth 20000 in
theorem w_X8_row_b13 {w : zWd} {X : zX} {l0 : Launch} {r : Int32} {S1 : zMem} (C : zC LC w X l0 cX8_row RX8 3 3 (some .int)) {S : zMem} {ls : Array Slot} (hl : lv_has ls 3 []) (h : X8_row_b13  S = some (r, S1)) : zV LC w X (some (.int r)) S1 S 13 ls [] := by
  unfold X8_row_b13 at h
  refine v_iconst 13 C (v := (-1 : Int32)) dX8_row_13 (by decide) ?_
  exact v_ireturn 14 C dX8_row_14 h
set_option maxRecDepth 20000 in
theorem w_X8_row_b0 {w : zWd} {X : zX} {l0 : Launch} {r : Int32} {S1 : zMem} (C : zC LC w X l0 cX8_row RX8 3 3 (some .int)) {x1 : Int32} {x2 : Int32} {S : zMem} {ls : Array Slot} (hl : lv_has ls 3 [(0, .ref (w.2.2.1 0)), (1, .int x1), (2, .int x2)]) (h : X8_row_b0 x1 x2 S = some (r, S1)) : zV LC w X (some (.int r)) S1 S 0 ls [] := by
  unfold X8_row_b0 at h
  refine v_iload_n 0 C dX8_row_0 rfl (lv_at hl 1 rfl) ?_
  obtain ⟨v1, S, hc, h⟩ := zb_e h
  refine v_callSi 1 C [] dX8_row_1 ml_X8_80 hy_X8_isRow (c_X8_isRow  hc) (by decide) rfl hl.1 (Nat.le_of_ble_eq_true rfl) rfl ?_
  refine v_if_eq 4 13 C dX8_row_4 (by decide) h (fun h => ?_) (fun h => ?_)
  · exact w_X8_row_b13 C (lv_sub hl [] rfl) h
  · refine v_iload_n 7 C dX8_row_7 rfl (lv_at hl 2 rfl) ?_
    refine v_bipush 8 C (v := (40 : Int32)) dX8_row_8 (by decide) ?_
    refine v_icmp_le 10 15 C dX8_row_10 (by decide) h (fun h => ?_) (fun h => ?_)
    · refine v_iload_n 15 C dX8_row_15 rfl (lv_at hl 2 rfl) ?_
      refine v_if_ge 16 25 C dX8_row_16 (by decide) h (fun h => ?_) (fun h => ?_)
      · refine v_aload_n 25 C dX8_row_25 rfl (lv_at hl 0 rfl) ?_
        refine v_getr 26 (1) C dX8_row_26 fl_X8_11 rfl kC_0 rfl ?_
        refine v_iload_n 29 C dX8_row_29 rfl (lv_at hl 1 rfl) ?_
        refine v_aald 30 (4 + 2 * Int32.toNatClampNeg x1) C dX8_row_30 kC_1 (Or.inl rfl) rfl rfl h (fun hz2 h => ?_)
        refine v_iload_n 31 C dX8_row_31 rfl (lv_at hl 2 rfl) ?_
        refine v_iconst 32 C (v := (0 : Int32)) dX8_row_32 (by decide) ?_
        obtain ⟨v3, S, hc, h⟩ := zb_e h
        refine v_callVv 33 C (ci := 6) [] dX8_row_33 ml_X8_88 hy_X7_lieAnew (c_X7_lieAnew (kRow hz2) hc) (by decide) rfl hl.1 (kRow hz2) rfl (Nat.le_of_ble_eq_true rfl) rfl ?_
        refine v_iload_n 36 C dX8_row_36 rfl (lv_at hl 2 rfl) ?_
        exact v_ireturn 37 C dX8_row_37 h
      · refine v_aload_n 19 C dX8_row_19 rfl (lv_at hl 0 rfl) ?_
        refine v_iconst 20 C (v := (5 : Int32)) dX8_row_20 (by decide) ?_
        obtain ⟨v4, S, hc, h⟩ := zb_e h
        refine v_callVi 21 C (ci := 7) [] dX8_row_21 ml_X8_84 hy_X8_refuse (c_X8_refuse  hc) (by decide) rfl hl.1 kC_0 rfl (Nat.le_of_ble_eq_true rfl) rfl ?_
        exact v_ireturn 24 C dX8_row_24 h
    · exact w_X8_row_b13 C (lv_sub hl [] rfl) h
theorem c_X8_row {w : zWd} {l0 : Launch} {x1 : Int32} {x2 : Int32} {S S1 : zMem} {r : Int32} (h : f_X8_row x1 x2 S = some (r, S1)) : zMet LC w l0 yX8_row cX8_row 3 (some .int) 3 [.ref (w.2.2.1 0), .int x1, .int x2] S (some (.int r)) S1 :=
  zMet_of (by decide +kernel) (Nat.le_of_ble_eq_true rfl) (fun X ls C hl => w_X8_row_b0 C hl h)
theorem dX7_isThere_0 : decode cX7_isThere 0 = .ok (.aload_n 0, 1) := by decide +kernel
theorem dX7_isThere_1 : decode cX7_isThere 1 = .ok (.getfield 9, 3) := by decide +kernel
theorem dX7_isThere_4 : decode cX7_isThere 4 = .ok (.iconst (-1), 1) := by decide +kernel
theorem dX7_isThere_5 : decode cX7_isThere 5 = .ok (.if_icmp .eq 7, 3) := by decide +kernel
theorem dX7_isThere_8 : decode cX7_isThere 8 = .ok (.iconst 1, 1) := by decide +kernel
theorem dX7_isThere_9 : decode cX7_isThere 9 = .ok (.goto 4, 3) := by decide +kernel
theorem dX7_isThere_12 : decode cX7_isThere 12 = .ok (.iconst 0, 1) := by decide +kernel
theorem dX7_isThere_13 : decode cX7_isThere 13 = .ok (.ireturn, 1) := by decide +kernel
set_option maxRecDepth 20000 in
theorem w_X7_isThere_b13 {w : zWd} {X : zX} {l0 : Launch} {r : Int32} {S1 : zMem} (C : zC LC w X l0 cX7_isThere RX7 1 1 (some .boolean)) {s0 : Int32} {S : zMem} {ls : Array Slot} (hl : lv_has ls 1 []) (h : X7_isThere_b13 s0 S = some (r, S1)) : zV LC w X (some (.int r)) S1 S 13 ls [.int s0] := by
  unfold X7_isThere_b13 at h
  exact v_zreturn 13 C dX7_isThere_13 h
set_option maxRecDepth 20000 in
theorem w_X7_isThere_b0 {w : zWd} {X : zX} {l0 : Launch} {r : Int32} {S1 : zMem} (C : zC LC w X l0 cX7_isThere RX7 1 1 (some .boolean)) {c0 : Nat} {S : zMem} {ls : Array Slot} (hl : lv_has ls 1 [(0, .ref (w.2.2.1 c0))]) (hk_c0 : c0 < LC.1 ∧ LC.2.1 c0 = 9) (h : X7_isThere_b0 c0 S = some (r, S1)) : zV LC w X (some (.int r)) S1 S 0 ls [] := by
  unfold X7_isThere_b0 at h
  refine v_aload_n 0 C dX7_isThere_0 rfl (lv_at hl 0 rfl) ?_
  refine v_geti 1 C dX7_isThere_1 fl_X7_9 rfl hk_c0 h (fun v1 h => ?_)
  refine v_iconst 4 C (v := (-1 : Int32)) dX7_isThere_4 (by decide) ?_
  refine v_icmp_eq 5 12 C dX7_isThere_5 (by decide) h (fun h => ?_) (fun h => ?_)
  · refine v_iconst 12 C (v := (0 : Int32)) dX7_isThere_12 (by decide) ?_
    exact w_X7_isThere_b13 C (lv_sub hl [] rfl) h
  · refine v_iconst 8 C (v := (1 : Int32)) dX7_isThere_8 (by decide) ?_
    refine v_goto 9 13 C dX7_isThere_9 (by decide) ?_
    exact w_X7_isThere_b13 C (lv_sub hl [] rfl) h
theorem c_X7_isThere {w : zWd} {l0 : Launch} {c0 : Nat} {S S1 : zMem} {r : Int32} (hk_c0 : c0 < LC.1 ∧ LC.2.1 c0 = 9) (h : f_X7_isThere c0 S = some (r, S1)) : zMet LC w l0 yX7_isThere cX7_isThere 1 (some .boolean) 1 [.ref (w.2.2.1 c0)] S (some (.int r)) S1 :=
  zMet_of (by decide +kernel) (Nat.le_of_ble_eq_true rfl) (fun X ls C hl => w_X7_isThere_b0 C hl hk_c0 h)
theorem dX7_has_0 : decode cX7_has 0 = .ok (.iload_n 1, 1) := by decide +kernel
theorem dX7_has_1 : decode cX7_has 1 = .ok (.ifCond .lt 15, 3) := by decide +kernel
theorem dX7_has_4 : decode cX7_has 4 = .ok (.iload_n 1, 1) := by decide +kernel
theorem dX7_has_5 : decode cX7_has 5 = .ok (.aload_n 0, 1) := by decide +kernel
theorem dX7_has_6 : decode cX7_has 6 = .ok (.getfield 9, 3) := by decide +kernel
theorem dX7_has_9 : decode cX7_has 9 = .ok (.if_icmp .ge 7, 3) := by decide +kernel
theorem dX7_has_12 : decode cX7_has 12 = .ok (.iconst 1, 1) := by decide +kernel
theorem dX7_has_13 : decode cX7_has 13 = .ok (.goto 4, 3) := by decide +kernel
theorem dX7_has_16 : decode cX7_has 16 = .ok (.iconst 0, 1) := by decide +kernel
theorem dX7_has_17 : decode cX7_has 17 = .ok (.ireturn, 1) := by decide +kernel
set_option maxRecDepth 20000 in
theorem w_X7_has_b17 {w : zWd} {X : zX} {l0 : Launch} {r : Int32} {S1 : zMem} (C : zC LC w X l0 cX7_has RX7 2 1 (some .boolean)) {s0 : Int32} {S : zMem} {ls : Array Slot} (hl : lv_has ls 2 []) (h : X7_has_b17 s0 S = some (r, S1)) : zV LC w X (some (.int r)) S1 S 17 ls [.int s0] := by
  unfold X7_has_b17 at h
  exact v_zreturn 17 C dX7_has_17 h
set_option maxRecDepth 20000 in
theorem w_X7_has_b16 {w : zWd} {X : zX} {l0 : Launch} {r : Int32} {S1 : zMem} (C : zC LC w X l0 cX7_has RX7 2 1 (some .boolean)) {S : zMem} {ls : Array Slot} (hl : lv_has ls 2 []) (h : X7_has_b16  S = some (r, S1)) : zV LC w X (some (.int r)) S1 S 16 ls [] := by
  unfold X7_has_b16 at h
  refine v_iconst 16 C (v := (0 : Int32)) dX7_has_16 (by decide) ?_
  exact w_X7_has_b17 C (lv_sub hl [] rfl) h
set_option maxRecDepth 20000 in
theorem w_X7_has_b0 {w : zWd} {X : zX} {l0 : Launch} {r : Int32} {S1 : zMem} (C : zC LC w X l0 cX7_has RX7 2 1 (some .boolean)) {c0 : Nat} {x1 : Int32} {S : zMem} {ls : Array Slot} (hl : lv_has ls 2 [(0, .ref (w.2.2.1 c0)), (1, .int x1)]) (hk_c0 : c0 < LC.1 ∧ LC.2.1 c0 = 9) (h : X7_has_b0 c0 x1 S = some (r, S1)) : zV LC w X (some (.int r)) S1 S 0 ls [] := by
  unfold X7_has_b0 at h
  refine v_iload_n 0 C dX7_has_0 rfl (lv_at hl 1 rfl) ?_
  refine v_if_lt 1 16 C dX7_has_1 (by decide) h (fun h => ?_) (fun h => ?_)
  · exact w_X7_has_b16 C (lv_sub hl [] rfl) h
  · refine v_iload_n 4 C dX7_has_4 rfl (lv_at hl 1 rfl) ?_
    refine v_aload_n 5 C dX7_has_5 rfl (lv_at hl 0 rfl) ?_
    refine v_geti 6 C dX7_has_6 fl_X7_9 rfl hk_c0 h (fun v1 h => ?_)
    refine v_icmp_ge 9 16 C dX7_has_9 (by decide) h (fun h => ?_) (fun h => ?_)
    · exact w_X7_has_b16 C (lv_sub hl [] rfl) h
    · refine v_iconst 12 C (v := (1 : Int32)) dX7_has_12 (by decide) ?_
      refine v_goto 13 17 C dX7_has_13 (by decide) ?_
      exact w_X7_has_b17 C (lv_sub hl [] rfl) h
theorem c_X7_has {w : zWd} {l0 : Launch} {c0 : Nat} {x1 : Int32} {S S1 : zMem} {r : Int32} (hk_c0 : c0 < LC.1 ∧ LC.2.1 c0 = 9) (h : f_X7_has c0 x1 S = some (r, S1)) : zMet LC w l0 yX7_has cX7_has 2 (some .boolean) 1 [.ref (w.2.2.1 c0), .int x1] S (some (.int r)) S1 :=
  zMet_of (by decide +kernel) (Nat.le_of_ble_eq_true rfl) (fun X ls C hl => w_X7_has_b0 C hl hk_c0 h)
theorem fl_X8_321 : zFL RX8 321 7 12 := ⟨_, rfl, by decide, zT_of (List.mem_of_getElem? (i := 329) (by decide +kernel)) rfl⟩
theorem fp_7_12 : zFP 7 12 .int := fun q h => by cases h; exact ⟨rfl, by decide +kernel⟩
theorem dX8_tell_0 : decode cX8_tell 0 = .ok (.aload_n 0, 1) := by decide +kernel
theorem dX8_tell_1 : decode cX8_tell 1 = .ok (.iload_n 1, 1) := by decide +kernel
theorem dX8_tell_2 : decode cX8_tell 2 = .ok (.putfield 321, 3) := by decide +kernel
theorem dX8_tell_5 : decode cX8_tell 5 = .ok (.iconst 1, 1) := by decide +kernel
theorem dX8_tell_6 : decode cX8_tell 6 = .ok (.ireturn, 1) := by decide +kernel
set_option maxRecDepth 20000 in
theorem w_X8_tell_b0 {w : zWd} {X : zX} {l0 : Launch} {r : Int32} {S1 : zMem} (C : zC LC w X l0 cX8_tell RX8 2 1 (some .int)) {x1 : Int32} {S : zMem} {ls : Array Slot} (hl : lv_has ls 2 [(0, .ref (w.2.2.1 0)), (1, .int x1)]) (h : X8_tell_b0 x1 S = some (r, S1)) : zV LC w X (some (.int r)) S1 S 0 ls [] := by
  unfold X8_tell_b0 at h
  refine v_aload_n 0 C dX8_tell_0 rfl (lv_at hl 0 rfl) ?_
  refine v_iload_n 1 C dX8_tell_1 rfl (lv_at hl 1 rfl) ?_
  refine v_puti 2 C dX8_tell_2 fl_X8_321 fp_7_12 rfl kC_0 h (fun S h => ?_)
  refine v_iconst 5 C (v := (1 : Int32)) dX8_tell_5 (by decide) ?_
  exact v_ireturn 6 C dX8_tell_6 h
theorem c_X8_tell {w : zWd} {l0 : Launch} {x1 : Int32} {S S1 : zMem} {r : Int32} (h : f_X8_tell x1 S = some (r, S1)) : zMet LC w l0 yX8_tell cX8_tell 2 (some .int) 1 [.ref (w.2.2.1 0), .int x1] S (some (.int r)) S1 :=
  zMet_of (by decide +kernel) (Nat.le_of_ble_eq_true rfl) (fun X ls C hl => w_X8_tell_b0 C hl h)
theorem ml_X8_92 : Cond.methodLink RX8 92 yX7_isThere ∈ zT := zT_of (List.mem_of_getElem? (i := 385) (by decide +kernel)) rfl
theorem hy_X7_isThere : zYv yX7_isThere cX7_isThere 1 (some .boolean) 0 := ⟨⟨zT_of (List.mem_of_getElem? (i := 388) (by decide +kernel)) rfl, zT_of (List.mem_of_getElem? (i := 77) (by decide +kernel)) rfl, by decide, by decide +kernel, by decide +kernel, by decide +kernel⟩, zT_of (List.mem_of_getElem? (i := 386) (by decide +kernel)) rfl, zT_of (List.mem_of_getElem? (i := 387) (by decide +kernel)) rfl⟩
theorem ml_X8_96 : Cond.methodLink RX8 96 yX7_has ∈ zT := zT_of (List.mem_of_getElem? (i := 389) (by decide +kernel)) rfl
theorem hy_X7_has : zYv yX7_has cX7_has 2 (some .boolean) 1 := ⟨⟨zT_of (List.mem_of_getElem? (i := 392) (by decide +kernel)) rfl, zT_of (List.mem_of_getElem? (i := 77) (by decide +kernel)) rfl, by decide, by decide +kernel, by decide +kernel, by decide +kernel⟩, zT_of (List.mem_of_getElem? (i := 390) (by decide +kernel)) rfl, zT_of (List.mem_of_getElem? (i := 391) (by decide +kernel)) rfl⟩
theorem fl_X8_99 : zFL RX8 99 6 0 := ⟨_, rfl, by decide, zT_of (List.mem_of_getElem? (i := 306) (by decide +kernel)) rfl⟩
theorem ml_X8_102 : Cond.methodLink RX8 102 yX8_tell ∈ zT := zT_of (List.mem_of_getElem? (i := 393) (by decide +kernel)) rfl
theorem hy_X8_tell : zYv yX8_tell cX8_tell 2 (some .int) 1 := ⟨⟨zT_of (List.mem_of_getElem? (i := 396) (by decide +kernel)) rfl, zT_of (List.mem_of_getElem? (i := 70) (by decide +kernel)) rfl, by decide, by decide +kernel, by decide +kernel, by decide +kernel⟩, zT_of (List.mem_of_getElem? (i := 395) (by decide +kernel)) rfl, zT_of (List.mem_of_getElem? (i := 1) (by decide +kernel)) rfl⟩
theorem dX8_lay_0 : decode cX8_lay 0 = .ok (.iload_n 1, 1) := by decide +kernel
theorem dX8_lay_1 : decode cX8_lay 1 = .ok (.invokestatic 80, 3) := by decide +kernel
theorem dX8_lay_4 : decode cX8_lay 4 = .ok (.ifCond .ne 5, 3) := by decide +kernel
theorem dX8_lay_7 : decode cX8_lay 7 = .ok (.iconst (-1), 1) := by decide +kernel
theorem dX8_lay_8 : decode cX8_lay 8 = .ok (.ireturn, 1) := by decide +kernel
theorem dX8_lay_9 : decode cX8_lay 9 = .ok (.aload_n 0, 1) := by decide +kernel
theorem dX8_lay_10 : decode cX8_lay 10 = .ok (.getfield 11, 3) := by decide +kernel
theorem dX8_lay_13 : decode cX8_lay 13 = .ok (.iload_n 1, 1) := by decide +kernel
theorem dX8_lay_14 : decode cX8_lay 14 = .ok (.aaload, 1) := by decide +kernel
theorem dX8_lay_15 : decode cX8_lay 15 = .ok (.astore 4, 2) := by decide +kernel
theorem dX8_lay_17 : decode cX8_lay 17 = .ok (.aload 4, 2) := by decide +kernel
theorem dX8_lay_19 : decode cX8_lay 19 = .ok (.invokevirtual 92, 3) := by decide +kernel
theorem dX8_lay_22 : decode cX8_lay 22 = .ok (.ifCond .ne 9, 3) := by decide +kernel
theorem dX8_lay_25 : decode cX8_lay 25 = .ok (.aload_n 0, 1) := by decide +kernel
theorem dX8_lay_26 : decode cX8_lay 26 = .ok (.iconst 1, 1) := by decide +kernel
theorem dX8_lay_27 : decode cX8_lay 27 = .ok (.invokevirtual 84, 3) := by decide +kernel
theorem dX8_lay_30 : decode cX8_lay 30 = .ok (.ireturn, 1) := by decide +kernel
theorem dX8_lay_31 : decode cX8_lay 31 = .ok (.aload 4, 2) := by decide +kernel
theorem dX8_lay_33 : decode cX8_lay 33 = .ok (.iload_n 2, 1) := by decide +kernel
theorem dX8_lay_34 : decode cX8_lay 34 = .ok (.invokevirtual 96, 3) := by decide +kernel
theorem dX8_lay_37 : decode cX8_lay 37 = .ok (.ifCond .ne 9, 3) := by decide +kernel
theorem dX8_lay_40 : decode cX8_lay 40 = .ok (.aload_n 0, 1) := by decide +kernel
theorem dX8_lay_41 : decode cX8_lay 41 = .ok (.iconst 2, 1) := by decide +kernel
theorem dX8_lay_42 : decode cX8_lay 42 = .ok (.invokevirtual 84, 3) := by decide +kernel
theorem dX8_lay_45 : decode cX8_lay 45 = .ok (.ireturn, 1) := by decide +kernel
theorem dX8_lay_46 : decode cX8_lay 46 = .ok (.aload 4, 2) := by decide +kernel
theorem dX8_lay_48 : decode cX8_lay 48 = .ok (.getfield 99, 3) := by decide +kernel
theorem dX8_lay_51 : decode cX8_lay 51 = .ok (.iload_n 2, 1) := by decide +kernel
theorem dX8_lay_52 : decode cX8_lay 52 = .ok (.iaload, 1) := by decide +kernel
theorem dX8_lay_53 : decode cX8_lay 53 = .ok (.istore 5, 2) := by decide +kernel
theorem dX8_lay_55 : decode cX8_lay 55 = .ok (.aload 4, 2) := by decide +kernel
theorem dX8_lay_57 : decode cX8_lay 57 = .ok (.getfield 99, 3) := by decide +kernel
theorem dX8_lay_60 : decode cX8_lay 60 = .ok (.iload_n 2, 1) := by decide +kernel
theorem dX8_lay_61 : decode cX8_lay 61 = .ok (.iload_n 3, 1) := by decide +kernel
theorem dX8_lay_62 : decode cX8_lay 62 = .ok (.iastore, 1) := by decide +kernel
theorem dX8_lay_63 : decode cX8_lay 63 = .ok (.aload_n 0, 1) := by decide +kernel
theorem dX8_lay_64 : decode cX8_lay 64 = .ok (.iload 5, 2) := by decide +kernel
theorem dX8_lay_66 : decode cX8_lay 66 = .ok (.invokevirtual 102, 3) := by decide +kernel
theorem dX8_lay_69 : decode cX8_lay 69 = .ok (.ireturn, 1) := by decide +kernel
set_option maxRecDepth 20000 in
theorem w_X8_lay_b0 {w : zWd} {X : zX} {l0 : Launch} {r : Int32} {S1 : zMem} (C : zC LC w X l0 cX8_lay RX8 6 3 (some .int)) {x1 : Int32} {x2 : Int32} {x3 : Int32} {S : zMem} {ls : Array Slot} (hl : lv_has ls 6 [(0, .ref (w.2.2.1 0)), (1, .int x1), (2, .int x2), (3, .int x3)]) (h : X8_lay_b0 x1 x2 x3 S = some (r, S1)) : zV LC w X (some (.int r)) S1 S 0 ls [] := by
  unfold X8_lay_b0 at h
  refine v_iload_n 0 C dX8_lay_0 rfl (lv_at hl 1 rfl) ?_
  obtain ⟨v1, S, hc, h⟩ := zb_e h
  refine v_callSi 1 C [] dX8_lay_1 ml_X8_80 hy_X8_isRow (c_X8_isRow  hc) (by decide) rfl hl.1 (Nat.le_of_ble_eq_true rfl) rfl ?_
  refine v_if_ne 4 9 C dX8_lay_4 (by decide) h (fun h => ?_) (fun h => ?_)
  · refine v_aload_n 9 C dX8_lay_9 rfl (lv_at hl 0 rfl) ?_
    refine v_getr 10 (1) C dX8_lay_10 fl_X8_11 rfl kC_0 rfl ?_
    refine v_iload_n 13 C dX8_lay_13 rfl (lv_at hl 1 rfl) ?_
    refine v_aald 14 (4 + 2 * Int32.toNatClampNeg x1) C dX8_lay_14 kC_1 (Or.inl rfl) rfl rfl h (fun hz2 h => ?_)
    refine v_astore 15 C [(4, .ref (w.2.2.1 (4 + 2 * Int32.toNatClampNeg x1))), (0, .ref (w.2.2.1 0)), (1, .int x1), (2, .int x2), (3, .int x3)] dX8_lay_15 hl (by decide) rfl (fun ls hl => ?_)
    refine v_aload 17 C dX8_lay_17 (lv_at hl 0 rfl) ?_
    obtain ⟨v3, S, hc, h⟩ := zb_e h
    refine v_callVi 19 C (ci := 6) [] dX8_lay_19 ml_X8_92 hy_X7_isThere (c_X7_isThere (kRow hz2) hc) (by decide) rfl hl.1 (kRow hz2) rfl (Nat.le_of_ble_eq_true rfl) rfl ?_
    refine v_if_ne 22 31 C dX8_lay_22 (by decide) h (fun h => ?_) (fun h => ?_)
    · refine v_aload 31 C dX8_lay_31 (lv_at hl 0 rfl) ?_
      refine v_iload_n 33 C dX8_lay_33 rfl (lv_at hl 3 rfl) ?_
      obtain ⟨v4, S, hc, h⟩ := zb_e h
      refine v_callVi 34 C (ci := 6) [] dX8_lay_34 ml_X8_96 hy_X7_has (c_X7_has (kRow hz2) hc) (by decide) rfl hl.1 (kRow hz2) rfl (Nat.le_of_ble_eq_true rfl) rfl ?_
      refine v_if_ne 37 46 C dX8_lay_37 (by decide) h (fun h => ?_) (fun h => ?_)
      · refine v_aload 46 C dX8_lay_46 (lv_at hl 0 rfl) ?_
        refine v_getr 48 ((4 + 2 * Int32.toNatClampNeg x1) + 1) C dX8_lay_48 fl_X8_99 rfl (kRow hz2) (rS1 (kRow hz2)) ?_
        refine v_iload_n 51 C dX8_lay_51 rfl (lv_at hl 3 rfl) ?_
        refine v_iald 52 C dX8_lay_52 (kS1 (kRow hz2)) rfl h (fun v5 h => ?_)
        refine v_istore 53 C [(5, .int v5), (4, .ref (w.2.2.1 (4 + 2 * Int32.toNatClampNeg x1))), (0, .ref (w.2.2.1 0)), (1, .int x1), (2, .int x2), (3, .int x3)] dX8_lay_53 hl (by decide) rfl (fun ls hl => ?_)
        refine v_aload 55 C dX8_lay_55 (lv_at hl 1 rfl) ?_
        refine v_getr 57 ((4 + 2 * Int32.toNatClampNeg x1) + 1) C dX8_lay_57 fl_X8_99 rfl (kRow hz2) (rS1 (kRow hz2)) ?_
        refine v_iload_n 60 C dX8_lay_60 rfl (lv_at hl 4 rfl) ?_
        refine v_iload_n 61 C dX8_lay_61 rfl (lv_at hl 5 rfl) ?_
        refine v_iast 62 C dX8_lay_62 (kS1 (kRow hz2)) rfl h (fun S h => ?_)
        refine v_aload_n 63 C dX8_lay_63 rfl (lv_at hl 2 rfl) ?_
        refine v_iload 64 C dX8_lay_64 (lv_at hl 0 rfl) ?_
        obtain ⟨v6, S, hc, h⟩ := zb_e h
        refine v_callVi 66 C (ci := 7) [] dX8_lay_66 ml_X8_102 hy_X8_tell (c_X8_tell  hc) (by decide) rfl hl.1 kC_0 rfl (Nat.le_of_ble_eq_true rfl) rfl ?_
        exact v_ireturn 69 C dX8_lay_69 h
      · refine v_aload_n 40 C dX8_lay_40 rfl (lv_at hl 1 rfl) ?_
        refine v_iconst 41 C (v := (2 : Int32)) dX8_lay_41 (by decide) ?_
        obtain ⟨v7, S, hc, h⟩ := zb_e h
        refine v_callVi 42 C (ci := 7) [] dX8_lay_42 ml_X8_84 hy_X8_refuse (c_X8_refuse  hc) (by decide) rfl hl.1 kC_0 rfl (Nat.le_of_ble_eq_true rfl) rfl ?_
        exact v_ireturn 45 C dX8_lay_45 h
    · refine v_aload_n 25 C dX8_lay_25 rfl (lv_at hl 1 rfl) ?_
      refine v_iconst 26 C (v := (1 : Int32)) dX8_lay_26 (by decide) ?_
      obtain ⟨v8, S, hc, h⟩ := zb_e h
      refine v_callVi 27 C (ci := 7) [] dX8_lay_27 ml_X8_84 hy_X8_refuse (c_X8_refuse  hc) (by decide) rfl hl.1 kC_0 rfl (Nat.le_of_ble_eq_true rfl) rfl ?_
      exact v_ireturn 30 C dX8_lay_30 h
  · refine v_iconst 7 C (v := (-1 : Int32)) dX8_lay_7 (by decide) ?_
    exact v_ireturn 8 C dX8_lay_8 h
theorem c_X8_lay {w : zWd} {l0 : Launch} {x1 : Int32} {x2 : Int32} {x3 : Int32} {S S1 : zMem} {r : Int32} (h : f_X8_lay x1 x2 x3 S = some (r, S1)) : zMet LC w l0 yX8_lay cX8_lay 6 (some .int) 3 [.ref (w.2.2.1 0), .int x1, .int x2, .int x3] S (some (.int r)) S1 :=
  zMet_of (by decide +kernel) (Nat.le_of_ble_eq_true rfl) (fun X ls C hl => w_X8_lay_b0 C hl h)
theorem dX8_at_0 : decode cX8_at 0 = .ok (.iload_n 1, 1) := by decide +kernel
theorem dX8_at_1 : decode cX8_at 1 = .ok (.invokestatic 80, 3) := by decide +kernel
theorem dX8_at_4 : decode cX8_at 4 = .ok (.ifCond .ne 5, 3) := by decide +kernel
theorem dX8_at_7 : decode cX8_at 7 = .ok (.iconst (-1), 1) := by decide +kernel
theorem dX8_at_8 : decode cX8_at 8 = .ok (.ireturn, 1) := by decide +kernel
theorem dX8_at_9 : decode cX8_at 9 = .ok (.aload_n 0, 1) := by decide +kernel
theorem dX8_at_10 : decode cX8_at 10 = .ok (.getfield 11, 3) := by decide +kernel
theorem dX8_at_13 : decode cX8_at 13 = .ok (.iload_n 1, 1) := by decide +kernel
theorem dX8_at_14 : decode cX8_at 14 = .ok (.aaload, 1) := by decide +kernel
theorem dX8_at_15 : decode cX8_at 15 = .ok (.astore_n 3, 1) := by decide +kernel
theorem dX8_at_16 : decode cX8_at 16 = .ok (.aload_n 3, 1) := by decide +kernel
theorem dX8_at_17 : decode cX8_at 17 = .ok (.invokevirtual 92, 3) := by decide +kernel
theorem dX8_at_20 : decode cX8_at 20 = .ok (.ifCond .ne 9, 3) := by decide +kernel
theorem dX8_at_23 : decode cX8_at 23 = .ok (.aload_n 0, 1) := by decide +kernel
theorem dX8_at_24 : decode cX8_at 24 = .ok (.iconst 1, 1) := by decide +kernel
theorem dX8_at_25 : decode cX8_at 25 = .ok (.invokevirtual 84, 3) := by decide +kernel
theorem dX8_at_28 : decode cX8_at 28 = .ok (.ireturn, 1) := by decide +kernel
theorem dX8_at_29 : decode cX8_at 29 = .ok (.aload_n 3, 1) := by decide +kernel
theorem dX8_at_30 : decode cX8_at 30 = .ok (.iload_n 2, 1) := by decide +kernel
theorem dX8_at_31 : decode cX8_at 31 = .ok (.invokevirtual 96, 3) := by decide +kernel
theorem dX8_at_34 : decode cX8_at 34 = .ok (.ifCond .ne 9, 3) := by decide +kernel
theorem dX8_at_37 : decode cX8_at 37 = .ok (.aload_n 0, 1) := by decide +kernel
theorem dX8_at_38 : decode cX8_at 38 = .ok (.iconst 2, 1) := by decide +kernel
theorem dX8_at_39 : decode cX8_at 39 = .ok (.invokevirtual 84, 3) := by decide +kernel
theorem dX8_at_42 : decode cX8_at 42 = .ok (.ireturn, 1) := by decide +kernel
theorem dX8_at_43 : decode cX8_at 43 = .ok (.aload_n 0, 1) := by decide +kernel
theorem dX8_at_44 : decode cX8_at 44 = .ok (.aload_n 3, 1) := by decide +kernel
theorem dX8_at_45 : decode cX8_at 45 = .ok (.getfield 99, 3) := by decide +kernel
theorem dX8_at_48 : decode cX8_at 48 = .ok (.iload_n 2, 1) := by decide +kernel
theorem dX8_at_49 : decode cX8_at 49 = .ok (.iaload, 1) := by decide +kernel
theorem dX8_at_50 : decode cX8_at 50 = .ok (.invokevirtual 102, 3) := by decide +kernel
theorem dX8_at_53 : decode cX8_at 53 = .ok (.ireturn, 1) := by decide +kernel
set_option maxRecDepth 20000 in
theorem w_X8_at_b0 {w : zWd} {X : zX} {l0 : Launch} {r : Int32} {S1 : zMem} (C : zC LC w X l0 cX8_at RX8 4 3 (some .int)) {x1 : Int32} {x2 : Int32} {S : zMem} {ls : Array Slot} (hl : lv_has ls 4 [(0, .ref (w.2.2.1 0)), (1, .int x1), (2, .int x2)]) (h : X8_at_b0 x1 x2 S = some (r, S1)) : zV LC w X (some (.int r)) S1 S 0 ls [] := by
  unfold X8_at_b0 at h
  refine v_iload_n 0 C dX8_at_0 rfl (lv_at hl 1 rfl) ?_
  obtain ⟨v1, S, hc, h⟩ := zb_e h
  refine v_callSi 1 C [] dX8_at_1 ml_X8_80 hy_X8_isRow (c_X8_isRow  hc) (by decide) rfl hl.1 (Nat.le_of_ble_eq_true rfl) rfl ?_
  refine v_if_ne 4 9 C dX8_at_4 (by decide) h (fun h => ?_) (fun h => ?_)
  · refine v_aload_n 9 C dX8_at_9 rfl (lv_at hl 0 rfl) ?_
    refine v_getr 10 (1) C dX8_at_10 fl_X8_11 rfl kC_0 rfl ?_
    refine v_iload_n 13 C dX8_at_13 rfl (lv_at hl 1 rfl) ?_
    refine v_aald 14 (4 + 2 * Int32.toNatClampNeg x1) C dX8_at_14 kC_1 (Or.inl rfl) rfl rfl h (fun hz2 h => ?_)
    refine v_astore_n 15 C [(3, .ref (w.2.2.1 (4 + 2 * Int32.toNatClampNeg x1))), (0, .ref (w.2.2.1 0)), (1, .int x1), (2, .int x2)] dX8_at_15 rfl hl (by decide) rfl (fun ls hl => ?_)
    refine v_aload_n 16 C dX8_at_16 rfl (lv_at hl 0 rfl) ?_
    obtain ⟨v3, S, hc, h⟩ := zb_e h
    refine v_callVi 17 C (ci := 6) [] dX8_at_17 ml_X8_92 hy_X7_isThere (c_X7_isThere (kRow hz2) hc) (by decide) rfl hl.1 (kRow hz2) rfl (Nat.le_of_ble_eq_true rfl) rfl ?_
    refine v_if_ne 20 29 C dX8_at_20 (by decide) h (fun h => ?_) (fun h => ?_)
    · refine v_aload_n 29 C dX8_at_29 rfl (lv_at hl 0 rfl) ?_
      refine v_iload_n 30 C dX8_at_30 rfl (lv_at hl 3 rfl) ?_
      obtain ⟨v4, S, hc, h⟩ := zb_e h
      refine v_callVi 31 C (ci := 6) [] dX8_at_31 ml_X8_96 hy_X7_has (c_X7_has (kRow hz2) hc) (by decide) rfl hl.1 (kRow hz2) rfl (Nat.le_of_ble_eq_true rfl) rfl ?_
      refine v_if_ne 34 43 C dX8_at_34 (by decide) h (fun h => ?_) (fun h => ?_)
      · refine v_aload_n 43 C dX8_at_43 rfl (lv_at hl 1 rfl) ?_
        refine v_aload_n 44 C dX8_at_44 rfl (lv_at hl 0 rfl) ?_
        refine v_getr 45 ((4 + 2 * Int32.toNatClampNeg x1) + 1) C dX8_at_45 fl_X8_99 rfl (kRow hz2) (rS1 (kRow hz2)) ?_
        refine v_iload_n 48 C dX8_at_48 rfl (lv_at hl 3 rfl) ?_
        refine v_iald 49 C dX8_at_49 (kS1 (kRow hz2)) rfl h (fun v5 h => ?_)
        obtain ⟨v6, S, hc, h⟩ := zb_e h
        refine v_callVi 50 C (ci := 7) [] dX8_at_50 ml_X8_102 hy_X8_tell (c_X8_tell  hc) (by decide) rfl hl.1 kC_0 rfl (Nat.le_of_ble_eq_true rfl) rfl ?_
        exact v_ireturn 53 C dX8_at_53 h
      · refine v_aload_n 37 C dX8_at_37 rfl (lv_at hl 1 rfl) ?_
        refine v_iconst 38 C (v := (2 : Int32)) dX8_at_38 (by decide) ?_
        obtain ⟨v7, S, hc, h⟩ := zb_e h
        refine v_callVi 39 C (ci := 7) [] dX8_at_39 ml_X8_84 hy_X8_refuse (c_X8_refuse  hc) (by decide) rfl hl.1 kC_0 rfl (Nat.le_of_ble_eq_true rfl) rfl ?_
        exact v_ireturn 42 C dX8_at_42 h
    · refine v_aload_n 23 C dX8_at_23 rfl (lv_at hl 1 rfl) ?_
      refine v_iconst 24 C (v := (1 : Int32)) dX8_at_24 (by decide) ?_
      obtain ⟨v8, S, hc, h⟩ := zb_e h
      refine v_callVi 25 C (ci := 7) [] dX8_at_25 ml_X8_84 hy_X8_refuse (c_X8_refuse  hc) (by decide) rfl hl.1 kC_0 rfl (Nat.le_of_ble_eq_true rfl) rfl ?_
      exact v_ireturn 28 C dX8_at_28 h
  · refine v_iconst 7 C (v := (-1 : Int32)) dX8_at_7 (by decide) ?_
    exact v_ireturn 8 C dX8_at_8 h
theorem c_X8_at {w : zWd} {l0 : Launch} {x1 : Int32} {x2 : Int32} {S S1 : zMem} {r : Int32} (h : f_X8_at x1 x2 S = some (r, S1)) : zMet LC w l0 yX8_at cX8_at 4 (some .int) 3 [.ref (w.2.2.1 0), .int x1, .int x2] S (some (.int r)) S1 :=
  zMet_of (by decide +kernel) (Nat.le_of_ble_eq_true rfl) (fun X ls C hl => w_X8_at_b0 C hl h)
theorem dX7_goMissing_0 : decode cX7_goMissing 0 = .ok (.aload_n 0, 1) := by decide +kernel
theorem dX7_goMissing_1 : decode cX7_goMissing 1 = .ok (.iconst (-1), 1) := by decide +kernel
theorem dX7_goMissing_2 : decode cX7_goMissing 2 = .ok (.putfield 9, 3) := by decide +kernel
theorem dX7_goMissing_5 : decode cX7_goMissing 5 = .ok (.return_, 1) := by decide +kernel
set_option maxRecDepth 20000 in
theorem w_X7_goMissing_b0 {w : zWd} {X : zX} {l0 : Launch} {r : Unit} {S1 : zMem} (C : zC LC w X l0 cX7_goMissing RX7 1 1 none) {c0 : Nat} {S : zMem} {ls : Array Slot} (hl : lv_has ls 1 [(0, .ref (w.2.2.1 c0))]) (hk_c0 : c0 < LC.1 ∧ LC.2.1 c0 = 9) (h : X7_goMissing_b0 c0 S = some (r, S1)) : zV LC w X none S1 S 0 ls [] := by
  unfold X7_goMissing_b0 at h
  refine v_aload_n 0 C dX7_goMissing_0 rfl (lv_at hl 0 rfl) ?_
  refine v_iconst 1 C (v := (-1 : Int32)) dX7_goMissing_1 (by decide) ?_
  refine v_puti 2 C dX7_goMissing_2 fl_X7_9 fp_6_1 rfl hk_c0 h (fun S h => ?_)
  exact v_return 5 C dX7_goMissing_5 h
theorem c_X7_goMissing {w : zWd} {l0 : Launch} {c0 : Nat} {S S1 : zMem} {r : Unit} (hk_c0 : c0 < LC.1 ∧ LC.2.1 c0 = 9) (h : f_X7_goMissing c0 S = some (r, S1)) : zMet LC w l0 yX7_goMissing cX7_goMissing 1 none 1 [.ref (w.2.2.1 c0)] S none S1 :=
  zMet_of (by decide +kernel) (Nat.le_of_ble_eq_true rfl) (fun X ls C hl => w_X7_goMissing_b0 C hl hk_c0 h)
theorem ml_X8_105 : Cond.methodLink RX8 105 yX7_goMissing ∈ zT := zT_of (List.mem_of_getElem? (i := 405) (by decide +kernel)) rfl
theorem hy_X7_goMissing : zYv yX7_goMissing cX7_goMissing 1 none 0 := ⟨⟨zT_of (List.mem_of_getElem? (i := 408) (by decide +kernel)) rfl, zT_of (List.mem_of_getElem? (i := 77) (by decide +kernel)) rfl, by decide, by decide +kernel, by decide +kernel, by decide +kernel⟩, zT_of (List.mem_of_getElem? (i := 406) (by decide +kernel)) rfl, zT_of (List.mem_of_getElem? (i := 407) (by decide +kernel)) rfl⟩
theorem dX8_tear_0 : decode cX8_tear 0 = .ok (.iload_n 1, 1) := by decide +kernel
theorem dX8_tear_1 : decode cX8_tear 1 = .ok (.invokestatic 80, 3) := by decide +kernel
theorem dX8_tear_4 : decode cX8_tear 4 = .ok (.ifCond .ne 5, 3) := by decide +kernel
theorem dX8_tear_7 : decode cX8_tear 7 = .ok (.iconst (-1), 1) := by decide +kernel
theorem dX8_tear_8 : decode cX8_tear 8 = .ok (.ireturn, 1) := by decide +kernel
theorem dX8_tear_9 : decode cX8_tear 9 = .ok (.aload_n 0, 1) := by decide +kernel
theorem dX8_tear_10 : decode cX8_tear 10 = .ok (.getfield 11, 3) := by decide +kernel
theorem dX8_tear_13 : decode cX8_tear 13 = .ok (.iload_n 1, 1) := by decide +kernel
theorem dX8_tear_14 : decode cX8_tear 14 = .ok (.aaload, 1) := by decide +kernel
theorem dX8_tear_15 : decode cX8_tear 15 = .ok (.invokevirtual 92, 3) := by decide +kernel
theorem dX8_tear_18 : decode cX8_tear 18 = .ok (.ifCond .ne 9, 3) := by decide +kernel
theorem dX8_tear_21 : decode cX8_tear 21 = .ok (.aload_n 0, 1) := by decide +kernel
theorem dX8_tear_22 : decode cX8_tear 22 = .ok (.iconst 1, 1) := by decide +kernel
theorem dX8_tear_23 : decode cX8_tear 23 = .ok (.invokevirtual 84, 3) := by decide +kernel
theorem dX8_tear_26 : decode cX8_tear 26 = .ok (.ireturn, 1) := by decide +kernel
theorem dX8_tear_27 : decode cX8_tear 27 = .ok (.aload_n 0, 1) := by decide +kernel
theorem dX8_tear_28 : decode cX8_tear 28 = .ok (.getfield 11, 3) := by decide +kernel
theorem dX8_tear_31 : decode cX8_tear 31 = .ok (.iload_n 1, 1) := by decide +kernel
theorem dX8_tear_32 : decode cX8_tear 32 = .ok (.aaload, 1) := by decide +kernel
theorem dX8_tear_33 : decode cX8_tear 33 = .ok (.invokevirtual 105, 3) := by decide +kernel
theorem dX8_tear_36 : decode cX8_tear 36 = .ok (.iconst 1, 1) := by decide +kernel
theorem dX8_tear_37 : decode cX8_tear 37 = .ok (.ireturn, 1) := by decide +kernel
set_option maxRecDepth 20000 in
theorem w_X8_tear_b0 {w : zWd} {X : zX} {l0 : Launch} {r : Int32} {S1 : zMem} (C : zC LC w X l0 cX8_tear RX8 2 3 (some .int)) {x1 : Int32} {S : zMem} {ls : Array Slot} (hl : lv_has ls 2 [(0, .ref (w.2.2.1 0)), (1, .int x1)]) (h : X8_tear_b0 x1 S = some (r, S1)) : zV LC w X (some (.int r)) S1 S 0 ls [] := by
  unfold X8_tear_b0 at h
  refine v_iload_n 0 C dX8_tear_0 rfl (lv_at hl 1 rfl) ?_
  obtain ⟨v1, S, hc, h⟩ := zb_e h
  refine v_callSi 1 C [] dX8_tear_1 ml_X8_80 hy_X8_isRow (c_X8_isRow  hc) (by decide) rfl hl.1 (Nat.le_of_ble_eq_true rfl) rfl ?_
  refine v_if_ne 4 9 C dX8_tear_4 (by decide) h (fun h => ?_) (fun h => ?_)
  · refine v_aload_n 9 C dX8_tear_9 rfl (lv_at hl 0 rfl) ?_
    refine v_getr 10 (1) C dX8_tear_10 fl_X8_11 rfl kC_0 rfl ?_
    refine v_iload_n 13 C dX8_tear_13 rfl (lv_at hl 1 rfl) ?_
    refine v_aald 14 (4 + 2 * Int32.toNatClampNeg x1) C dX8_tear_14 kC_1 (Or.inl rfl) rfl rfl h (fun hz2 h => ?_)
    obtain ⟨v3, S, hc, h⟩ := zb_e h
    refine v_callVi 15 C (ci := 6) [] dX8_tear_15 ml_X8_92 hy_X7_isThere (c_X7_isThere (kRow hz2) hc) (by decide) rfl hl.1 (kRow hz2) rfl (Nat.le_of_ble_eq_true rfl) rfl ?_
    refine v_if_ne 18 27 C dX8_tear_18 (by decide) h (fun h => ?_) (fun h => ?_)
    · refine v_aload_n 27 C dX8_tear_27 rfl (lv_at hl 0 rfl) ?_
      refine v_getr 28 (1) C dX8_tear_28 fl_X8_11 rfl kC_0 rfl ?_
      refine v_iload_n 31 C dX8_tear_31 rfl (lv_at hl 1 rfl) ?_
      refine v_aald 32 (4 + 2 * Int32.toNatClampNeg x1) C dX8_tear_32 kC_1 (Or.inl rfl) rfl rfl h (fun hz4 h => ?_)
      obtain ⟨v5, S, hc, h⟩ := zb_e h
      refine v_callVv 33 C (ci := 6) [] dX8_tear_33 ml_X8_105 hy_X7_goMissing (c_X7_goMissing (kRow hz4) hc) (by decide) rfl hl.1 (kRow hz4) rfl (Nat.le_of_ble_eq_true rfl) rfl ?_
      refine v_iconst 36 C (v := (1 : Int32)) dX8_tear_36 (by decide) ?_
      exact v_ireturn 37 C dX8_tear_37 h
    · refine v_aload_n 21 C dX8_tear_21 rfl (lv_at hl 0 rfl) ?_
      refine v_iconst 22 C (v := (1 : Int32)) dX8_tear_22 (by decide) ?_
      obtain ⟨v6, S, hc, h⟩ := zb_e h
      refine v_callVi 23 C (ci := 7) [] dX8_tear_23 ml_X8_84 hy_X8_refuse (c_X8_refuse  hc) (by decide) rfl hl.1 kC_0 rfl (Nat.le_of_ble_eq_true rfl) rfl ?_
      exact v_ireturn 26 C dX8_tear_26 h
  · refine v_iconst 7 C (v := (-1 : Int32)) dX8_tear_7 (by decide) ?_
    exact v_ireturn 8 C dX8_tear_8 h
theorem c_X8_tear {w : zWd} {l0 : Launch} {x1 : Int32} {S S1 : zMem} {r : Int32} (h : f_X8_tear x1 S = some (r, S1)) : zMet LC w l0 yX8_tear cX8_tear 2 (some .int) 3 [.ref (w.2.2.1 0), .int x1] S (some (.int r)) S1 :=
  zMet_of (by decide +kernel) (Nat.le_of_ble_eq_true rfl) (fun X ls C hl => w_X8_tear_b0 C hl h)
theorem dX7_hasSpan_0 : decode cX7_hasSpan 0 = .ok (.iload_n 1, 1) := by decide +kernel
theorem dX7_hasSpan_1 : decode cX7_hasSpan 1 = .ok (.ifCond .lt 29, 3) := by decide +kernel
theorem dX7_hasSpan_4 : decode cX7_hasSpan 4 = .ok (.iload_n 1, 1) := by decide +kernel
theorem dX7_hasSpan_5 : decode cX7_hasSpan 5 = .ok (.aload_n 0, 1) := by decide +kernel
theorem dX7_hasSpan_6 : decode cX7_hasSpan 6 = .ok (.getfield 9, 3) := by decide +kernel
theorem dX7_hasSpan_9 : decode cX7_hasSpan 9 = .ok (.if_icmp .gt 21, 3) := by decide +kernel
theorem dX7_hasSpan_12 : decode cX7_hasSpan 12 = .ok (.iload_n 2, 1) := by decide +kernel
theorem dX7_hasSpan_13 : decode cX7_hasSpan 13 = .ok (.ifCond .lt 17, 3) := by decide +kernel
theorem dX7_hasSpan_16 : decode cX7_hasSpan 16 = .ok (.iload_n 2, 1) := by decide +kernel
theorem dX7_hasSpan_17 : decode cX7_hasSpan 17 = .ok (.aload_n 0, 1) := by decide +kernel
theorem dX7_hasSpan_18 : decode cX7_hasSpan 18 = .ok (.getfield 9, 3) := by decide +kernel
theorem dX7_hasSpan_21 : decode cX7_hasSpan 21 = .ok (.iload_n 1, 1) := by decide +kernel
theorem dX7_hasSpan_22 : decode cX7_hasSpan 22 = .ok (.isub, 1) := by decide +kernel
theorem dX7_hasSpan_23 : decode cX7_hasSpan 23 = .ok (.if_icmp .gt 7, 3) := by decide +kernel
theorem dX7_hasSpan_26 : decode cX7_hasSpan 26 = .ok (.iconst 1, 1) := by decide +kernel
theorem dX7_hasSpan_27 : decode cX7_hasSpan 27 = .ok (.goto 4, 3) := by decide +kernel
theorem dX7_hasSpan_30 : decode cX7_hasSpan 30 = .ok (.iconst 0, 1) := by decide +kernel
theorem dX7_hasSpan_31 : decode cX7_hasSpan 31 = .ok (.ireturn, 1) := by decide +kernel
set_option maxRecDepth 20000 in
theorem w_X7_hasSpan_b31 {w : zWd} {X : zX} {l0 : Launch} {r : Int32} {S1 : zMem} (C : zC LC w X l0 cX7_hasSpan RX7 3 1 (some .boolean)) {s0 : Int32} {S : zMem} {ls : Array Slot} (hl : lv_has ls 3 []) (h : X7_hasSpan_b31 s0 S = some (r, S1)) : zV LC w X (some (.int r)) S1 S 31 ls [.int s0] := by
  unfold X7_hasSpan_b31 at h
  exact v_zreturn 31 C dX7_hasSpan_31 h
set_option maxRecDepth 20000 in
theorem w_X7_hasSpan_b30 {w : zWd} {X : zX} {l0 : Launch} {r : Int32} {S1 : zMem} (C : zC LC w X l0 cX7_hasSpan RX7 3 1 (some .boolean)) {S : zMem} {ls : Array Slot} (hl : lv_has ls 3 []) (h : X7_hasSpan_b30  S = some (r, S1)) : zV LC w X (some (.int r)) S1 S 30 ls [] := by
  unfold X7_hasSpan_b30 at h
  refine v_iconst 30 C (v := (0 : Int32)) dX7_hasSpan_30 (by decide) ?_
  exact w_X7_hasSpan_b31 C (lv_sub hl [] rfl) h
set_option maxRecDepth 20000 in
theorem w_X7_hasSpan_b0 {w : zWd} {X : zX} {l0 : Launch} {r : Int32} {S1 : zMem} (C : zC LC w X l0 cX7_hasSpan RX7 3 1 (some .boolean)) {c0 : Nat} {x1 : Int32} {x2 : Int32} {S : zMem} {ls : Array Slot} (hl : lv_has ls 3 [(0, .ref (w.2.2.1 c0)), (1, .int x1), (2, .int x2)]) (hk_c0 : c0 < LC.1 ∧ LC.2.1 c0 = 9) (h : X7_hasSpan_b0 c0 x1 x2 S = some (r, S1)) : zV LC w X (some (.int r)) S1 S 0 ls [] := by
  unfold X7_hasSpan_b0 at h
  refine v_iload_n 0 C dX7_hasSpan_0 rfl (lv_at hl 1 rfl) ?_
  refine v_if_lt 1 30 C dX7_hasSpan_1 (by decide) h (fun h => ?_) (fun h => ?_)
  · exact w_X7_hasSpan_b30 C (lv_sub hl [] rfl) h
  · refine v_iload_n 4 C dX7_hasSpan_4 rfl (lv_at hl 1 rfl) ?_
    refine v_aload_n 5 C dX7_hasSpan_5 rfl (lv_at hl 0 rfl) ?_
    refine v_geti 6 C dX7_hasSpan_6 fl_X7_9 rfl hk_c0 h (fun v1 h => ?_)
    refine v_icmp_gt 9 30 C dX7_hasSpan_9 (by decide) h (fun h => ?_) (fun h => ?_)
    · exact w_X7_hasSpan_b30 C (lv_sub hl [] rfl) h
    · refine v_iload_n 12 C dX7_hasSpan_12 rfl (lv_at hl 2 rfl) ?_
      refine v_if_lt 13 30 C dX7_hasSpan_13 (by decide) h (fun h => ?_) (fun h => ?_)
      · exact w_X7_hasSpan_b30 C (lv_sub hl [] rfl) h
      · refine v_iload_n 16 C dX7_hasSpan_16 rfl (lv_at hl 2 rfl) ?_
        refine v_aload_n 17 C dX7_hasSpan_17 rfl (lv_at hl 0 rfl) ?_
        refine v_geti 18 C dX7_hasSpan_18 fl_X7_9 rfl hk_c0 h (fun v2 h => ?_)
        refine v_iload_n 21 C dX7_hasSpan_21 rfl (lv_at hl 1 rfl) ?_
        refine v_isub 22 C dX7_hasSpan_22 h (fun v3 h => ?_)
        refine v_icmp_gt 23 30 C dX7_hasSpan_23 (by decide) h (fun h => ?_) (fun h => ?_)
        · exact w_X7_hasSpan_b30 C (lv_sub hl [] rfl) h
        · refine v_iconst 26 C (v := (1 : Int32)) dX7_hasSpan_26 (by decide) ?_
          refine v_goto 27 31 C dX7_hasSpan_27 (by decide) ?_
          exact w_X7_hasSpan_b31 C (lv_sub hl [] rfl) h
theorem c_X7_hasSpan {w : zWd} {l0 : Launch} {c0 : Nat} {x1 : Int32} {x2 : Int32} {S S1 : zMem} {r : Int32} (hk_c0 : c0 < LC.1 ∧ LC.2.1 c0 = 9) (h : f_X7_hasSpan c0 x1 x2 S = some (r, S1)) : zMet LC w l0 yX7_hasSpan cX7_hasSpan 3 (some .boolean) 1 [.ref (w.2.2.1 c0), .int x1, .int x2] S (some (.int r)) S1 :=
  zMet_of (by decide +kernel) (Nat.le_of_ble_eq_true rfl) (fun X ls C hl => w_X7_hasSpan_b0 C hl hk_c0 h)
theorem ml_X8_108 : Cond.methodLink RX8 108 yX7_hasSpan ∈ zT := zT_of (List.mem_of_getElem? (i := 413) (by decide +kernel)) rfl
theorem hy_X7_hasSpan : zYv yX7_hasSpan cX7_hasSpan 3 (some .boolean) 2 := ⟨⟨zT_of (List.mem_of_getElem? (i := 416) (by decide +kernel)) rfl, zT_of (List.mem_of_getElem? (i := 77) (by decide +kernel)) rfl, by decide, by decide +kernel, by decide +kernel, by decide +kernel⟩, zT_of (List.mem_of_getElem? (i := 414) (by decide +kernel)) rfl, zT_of (List.mem_of_getElem? (i := 415) (by decide +kernel)) rfl⟩
theorem ml_X8_112 : Cond.methodLink RX8 112 arraycopyName ∈ zT := zT_of (List.mem_of_getElem? (i := 417) (by decide +kernel)) rfl
theorem dX8_copy_0 : decode cX8_copy 0 = .ok (.iload_n 1, 1) := by decide +kernel
theorem dX8_copy_1 : decode cX8_copy 1 = .ok (.invokestatic 80, 3) := by decide +kernel
theorem dX8_copy_4 : decode cX8_copy 4 = .ok (.ifCond .eq 10, 3) := by decide +kernel
theorem dX8_copy_7 : decode cX8_copy 7 = .ok (.iload_n 3, 1) := by decide +kernel
theorem dX8_copy_8 : decode cX8_copy 8 = .ok (.invokestatic 80, 3) := by decide +kernel
theorem dX8_copy_11 : decode cX8_copy 11 = .ok (.ifCond .ne 5, 3) := by decide +kernel
theorem dX8_copy_14 : decode cX8_copy 14 = .ok (.iconst (-1), 1) := by decide +kernel
theorem dX8_copy_15 : decode cX8_copy 15 = .ok (.ireturn, 1) := by decide +kernel
theorem dX8_copy_16 : decode cX8_copy 16 = .ok (.iload 5, 2) := by decide +kernel
theorem dX8_copy_18 : decode cX8_copy 18 = .ok (.ifCond .ge 9, 3) := by decide +kernel
theorem dX8_copy_21 : decode cX8_copy 21 = .ok (.aload_n 0, 1) := by decide +kernel
theorem dX8_copy_22 : decode cX8_copy 22 = .ok (.iconst 5, 1) := by decide +kernel
theorem dX8_copy_23 : decode cX8_copy 23 = .ok (.invokevirtual 84, 3) := by decide +kernel
theorem dX8_copy_26 : decode cX8_copy 26 = .ok (.ireturn, 1) := by decide +kernel
theorem dX8_copy_27 : decode cX8_copy 27 = .ok (.aload_n 0, 1) := by decide +kernel
theorem dX8_copy_28 : decode cX8_copy 28 = .ok (.getfield 11, 3) := by decide +kernel
theorem dX8_copy_31 : decode cX8_copy 31 = .ok (.iload_n 1, 1) := by decide +kernel
theorem dX8_copy_32 : decode cX8_copy 32 = .ok (.aaload, 1) := by decide +kernel
theorem dX8_copy_33 : decode cX8_copy 33 = .ok (.astore 6, 2) := by decide +kernel
theorem dX8_copy_35 : decode cX8_copy 35 = .ok (.aload_n 0, 1) := by decide +kernel
theorem dX8_copy_36 : decode cX8_copy 36 = .ok (.getfield 11, 3) := by decide +kernel
theorem dX8_copy_39 : decode cX8_copy 39 = .ok (.iload_n 3, 1) := by decide +kernel
theorem dX8_copy_40 : decode cX8_copy 40 = .ok (.aaload, 1) := by decide +kernel
theorem dX8_copy_41 : decode cX8_copy 41 = .ok (.astore 7, 2) := by decide +kernel
theorem dX8_copy_43 : decode cX8_copy 43 = .ok (.aload 6, 2) := by decide +kernel
theorem dX8_copy_45 : decode cX8_copy 45 = .ok (.invokevirtual 92, 3) := by decide +kernel
theorem dX8_copy_48 : decode cX8_copy 48 = .ok (.ifCond .eq 11, 3) := by decide +kernel
theorem dX8_copy_51 : decode cX8_copy 51 = .ok (.aload 7, 2) := by decide +kernel
theorem dX8_copy_53 : decode cX8_copy 53 = .ok (.invokevirtual 92, 3) := by decide +kernel
theorem dX8_copy_56 : decode cX8_copy 56 = .ok (.ifCond .ne 9, 3) := by decide +kernel
theorem dX8_copy_59 : decode cX8_copy 59 = .ok (.aload_n 0, 1) := by decide +kernel
theorem dX8_copy_60 : decode cX8_copy 60 = .ok (.iconst 1, 1) := by decide +kernel
theorem dX8_copy_61 : decode cX8_copy 61 = .ok (.invokevirtual 84, 3) := by decide +kernel
theorem dX8_copy_64 : decode cX8_copy 64 = .ok (.ireturn, 1) := by decide +kernel
theorem dX8_copy_65 : decode cX8_copy 65 = .ok (.aload 6, 2) := by decide +kernel
theorem dX8_copy_67 : decode cX8_copy 67 = .ok (.iload_n 2, 1) := by decide +kernel
theorem dX8_copy_68 : decode cX8_copy 68 = .ok (.iload 5, 2) := by decide +kernel
theorem dX8_copy_70 : decode cX8_copy 70 = .ok (.invokevirtual 108, 3) := by decide +kernel
theorem dX8_copy_73 : decode cX8_copy 73 = .ok (.ifCond .eq 15, 3) := by decide +kernel
theorem dX8_copy_76 : decode cX8_copy 76 = .ok (.aload 7, 2) := by decide +kernel
theorem dX8_copy_78 : decode cX8_copy 78 = .ok (.iload 4, 2) := by decide +kernel
theorem dX8_copy_80 : decode cX8_copy 80 = .ok (.iload 5, 2) := by decide +kernel
theorem dX8_copy_82 : decode cX8_copy 82 = .ok (.invokevirtual 108, 3) := by decide +kernel
theorem dX8_copy_85 : decode cX8_copy 85 = .ok (.ifCond .ne 9, 3) := by decide +kernel
theorem dX8_copy_88 : decode cX8_copy 88 = .ok (.aload_n 0, 1) := by decide +kernel
theorem dX8_copy_89 : decode cX8_copy 89 = .ok (.iconst 2, 1) := by decide +kernel
theorem dX8_copy_90 : decode cX8_copy 90 = .ok (.invokevirtual 84, 3) := by decide +kernel
theorem dX8_copy_93 : decode cX8_copy 93 = .ok (.ireturn, 1) := by decide +kernel
theorem dX8_copy_94 : decode cX8_copy 94 = .ok (.aload 6, 2) := by decide +kernel
theorem dX8_copy_96 : decode cX8_copy 96 = .ok (.getfield 99, 3) := by decide +kernel
theorem dX8_copy_99 : decode cX8_copy 99 = .ok (.iload_n 2, 1) := by decide +kernel
theorem dX8_copy_100 : decode cX8_copy 100 = .ok (.aload 7, 2) := by decide +kernel
theorem dX8_copy_102 : decode cX8_copy 102 = .ok (.getfield 99, 3) := by decide +kernel
theorem dX8_copy_105 : decode cX8_copy 105 = .ok (.iload 4, 2) := by decide +kernel
theorem dX8_copy_107 : decode cX8_copy 107 = .ok (.iload 5, 2) := by decide +kernel
theorem dX8_copy_109 : decode cX8_copy 109 = .ok (.invokestatic 112, 3) := by decide +kernel
theorem dX8_copy_112 : decode cX8_copy 112 = .ok (.iconst 1, 1) := by decide +kernel
theorem dX8_copy_113 : decode cX8_copy 113 = .ok (.ireturn, 1) := by decide +kernel
set_option maxRecDepth 20000 in
theorem w_X8_copy_b14 {w : zWd} {X : zX} {l0 : Launch} {r : Int32} {S1 : zMem} (C : zC LC w X l0 cX8_copy RX8 8 3 (some .int)) {S : zMem} {ls : Array Slot} (hl : lv_has ls 8 []) (h : X8_copy_b14  S = some (r, S1)) : zV LC w X (some (.int r)) S1 S 14 ls [] := by
  unfold X8_copy_b14 at h
  refine v_iconst 14 C (v := (-1 : Int32)) dX8_copy_14 (by decide) ?_
  exact v_ireturn 15 C dX8_copy_15 h
set_option maxRecDepth 20000 in
theorem w_X8_copy_b59 {w : zWd} {X : zX} {l0 : Launch} {r : Int32} {S1 : zMem} (C : zC LC w X l0 cX8_copy RX8 8 3 (some .int)) {S : zMem} {ls : Array Slot} (hl : lv_has ls 8 [(0, .ref (w.2.2.1 0))]) (h : X8_copy_b59  S = some (r, S1)) : zV LC w X (some (.int r)) S1 S 59 ls [] := by
  unfold X8_copy_b59 at h
  refine v_aload_n 59 C dX8_copy_59 rfl (lv_at hl 0 rfl) ?_
  refine v_iconst 60 C (v := (1 : Int32)) dX8_copy_60 (by decide) ?_
  obtain ⟨v1, S, hc, h⟩ := zb_e h
  refine v_callVi 61 C (ci := 7) [] dX8_copy_61 ml_X8_84 hy_X8_refuse (c_X8_refuse  hc) (by decide) rfl hl.1 kC_0 rfl (Nat.le_of_ble_eq_true rfl) rfl ?_
  exact v_ireturn 64 C dX8_copy_64 h
set_option maxRecDepth 20000 in
theorem w_X8_copy_b88 {w : zWd} {X : zX} {l0 : Launch} {r : Int32} {S1 : zMem} (C : zC LC w X l0 cX8_copy RX8 8 3 (some .int)) {S : zMem} {ls : Array Slot} (hl : lv_has ls 8 [(0, .ref (w.2.2.1 0))]) (h : X8_copy_b88  S = some (r, S1)) : zV LC w X (some (.int r)) S1 S 88 ls [] := by
  unfold X8_copy_b88 at h
  refine v_aload_n 88 C dX8_copy_88 rfl (lv_at hl 0 rfl) ?_
  refine v_iconst 89 C (v := (2 : Int32)) dX8_copy_89 (by decide) ?_
  obtain ⟨v1, S, hc, h⟩ := zb_e h
  refine v_callVi 90 C (ci := 7) [] dX8_copy_90 ml_X8_84 hy_X8_refuse (c_X8_refuse  hc) (by decide) rfl hl.1 kC_0 rfl (Nat.le_of_ble_eq_true rfl) rfl ?_
  exact v_ireturn 93 C dX8_copy_93 h
set_option maxRecDepth 20000 in
theorem w_X8_copy_b0 {w : zWd} {X : zX} {l0 : Launch} {r : Int32} {S1 : zMem} (C : zC LC w X l0 cX8_copy RX8 8 3 (some .int)) {x1 : Int32} {x2 : Int32} {x3 : Int32} {x4 : Int32} {x5 : Int32} {S : zMem} {ls : Array Slot} (hl : lv_has ls 8 [(0, .ref (w.2.2.1 0)), (1, .int x1), (2, .int x2), (3, .int x3), (4, .int x4), (5, .int x5)]) (h : X8_copy_b0 x1 x2 x3 x4 x5 S = some (r, S1)) : zV LC w X (some (.int r)) S1 S 0 ls [] := by
  unfold X8_copy_b0 at h
  refine v_iload_n 0 C dX8_copy_0 rfl (lv_at hl 1 rfl) ?_
  obtain ⟨v1, S, hc, h⟩ := zb_e h
  refine v_callSi 1 C [] dX8_copy_1 ml_X8_80 hy_X8_isRow (c_X8_isRow  hc) (by decide) rfl hl.1 (Nat.le_of_ble_eq_true rfl) rfl ?_
  refine v_if_eq 4 14 C dX8_copy_4 (by decide) h (fun h => ?_) (fun h => ?_)
  · exact w_X8_copy_b14 C (lv_sub hl [] rfl) h
  · refine v_iload_n 7 C dX8_copy_7 rfl (lv_at hl 3 rfl) ?_
    obtain ⟨v2, S, hc, h⟩ := zb_e h
    refine v_callSi 8 C [] dX8_copy_8 ml_X8_80 hy_X8_isRow (c_X8_isRow  hc) (by decide) rfl hl.1 (Nat.le_of_ble_eq_true rfl) rfl ?_
    refine v_if_ne 11 16 C dX8_copy_11 (by decide) h (fun h => ?_) (fun h => ?_)
    · refine v_iload 16 C dX8_copy_16 (lv_at hl 5 rfl) ?_
      refine v_if_ge 18 27 C dX8_copy_18 (by decide) h (fun h => ?_) (fun h => ?_)
      · refine v_aload_n 27 C dX8_copy_27 rfl (lv_at hl 0 rfl) ?_
        refine v_getr 28 (1) C dX8_copy_28 fl_X8_11 rfl kC_0 rfl ?_
        refine v_iload_n 31 C dX8_copy_31 rfl (lv_at hl 1 rfl) ?_
        refine v_aald 32 (4 + 2 * Int32.toNatClampNeg x1) C dX8_copy_32 kC_1 (Or.inl rfl) rfl rfl h (fun hz3 h => ?_)
        refine v_astore 33 C [(6, .ref (w.2.2.1 (4 + 2 * Int32.toNatClampNeg x1))), (0, .ref (w.2.2.1 0)), (1, .int x1), (2, .int x2), (3, .int x3), (4, .int x4), (5, .int x5)] dX8_copy_33 hl (by decide) rfl (fun ls hl => ?_)
        refine v_aload_n 35 C dX8_copy_35 rfl (lv_at hl 1 rfl) ?_
        refine v_getr 36 (1) C dX8_copy_36 fl_X8_11 rfl kC_0 rfl ?_
        refine v_iload_n 39 C dX8_copy_39 rfl (lv_at hl 4 rfl) ?_
        refine v_aald 40 (4 + 2 * Int32.toNatClampNeg x3) C dX8_copy_40 kC_1 (Or.inl rfl) rfl rfl h (fun hz4 h => ?_)
        refine v_astore 41 C [(7, .ref (w.2.2.1 (4 + 2 * Int32.toNatClampNeg x3))), (6, .ref (w.2.2.1 (4 + 2 * Int32.toNatClampNeg x1))), (0, .ref (w.2.2.1 0)), (1, .int x1), (2, .int x2), (3, .int x3), (4, .int x4), (5, .int x5)] dX8_copy_41 hl (by decide) rfl (fun ls hl => ?_)
        refine v_aload 43 C dX8_copy_43 (lv_at hl 1 rfl) ?_
        obtain ⟨v5, S, hc, h⟩ := zb_e h
        refine v_callVi 45 C (ci := 6) [] dX8_copy_45 ml_X8_92 hy_X7_isThere (c_X7_isThere (kRow hz3) hc) (by decide) rfl hl.1 (kRow hz3) rfl (Nat.le_of_ble_eq_true rfl) rfl ?_
        refine v_if_eq 48 59 C dX8_copy_48 (by decide) h (fun h => ?_) (fun h => ?_)
        · exact w_X8_copy_b59 C (lv_sub hl [2] rfl) h
        · refine v_aload 51 C dX8_copy_51 (lv_at hl 0 rfl) ?_
          obtain ⟨v6, S, hc, h⟩ := zb_e h
          refine v_callVi 53 C (ci := 6) [] dX8_copy_53 ml_X8_92 hy_X7_isThere (c_X7_isThere (kRow hz4) hc) (by decide) rfl hl.1 (kRow hz4) rfl (Nat.le_of_ble_eq_true rfl) rfl ?_
          refine v_if_ne 56 65 C dX8_copy_56 (by decide) h (fun h => ?_) (fun h => ?_)
          · refine v_aload 65 C dX8_copy_65 (lv_at hl 1 rfl) ?_
            refine v_iload_n 67 C dX8_copy_67 rfl (lv_at hl 4 rfl) ?_
            refine v_iload 68 C dX8_copy_68 (lv_at hl 7 rfl) ?_
            obtain ⟨v7, S, hc, h⟩ := zb_e h
            refine v_callVi 70 C (ci := 6) [] dX8_copy_70 ml_X8_108 hy_X7_hasSpan (c_X7_hasSpan (kRow hz3) hc) (by decide) rfl hl.1 (kRow hz3) rfl (Nat.le_of_ble_eq_true rfl) rfl ?_
            refine v_if_eq 73 88 C dX8_copy_73 (by decide) h (fun h => ?_) (fun h => ?_)
            · exact w_X8_copy_b88 C (lv_sub hl [2] rfl) h
            · refine v_aload 76 C dX8_copy_76 (lv_at hl 0 rfl) ?_
              refine v_iload 78 C dX8_copy_78 (lv_at hl 6 rfl) ?_
              refine v_iload 80 C dX8_copy_80 (lv_at hl 7 rfl) ?_
              obtain ⟨v8, S, hc, h⟩ := zb_e h
              refine v_callVi 82 C (ci := 6) [] dX8_copy_82 ml_X8_108 hy_X7_hasSpan (c_X7_hasSpan (kRow hz4) hc) (by decide) rfl hl.1 (kRow hz4) rfl (Nat.le_of_ble_eq_true rfl) rfl ?_
              refine v_if_ne 85 94 C dX8_copy_85 (by decide) h (fun h => ?_) (fun h => ?_)
              · refine v_aload 94 C dX8_copy_94 (lv_at hl 1 rfl) ?_
                refine v_getr 96 ((4 + 2 * Int32.toNatClampNeg x1) + 1) C dX8_copy_96 fl_X8_99 rfl (kRow hz3) (rS1 (kRow hz3)) ?_
                refine v_iload_n 99 C dX8_copy_99 rfl (lv_at hl 4 rfl) ?_
                refine v_aload 100 C dX8_copy_100 (lv_at hl 0 rfl) ?_
                refine v_getr 102 ((4 + 2 * Int32.toNatClampNeg x3) + 1) C dX8_copy_102 fl_X8_99 rfl (kRow hz4) (rS1 (kRow hz4)) ?_
                refine v_iload 105 C dX8_copy_105 (lv_at hl 6 rfl) ?_
                refine v_iload 107 C dX8_copy_107 (lv_at hl 7 rfl) ?_
                refine v_copy 109 C dX8_copy_109 ml_X8_112 hl.1 (by decide) (Nat.le_of_ble_eq_true rfl) (kS1 (kRow hz3)) (kS1 (kRow hz4)) rfl rfl h (fun S h => ?_)
                refine v_iconst 112 C (v := (1 : Int32)) dX8_copy_112 (by decide) ?_
                exact v_ireturn 113 C dX8_copy_113 h
              · exact w_X8_copy_b88 C (lv_sub hl [2] rfl) h
          · exact w_X8_copy_b59 C (lv_sub hl [2] rfl) h
      · refine v_aload_n 21 C dX8_copy_21 rfl (lv_at hl 0 rfl) ?_
        refine v_iconst 22 C (v := (5 : Int32)) dX8_copy_22 (by decide) ?_
        obtain ⟨v9, S, hc, h⟩ := zb_e h
        refine v_callVi 23 C (ci := 7) [] dX8_copy_23 ml_X8_84 hy_X8_refuse (c_X8_refuse  hc) (by decide) rfl hl.1 kC_0 rfl (Nat.le_of_ble_eq_true rfl) rfl ?_
        exact v_ireturn 26 C dX8_copy_26 h
    · exact w_X8_copy_b14 C (lv_sub hl [] rfl) h
theorem c_X8_copy {w : zWd} {l0 : Launch} {x1 : Int32} {x2 : Int32} {x3 : Int32} {x4 : Int32} {x5 : Int32} {S S1 : zMem} {r : Int32} (h : f_X8_copy x1 x2 x3 x4 x5 S = some (r, S1)) : zMet LC w l0 yX8_copy cX8_copy 8 (some .int) 3 [.ref (w.2.2.1 0), .int x1, .int x2, .int x3, .int x4, .int x5] S (some (.int r)) S1 :=
  zMet_of (by decide +kernel) (Nat.le_of_ble_eq_true rfl) (fun X ls C hl => w_X8_copy_b0 C hl h)
theorem dX7_sum_0 : decode cX7_sum 0 = .ok (.lconst 0, 1) := by decide +kernel
theorem dX7_sum_1 : decode cX7_sum 1 = .ok (.lstore_n 1, 1) := by decide +kernel
theorem dX7_sum_2 : decode cX7_sum 2 = .ok (.iconst 0, 1) := by decide +kernel
theorem dX7_sum_3 : decode cX7_sum 3 = .ok (.istore_n 3, 1) := by decide +kernel
theorem dX7_sum_4 : decode cX7_sum 4 = .ok (.iload_n 3, 1) := by decide +kernel
theorem dX7_sum_5 : decode cX7_sum 5 = .ok (.aload_n 0, 1) := by decide +kernel
theorem dX7_sum_6 : decode cX7_sum 6 = .ok (.getfield 9, 3) := by decide +kernel
theorem dX7_sum_9 : decode cX7_sum 9 = .ok (.if_icmp .ge 19, 3) := by decide +kernel
theorem dX7_sum_12 : decode cX7_sum 12 = .ok (.lload_n 1, 1) := by decide +kernel
theorem dX7_sum_13 : decode cX7_sum 13 = .ok (.aload_n 0, 1) := by decide +kernel
theorem dX7_sum_14 : decode cX7_sum 14 = .ok (.getfield 13, 3) := by decide +kernel
theorem dX7_sum_17 : decode cX7_sum 17 = .ok (.iload_n 3, 1) := by decide +kernel
theorem dX7_sum_18 : decode cX7_sum 18 = .ok (.iaload, 1) := by decide +kernel
theorem dX7_sum_19 : decode cX7_sum 19 = .ok (.i2l, 1) := by decide +kernel
theorem dX7_sum_20 : decode cX7_sum 20 = .ok (.ladd, 1) := by decide +kernel
theorem dX7_sum_21 : decode cX7_sum 21 = .ok (.lstore_n 1, 1) := by decide +kernel
theorem dX7_sum_22 : decode cX7_sum 22 = .ok (.iinc 3 1, 3) := by decide +kernel
theorem dX7_sum_25 : decode cX7_sum 25 = .ok (.goto (-21), 3) := by decide +kernel
theorem dX7_sum_28 : decode cX7_sum 28 = .ok (.lload_n 1, 1) := by decide +kernel
theorem dX7_sum_29 : decode cX7_sum 29 = .ok (.lreturn, 1) := by decide +kernel
set_option maxRecDepth 20000 in
theorem w_X7_sum_b4 {w : zWd} {X : zX} {l0 : Launch} {r : Int64} {S1 : zMem} (C : zC LC w X l0 cX7_sum RX7 4 1 (some .long)) {k4 : Nat → Int64 → Int32 → zMem → Option (Int64 × zMem)} (hc4 : ∀ (c0 : Nat) (y1 : Int64) (x3 : Int32) (S : zMem) (ls : Array Slot), lv_has ls 4 [(0, .ref (w.2.2.1 c0)), (1, .long y1), (3, .int x3)] → (c0 < LC.1 ∧ LC.2.1 c0 = 9) → k4 c0 y1 x3 S = some (r, S1) → zV LC w X (some (.long r)) S1 S 4 ls []) {c0 : Nat} {y1 : Int64} {x3 : Int32} {S : zMem} {ls : Array Slot} (hl : lv_has ls 4 [(0, .ref (w.2.2.1 c0)), (1, .long y1), (3, .int x3)]) (hk_c0 : c0 < LC.1 ∧ LC.2.1 c0 = 9) (h : X7_sum_b4 k4 c0 y1 x3 S = some (r, S1)) : zV LC w X (some (.long r)) S1 S 4 ls [] := by
  unfold X7_sum_b4 at h
  refine v_iload_n 4 C dX7_sum_4 rfl (lv_at hl 2 rfl) ?_
  refine v_aload_n 5 C dX7_sum_5 rfl (lv_at hl 0 rfl) ?_
  refine v_geti 6 C dX7_sum_6 fl_X7_9 rfl hk_c0 h (fun v1 h => ?_)
  refine v_icmp_ge 9 28 C dX7_sum_9 (by decide) h (fun h => ?_) (fun h => ?_)
  · refine v_lload_n 28 C dX7_sum_28 rfl (lv_at hl 1 rfl) ?_
    exact v_lreturn 29 C dX7_sum_29 h
  · refine v_lload_n 12 C dX7_sum_12 rfl (lv_at hl 1 rfl) ?_
    refine v_aload_n 13 C dX7_sum_13 rfl (lv_at hl 0 rfl) ?_
    refine v_getr 14 (c0 + 1) C dX7_sum_14 fl_X7_13 rfl hk_c0 (rS1 hk_c0) ?_
    refine v_iload_n 17 C dX7_sum_17 rfl (lv_at hl 2 rfl) ?_
    refine v_iald 18 C dX7_sum_18 (kS1 hk_c0) rfl h (fun v2 h => ?_)
    refine v_i2l 19 C dX7_sum_19 h (fun v3 h => ?_)
    refine v_ladd 20 C dX7_sum_20 h (fun v4 h => ?_)
    refine v_lstore_n 21 C [(1, .long v4), (0, .ref (w.2.2.1 c0)), (3, .int x3)] dX7_sum_21 rfl hl (by decide) rfl (fun ls hl => ?_)
    refine v_iinc 22 C (nn := (1 : Int32)) (fun v => [(3, .int v), (1, .long v4), (0, .ref (w.2.2.1 c0))]) dX7_sum_22 hl (k := 2) rfl (by decide) (by decide) (fun _ => rfl) h (fun v5 ls hl h => ?_)
    refine v_goto 25 4 C dX7_sum_25 (by decide) ?_
    exact hc4 _ _ _ _ _ (lv_sub hl [2, 1, 0] rfl) hk_c0 h
theorem w_X7_sum_l4 {w : zWd} {X : zX} {l0 : Launch} {r : Int64} {S1 : zMem} (C : zC LC w X l0 cX7_sum RX7 4 1 (some .long)) : ∀ (n : Nat) (c0 : Nat) (y1 : Int64) (x3 : Int32) (S : zMem) (ls : Array Slot), lv_has ls 4 [(0, .ref (w.2.2.1 c0)), (1, .long y1), (3, .int x3)] → (c0 < LC.1 ∧ LC.2.1 c0 = 9) → X7_sum_l4 n c0 y1 x3 S = some (r, S1) → zV LC w X (some (.long r)) S1 S 4 ls [] := by
  intro n
  induction n with
  | zero =>
    intro c0 y1 x3 S ls hl hk_c0 h
    cases (show (none : Option (Int64 × zMem)) = some _ from h)
  | succ n ih =>
    intro c0 y1 x3 S ls hl hk_c0 h
    exact w_X7_sum_b4 C ih hl hk_c0 h
set_option maxRecDepth 20000 in
theorem w_X7_sum_b0 {w : zWd} {X : zX} {l0 : Launch} {r : Int64} {S1 : zMem} (C : zC LC w X l0 cX7_sum RX7 4 1 (some .long)) {c0 : Nat} {S : zMem} {ls : Array Slot} (hl : lv_has ls 4 [(0, .ref (w.2.2.1 c0))]) (hk_c0 : c0 < LC.1 ∧ LC.2.1 c0 = 9) (h : X7_sum_b0 c0 S = some (r, S1)) : zV LC w X (some (.long r)) S1 S 0 ls [] := by
  unfold X7_sum_b0 at h
  refine v_lconst 0 C (v := 0) dX7_sum_0 (by decide) ?_
  refine v_lstore_n 1 C [(1, .long (0 : Int64)), (0, .ref (w.2.2.1 c0))] dX7_sum_1 rfl hl (by decide) rfl (fun ls hl => ?_)
  refine v_iconst 2 C (v := (0 : Int32)) dX7_sum_2 (by decide) ?_
  refine v_istore_n 3 C [(3, .int (0 : Int32)), (1, .long (0 : Int64)), (0, .ref (w.2.2.1 c0))] dX7_sum_3 rfl hl (by decide) rfl (fun ls hl => ?_)
  exact w_X7_sum_l4 C zF _ _ _ _ _ (lv_sub hl [2, 1, 0] rfl) hk_c0 h
theorem c_X7_sum {w : zWd} {l0 : Launch} {c0 : Nat} {S S1 : zMem} {r : Int64} (hk_c0 : c0 < LC.1 ∧ LC.2.1 c0 = 9) (h : f_X7_sum c0 S = some (r, S1)) : zMet LC w l0 yX7_sum cX7_sum 4 (some .long) 1 [.ref (w.2.2.1 c0)] S (some (.long r)) S1 :=
  zMet_of (by decide +kernel) (Nat.le_of_ble_eq_true rfl) (fun X ls C hl => w_X7_sum_b0 C hl hk_c0 h)
theorem fl_X8_118 : zFL RX8 118 6 1 := ⟨_, rfl, by decide, zT_of (List.mem_of_getElem? (i := 311) (by decide +kernel)) rfl⟩
theorem ml_X8_122 : Cond.methodLink RX8 122 yX7_sum ∈ zT := zT_of (List.mem_of_getElem? (i := 424) (by decide +kernel)) rfl
theorem hy_X7_sum : zYv yX7_sum cX7_sum 4 (some .long) 0 := ⟨⟨zT_of (List.mem_of_getElem? (i := 427) (by decide +kernel)) rfl, zT_of (List.mem_of_getElem? (i := 77) (by decide +kernel)) rfl, by decide, by decide +kernel, by decide +kernel, by decide +kernel⟩, zT_of (List.mem_of_getElem? (i := 425) (by decide +kernel)) rfl, zT_of (List.mem_of_getElem? (i := 426) (by decide +kernel)) rfl⟩
theorem dX8_mean_0 : decode cX8_mean 0 = .ok (.iload_n 1, 1) := by decide +kernel
theorem dX8_mean_1 : decode cX8_mean 1 = .ok (.invokestatic 80, 3) := by decide +kernel
theorem dX8_mean_4 : decode cX8_mean 4 = .ok (.ifCond .ne 5, 3) := by decide +kernel
theorem dX8_mean_7 : decode cX8_mean 7 = .ok (.iconst (-1), 1) := by decide +kernel
theorem dX8_mean_8 : decode cX8_mean 8 = .ok (.ireturn, 1) := by decide +kernel
theorem dX8_mean_9 : decode cX8_mean 9 = .ok (.aload_n 0, 1) := by decide +kernel
theorem dX8_mean_10 : decode cX8_mean 10 = .ok (.getfield 11, 3) := by decide +kernel
theorem dX8_mean_13 : decode cX8_mean 13 = .ok (.iload_n 1, 1) := by decide +kernel
theorem dX8_mean_14 : decode cX8_mean 14 = .ok (.aaload, 1) := by decide +kernel
theorem dX8_mean_15 : decode cX8_mean 15 = .ok (.astore_n 2, 1) := by decide +kernel
theorem dX8_mean_16 : decode cX8_mean 16 = .ok (.aload_n 2, 1) := by decide +kernel
theorem dX8_mean_17 : decode cX8_mean 17 = .ok (.invokevirtual 92, 3) := by decide +kernel
theorem dX8_mean_20 : decode cX8_mean 20 = .ok (.ifCond .ne 9, 3) := by decide +kernel
theorem dX8_mean_23 : decode cX8_mean 23 = .ok (.aload_n 0, 1) := by decide +kernel
theorem dX8_mean_24 : decode cX8_mean 24 = .ok (.iconst 1, 1) := by decide +kernel
theorem dX8_mean_25 : decode cX8_mean 25 = .ok (.invokevirtual 84, 3) := by decide +kernel
theorem dX8_mean_28 : decode cX8_mean 28 = .ok (.ireturn, 1) := by decide +kernel
theorem dX8_mean_29 : decode cX8_mean 29 = .ok (.aload_n 2, 1) := by decide +kernel
theorem dX8_mean_30 : decode cX8_mean 30 = .ok (.getfield 118, 3) := by decide +kernel
theorem dX8_mean_33 : decode cX8_mean 33 = .ok (.ifCond .ne 9, 3) := by decide +kernel
theorem dX8_mean_36 : decode cX8_mean 36 = .ok (.aload_n 0, 1) := by decide +kernel
theorem dX8_mean_37 : decode cX8_mean 37 = .ok (.iconst 4, 1) := by decide +kernel
theorem dX8_mean_38 : decode cX8_mean 38 = .ok (.invokevirtual 84, 3) := by decide +kernel
theorem dX8_mean_41 : decode cX8_mean 41 = .ok (.ireturn, 1) := by decide +kernel
theorem dX8_mean_42 : decode cX8_mean 42 = .ok (.aload_n 0, 1) := by decide +kernel
theorem dX8_mean_43 : decode cX8_mean 43 = .ok (.aload_n 2, 1) := by decide +kernel
theorem dX8_mean_44 : decode cX8_mean 44 = .ok (.invokevirtual 122, 3) := by decide +kernel
theorem dX8_mean_47 : decode cX8_mean 47 = .ok (.aload_n 2, 1) := by decide +kernel
theorem dX8_mean_48 : decode cX8_mean 48 = .ok (.getfield 118, 3) := by decide +kernel
theorem dX8_mean_51 : decode cX8_mean 51 = .ok (.i2l, 1) := by decide +kernel
theorem dX8_mean_52 : decode cX8_mean 52 = .ok (.ldiv, 1) := by decide +kernel
theorem dX8_mean_53 : decode cX8_mean 53 = .ok (.l2i, 1) := by decide +kernel
theorem dX8_mean_54 : decode cX8_mean 54 = .ok (.invokevirtual 102, 3) := by decide +kernel
theorem dX8_mean_57 : decode cX8_mean 57 = .ok (.ireturn, 1) := by decide +kernel
set_option maxRecDepth 20000 in
theorem w_X8_mean_b0 {w : zWd} {X : zX} {l0 : Launch} {r : Int32} {S1 : zMem} (C : zC LC w X l0 cX8_mean RX8 3 3 (some .int)) {x1 : Int32} {S : zMem} {ls : Array Slot} (hl : lv_has ls 3 [(0, .ref (w.2.2.1 0)), (1, .int x1)]) (h : X8_mean_b0 x1 S = some (r, S1)) : zV LC w X (some (.int r)) S1 S 0 ls [] := by
  unfold X8_mean_b0 at h
  refine v_iload_n 0 C dX8_mean_0 rfl (lv_at hl 1 rfl) ?_
  obtain ⟨v1, S, hc, h⟩ := zb_e h
  refine v_callSi 1 C [] dX8_mean_1 ml_X8_80 hy_X8_isRow (c_X8_isRow  hc) (by decide) rfl hl.1 (Nat.le_of_ble_eq_true rfl) rfl ?_
  refine v_if_ne 4 9 C dX8_mean_4 (by decide) h (fun h => ?_) (fun h => ?_)
  · refine v_aload_n 9 C dX8_mean_9 rfl (lv_at hl 0 rfl) ?_
    refine v_getr 10 (1) C dX8_mean_10 fl_X8_11 rfl kC_0 rfl ?_
    refine v_iload_n 13 C dX8_mean_13 rfl (lv_at hl 1 rfl) ?_
    refine v_aald 14 (4 + 2 * Int32.toNatClampNeg x1) C dX8_mean_14 kC_1 (Or.inl rfl) rfl rfl h (fun hz2 h => ?_)
    refine v_astore_n 15 C [(2, .ref (w.2.2.1 (4 + 2 * Int32.toNatClampNeg x1))), (0, .ref (w.2.2.1 0)), (1, .int x1)] dX8_mean_15 rfl hl (by decide) rfl (fun ls hl => ?_)
    refine v_aload_n 16 C dX8_mean_16 rfl (lv_at hl 0 rfl) ?_
    obtain ⟨v3, S, hc, h⟩ := zb_e h
    refine v_callVi 17 C (ci := 6) [] dX8_mean_17 ml_X8_92 hy_X7_isThere (c_X7_isThere (kRow hz2) hc) (by decide) rfl hl.1 (kRow hz2) rfl (Nat.le_of_ble_eq_true rfl) rfl ?_
    refine v_if_ne 20 29 C dX8_mean_20 (by decide) h (fun h => ?_) (fun h => ?_)
    · refine v_aload_n 29 C dX8_mean_29 rfl (lv_at hl 0 rfl) ?_
      refine v_geti 30 C dX8_mean_30 fl_X8_118 rfl (kRow hz2) h (fun v4 h => ?_)
      refine v_if_ne 33 42 C dX8_mean_33 (by decide) h (fun h => ?_) (fun h => ?_)
      · refine v_aload_n 42 C dX8_mean_42 rfl (lv_at hl 1 rfl) ?_
        refine v_aload_n 43 C dX8_mean_43 rfl (lv_at hl 0 rfl) ?_
        obtain ⟨v5, S, hc, h⟩ := zb_e h
        refine v_callVl 44 C (ci := 6) [.ref (w.2.2.1 0)] dX8_mean_44 ml_X8_122 hy_X7_sum (c_X7_sum (kRow hz2) hc) (by decide) rfl hl.1 (kRow hz2) rfl (Nat.le_of_ble_eq_true rfl) rfl ?_
        refine v_aload_n 47 C dX8_mean_47 rfl (lv_at hl 0 rfl) ?_
        refine v_geti 48 C dX8_mean_48 fl_X8_118 rfl (kRow hz2) h (fun v6 h => ?_)
        refine v_i2l 51 C dX8_mean_51 h (fun v7 h => ?_)
        refine v_ldivc 52 C dX8_mean_52 h (fun v8 h => ?_)
        refine v_l2i 53 C dX8_mean_53 h (fun v9 h => ?_)
        obtain ⟨v10, S, hc, h⟩ := zb_e h
        refine v_callVi 54 C (ci := 7) [] dX8_mean_54 ml_X8_102 hy_X8_tell (c_X8_tell  hc) (by decide) rfl hl.1 kC_0 rfl (Nat.le_of_ble_eq_true rfl) rfl ?_
        exact v_ireturn 57 C dX8_mean_57 h
      · refine v_aload_n 36 C dX8_mean_36 rfl (lv_at hl 1 rfl) ?_
        refine v_iconst 37 C (v := (4 : Int32)) dX8_mean_37 (by decide) ?_
        obtain ⟨v11, S, hc, h⟩ := zb_e h
        refine v_callVi 38 C (ci := 7) [] dX8_mean_38 ml_X8_84 hy_X8_refuse (c_X8_refuse  hc) (by decide) rfl hl.1 kC_0 rfl (Nat.le_of_ble_eq_true rfl) rfl ?_
        exact v_ireturn 41 C dX8_mean_41 h
    · refine v_aload_n 23 C dX8_mean_23 rfl (lv_at hl 1 rfl) ?_
      refine v_iconst 24 C (v := (1 : Int32)) dX8_mean_24 (by decide) ?_
      obtain ⟨v12, S, hc, h⟩ := zb_e h
      refine v_callVi 25 C (ci := 7) [] dX8_mean_25 ml_X8_84 hy_X8_refuse (c_X8_refuse  hc) (by decide) rfl hl.1 kC_0 rfl (Nat.le_of_ble_eq_true rfl) rfl ?_
      exact v_ireturn 28 C dX8_mean_28 h
  · refine v_iconst 7 C (v := (-1 : Int32)) dX8_mean_7 (by decide) ?_
    exact v_ireturn 8 C dX8_mean_8 h
theorem c_X8_mean {w : zWd} {l0 : Launch} {x1 : Int32} {S S1 : zMem} {r : Int32} (h : f_X8_mean x1 S = some (r, S1)) : zMet LC w l0 yX8_mean cX8_mean 3 (some .int) 3 [.ref (w.2.2.1 0), .int x1] S (some (.int r)) S1 :=
  zMet_of (by decide +kernel) (Nat.le_of_ble_eq_true rfl) (fun X ls C hl => w_X8_mean_b0 C hl h)
theorem dX8_isText_0 : decode cX8_isText 0 = .ok (.iload_n 0, 1) := by decide +kernel
theorem dX8_isText_1 : decode cX8_isText 1 = .ok (.iconst 3, 1) := by decide +kernel
theorem dX8_isText_2 : decode cX8_isText 2 = .ok (.invokestatic 152, 3) := by decide +kernel
theorem dX8_isText_5 : decode cX8_isText 5 = .ok (.ireturn, 1) := by decide +kernel
set_option maxRecDepth 20000 in
theorem w_X8_isText_b0 {w : zWd} {X : zX} {l0 : Launch} {r : Int32} {S1 : zMem} (C : zC LC w X l0 cX8_isText RX8 1 2 (some .boolean)) {x0 : Int32} {S : zMem} {ls : Array Slot} (hl : lv_has ls 1 [(0, .int x0)]) (h : X8_isText_b0 x0 S = some (r, S1)) : zV LC w X (some (.int r)) S1 S 0 ls [] := by
  unfold X8_isText_b0 at h
  refine v_iload_n 0 C dX8_isText_0 rfl (lv_at hl 0 rfl) ?_
  refine v_iconst 1 C (v := (3 : Int32)) dX8_isText_1 (by decide) ?_
  obtain ⟨v1, S, hc, h⟩ := zb_e h
  refine v_callSi 2 C [] dX8_isText_2 ml_X8_152 hy_X8_within (c_X8_within  hc) (by decide) rfl hl.1 (Nat.le_of_ble_eq_true rfl) rfl ?_
  exact v_zreturn 5 C dX8_isText_5 h
theorem c_X8_isText {w : zWd} {l0 : Launch} {x0 : Int32} {S S1 : zMem} {r : Int32} (h : f_X8_isText x0 S = some (r, S1)) : zMet LC w l0 yX8_isText cX8_isText 1 (some .boolean) 2 [.int x0] S (some (.int r)) S1 :=
  zMet_of (by decide +kernel) (Nat.le_of_ble_eq_true rfl) (fun X ls C hl => w_X8_isText_b0 C hl h)
theorem ml_X8_126 : Cond.methodLink RX8 126 yX8_isText ∈ zT := zT_of (List.mem_of_getElem? (i := 432) (by decide +kernel)) rfl
theorem hy_X8_isText : zYs yX8_isText cX8_isText 1 (some .boolean) 1 := ⟨⟨zT_of (List.mem_of_getElem? (i := 434) (by decide +kernel)) rfl, zT_of (List.mem_of_getElem? (i := 70) (by decide +kernel)) rfl, by decide, by decide +kernel, by decide +kernel, by decide +kernel⟩, zT_of (List.mem_of_getElem? (i := 433) (by decide +kernel)) rfl⟩
theorem fl_X8_15 : zFL RX8 15 7 1 := ⟨_, rfl, by decide, zT_of (List.mem_of_getElem? (i := 318) (by decide +kernel)) rfl⟩
theorem dX8_text_0 : decode cX8_text 0 = .ok (.iload_n 1, 1) := by decide +kernel
theorem dX8_text_1 : decode cX8_text 1 = .ok (.invokestatic 126, 3) := by decide +kernel
theorem dX8_text_4 : decode cX8_text 4 = .ok (.ifCond .eq 9, 3) := by decide +kernel
theorem dX8_text_7 : decode cX8_text 7 = .ok (.iload_n 2, 1) := by decide +kernel
theorem dX8_text_8 : decode cX8_text 8 = .ok (.bipush 60, 2) := by decide +kernel
theorem dX8_text_10 : decode cX8_text 10 = .ok (.if_icmp .le 5, 3) := by decide +kernel
theorem dX8_text_13 : decode cX8_text 13 = .ok (.iconst (-1), 1) := by decide +kernel
theorem dX8_text_14 : decode cX8_text 14 = .ok (.ireturn, 1) := by decide +kernel
theorem dX8_text_15 : decode cX8_text 15 = .ok (.iload_n 2, 1) := by decide +kernel
theorem dX8_text_16 : decode cX8_text 16 = .ok (.ifCond .ge 9, 3) := by decide +kernel
theorem dX8_text_19 : decode cX8_text 19 = .ok (.aload_n 0, 1) := by decide +kernel
theorem dX8_text_20 : decode cX8_text 20 = .ok (.iconst 5, 1) := by decide +kernel
theorem dX8_text_21 : decode cX8_text 21 = .ok (.invokevirtual 84, 3) := by decide +kernel
theorem dX8_text_24 : decode cX8_text 24 = .ok (.ireturn, 1) := by decide +kernel
theorem dX8_text_25 : decode cX8_text 25 = .ok (.aload_n 0, 1) := by decide +kernel
theorem dX8_text_26 : decode cX8_text 26 = .ok (.getfield 15, 3) := by decide +kernel
theorem dX8_text_29 : decode cX8_text 29 = .ok (.iload_n 1, 1) := by decide +kernel
theorem dX8_text_30 : decode cX8_text 30 = .ok (.aaload, 1) := by decide +kernel
theorem dX8_text_31 : decode cX8_text 31 = .ok (.iload_n 2, 1) := by decide +kernel
theorem dX8_text_32 : decode cX8_text 32 = .ok (.bipush 32, 2) := by decide +kernel
theorem dX8_text_34 : decode cX8_text 34 = .ok (.invokevirtual 88, 3) := by decide +kernel
theorem dX8_text_37 : decode cX8_text 37 = .ok (.iload_n 2, 1) := by decide +kernel
theorem dX8_text_38 : decode cX8_text 38 = .ok (.ireturn, 1) := by decide +kernel
set_option maxRecDepth 20000 in
theorem w_X8_text_b13 {w : zWd} {X : zX} {l0 : Launch} {r : Int32} {S1 : zMem} (C : zC LC w X l0 cX8_text RX8 3 3 (some .int)) {S : zMem} {ls : Array Slot} (hl : lv_has ls 3 []) (h : X8_text_b13  S = some (r, S1)) : zV LC w X (some (.int r)) S1 S 13 ls [] := by
  unfold X8_text_b13 at h
  refine v_iconst 13 C (v := (-1 : Int32)) dX8_text_13 (by decide) ?_
  exact v_ireturn 14 C dX8_text_14 h
set_option maxRecDepth 20000 in
theorem w_X8_text_b0 {w : zWd} {X : zX} {l0 : Launch} {r : Int32} {S1 : zMem} (C : zC LC w X l0 cX8_text RX8 3 3 (some .int)) {x1 : Int32} {x2 : Int32} {S : zMem} {ls : Array Slot} (hl : lv_has ls 3 [(0, .ref (w.2.2.1 0)), (1, .int x1), (2, .int x2)]) (h : X8_text_b0 x1 x2 S = some (r, S1)) : zV LC w X (some (.int r)) S1 S 0 ls [] := by
  unfold X8_text_b0 at h
  refine v_iload_n 0 C dX8_text_0 rfl (lv_at hl 1 rfl) ?_
  obtain ⟨v1, S, hc, h⟩ := zb_e h
  refine v_callSi 1 C [] dX8_text_1 ml_X8_126 hy_X8_isText (c_X8_isText  hc) (by decide) rfl hl.1 (Nat.le_of_ble_eq_true rfl) rfl ?_
  refine v_if_eq 4 13 C dX8_text_4 (by decide) h (fun h => ?_) (fun h => ?_)
  · exact w_X8_text_b13 C (lv_sub hl [] rfl) h
  · refine v_iload_n 7 C dX8_text_7 rfl (lv_at hl 2 rfl) ?_
    refine v_bipush 8 C (v := (60 : Int32)) dX8_text_8 (by decide) ?_
    refine v_icmp_le 10 15 C dX8_text_10 (by decide) h (fun h => ?_) (fun h => ?_)
    · refine v_iload_n 15 C dX8_text_15 rfl (lv_at hl 2 rfl) ?_
      refine v_if_ge 16 25 C dX8_text_16 (by decide) h (fun h => ?_) (fun h => ?_)
      · refine v_aload_n 25 C dX8_text_25 rfl (lv_at hl 0 rfl) ?_
        refine v_getr 26 (2) C dX8_text_26 fl_X8_15 rfl kC_0 rfl ?_
        refine v_iload_n 29 C dX8_text_29 rfl (lv_at hl 1 rfl) ?_
        refine v_aald 30 (16 + 2 * Int32.toNatClampNeg x1) C dX8_text_30 kC_2 (Or.inl rfl) rfl rfl h (fun hz2 h => ?_)
        refine v_iload_n 31 C dX8_text_31 rfl (lv_at hl 2 rfl) ?_
        refine v_bipush 32 C (v := (32 : Int32)) dX8_text_32 (by decide) ?_
        obtain ⟨v3, S, hc, h⟩ := zb_e h
        refine v_callVv 34 C (ci := 6) [] dX8_text_34 ml_X8_88 hy_X7_lieAnew (c_X7_lieAnew (kTxt hz2) hc) (by decide) rfl hl.1 (kTxt hz2) rfl (Nat.le_of_ble_eq_true rfl) rfl ?_
        refine v_iload_n 37 C dX8_text_37 rfl (lv_at hl 2 rfl) ?_
        exact v_ireturn 38 C dX8_text_38 h
      · refine v_aload_n 19 C dX8_text_19 rfl (lv_at hl 0 rfl) ?_
        refine v_iconst 20 C (v := (5 : Int32)) dX8_text_20 (by decide) ?_
        obtain ⟨v4, S, hc, h⟩ := zb_e h
        refine v_callVi 21 C (ci := 7) [] dX8_text_21 ml_X8_84 hy_X8_refuse (c_X8_refuse  hc) (by decide) rfl hl.1 kC_0 rfl (Nat.le_of_ble_eq_true rfl) rfl ?_
        exact v_ireturn 24 C dX8_text_24 h
    · exact w_X8_text_b13 C (lv_sub hl [] rfl) h
theorem c_X8_text {w : zWd} {l0 : Launch} {x1 : Int32} {x2 : Int32} {S S1 : zMem} {r : Int32} (h : f_X8_text x1 x2 S = some (r, S1)) : zMet LC w l0 yX8_text cX8_text 3 (some .int) 3 [.ref (w.2.2.1 0), .int x1, .int x2] S (some (.int r)) S1 :=
  zMet_of (by decide +kernel) (Nat.le_of_ble_eq_true rfl) (fun X ls C hl => w_X8_text_b0 C hl h)
theorem dX8_put_0 : decode cX8_put 0 = .ok (.iload_n 1, 1) := by decide +kernel
theorem dX8_put_1 : decode cX8_put 1 = .ok (.invokestatic 126, 3) := by decide +kernel
theorem dX8_put_4 : decode cX8_put 4 = .ok (.ifCond .ne 5, 3) := by decide +kernel
theorem dX8_put_7 : decode cX8_put 7 = .ok (.iconst (-1), 1) := by decide +kernel
theorem dX8_put_8 : decode cX8_put 8 = .ok (.ireturn, 1) := by decide +kernel
theorem dX8_put_9 : decode cX8_put 9 = .ok (.aload_n 0, 1) := by decide +kernel
theorem dX8_put_10 : decode cX8_put 10 = .ok (.getfield 15, 3) := by decide +kernel
theorem dX8_put_13 : decode cX8_put 13 = .ok (.iload_n 1, 1) := by decide +kernel
theorem dX8_put_14 : decode cX8_put 14 = .ok (.aaload, 1) := by decide +kernel
theorem dX8_put_15 : decode cX8_put 15 = .ok (.astore 4, 2) := by decide +kernel
theorem dX8_put_17 : decode cX8_put 17 = .ok (.aload 4, 2) := by decide +kernel
theorem dX8_put_19 : decode cX8_put 19 = .ok (.invokevirtual 92, 3) := by decide +kernel
theorem dX8_put_22 : decode cX8_put 22 = .ok (.ifCond .ne 9, 3) := by decide +kernel
theorem dX8_put_25 : decode cX8_put 25 = .ok (.aload_n 0, 1) := by decide +kernel
theorem dX8_put_26 : decode cX8_put 26 = .ok (.iconst 1, 1) := by decide +kernel
theorem dX8_put_27 : decode cX8_put 27 = .ok (.invokevirtual 84, 3) := by decide +kernel
theorem dX8_put_30 : decode cX8_put 30 = .ok (.ireturn, 1) := by decide +kernel
theorem dX8_put_31 : decode cX8_put 31 = .ok (.aload 4, 2) := by decide +kernel
theorem dX8_put_33 : decode cX8_put 33 = .ok (.iload_n 2, 1) := by decide +kernel
theorem dX8_put_34 : decode cX8_put 34 = .ok (.invokevirtual 96, 3) := by decide +kernel
theorem dX8_put_37 : decode cX8_put 37 = .ok (.ifCond .ne 9, 3) := by decide +kernel
theorem dX8_put_40 : decode cX8_put 40 = .ok (.aload_n 0, 1) := by decide +kernel
theorem dX8_put_41 : decode cX8_put 41 = .ok (.iconst 2, 1) := by decide +kernel
theorem dX8_put_42 : decode cX8_put 42 = .ok (.invokevirtual 84, 3) := by decide +kernel
theorem dX8_put_45 : decode cX8_put 45 = .ok (.ireturn, 1) := by decide +kernel
theorem dX8_put_46 : decode cX8_put 46 = .ok (.aload 4, 2) := by decide +kernel
theorem dX8_put_48 : decode cX8_put 48 = .ok (.getfield 99, 3) := by decide +kernel
theorem dX8_put_51 : decode cX8_put 51 = .ok (.iload_n 2, 1) := by decide +kernel
theorem dX8_put_52 : decode cX8_put 52 = .ok (.iaload, 1) := by decide +kernel
theorem dX8_put_53 : decode cX8_put 53 = .ok (.istore 5, 2) := by decide +kernel
theorem dX8_put_55 : decode cX8_put 55 = .ok (.aload 4, 2) := by decide +kernel
theorem dX8_put_57 : decode cX8_put 57 = .ok (.getfield 99, 3) := by decide +kernel
theorem dX8_put_60 : decode cX8_put 60 = .ok (.iload_n 2, 1) := by decide +kernel
theorem dX8_put_61 : decode cX8_put 61 = .ok (.iload_n 3, 1) := by decide +kernel
theorem dX8_put_62 : decode cX8_put 62 = .ok (.i2b, 1) := by decide +kernel
theorem dX8_put_63 : decode cX8_put 63 = .ok (.iastore, 1) := by decide +kernel
theorem dX8_put_64 : decode cX8_put 64 = .ok (.iload 5, 2) := by decide +kernel
theorem dX8_put_66 : decode cX8_put 66 = .ok (.sipush 1000, 3) := by decide +kernel
theorem dX8_put_69 : decode cX8_put 69 = .ok (.iadd, 1) := by decide +kernel
theorem dX8_put_70 : decode cX8_put 70 = .ok (.ireturn, 1) := by decide +kernel
set_option maxRecDepth 20000 in
theorem w_X8_put_b0 {w : zWd} {X : zX} {l0 : Launch} {r : Int32} {S1 : zMem} (C : zC LC w X l0 cX8_put RX8 6 3 (some .int)) {x1 : Int32} {x2 : Int32} {x3 : Int32} {S : zMem} {ls : Array Slot} (hl : lv_has ls 6 [(0, .ref (w.2.2.1 0)), (1, .int x1), (2, .int x2), (3, .int x3)]) (h : X8_put_b0 x1 x2 x3 S = some (r, S1)) : zV LC w X (some (.int r)) S1 S 0 ls [] := by
  unfold X8_put_b0 at h
  refine v_iload_n 0 C dX8_put_0 rfl (lv_at hl 1 rfl) ?_
  obtain ⟨v1, S, hc, h⟩ := zb_e h
  refine v_callSi 1 C [] dX8_put_1 ml_X8_126 hy_X8_isText (c_X8_isText  hc) (by decide) rfl hl.1 (Nat.le_of_ble_eq_true rfl) rfl ?_
  refine v_if_ne 4 9 C dX8_put_4 (by decide) h (fun h => ?_) (fun h => ?_)
  · refine v_aload_n 9 C dX8_put_9 rfl (lv_at hl 0 rfl) ?_
    refine v_getr 10 (2) C dX8_put_10 fl_X8_15 rfl kC_0 rfl ?_
    refine v_iload_n 13 C dX8_put_13 rfl (lv_at hl 1 rfl) ?_
    refine v_aald 14 (16 + 2 * Int32.toNatClampNeg x1) C dX8_put_14 kC_2 (Or.inl rfl) rfl rfl h (fun hz2 h => ?_)
    refine v_astore 15 C [(4, .ref (w.2.2.1 (16 + 2 * Int32.toNatClampNeg x1))), (0, .ref (w.2.2.1 0)), (1, .int x1), (2, .int x2), (3, .int x3)] dX8_put_15 hl (by decide) rfl (fun ls hl => ?_)
    refine v_aload 17 C dX8_put_17 (lv_at hl 0 rfl) ?_
    obtain ⟨v3, S, hc, h⟩ := zb_e h
    refine v_callVi 19 C (ci := 6) [] dX8_put_19 ml_X8_92 hy_X7_isThere (c_X7_isThere (kTxt hz2) hc) (by decide) rfl hl.1 (kTxt hz2) rfl (Nat.le_of_ble_eq_true rfl) rfl ?_
    refine v_if_ne 22 31 C dX8_put_22 (by decide) h (fun h => ?_) (fun h => ?_)
    · refine v_aload 31 C dX8_put_31 (lv_at hl 0 rfl) ?_
      refine v_iload_n 33 C dX8_put_33 rfl (lv_at hl 3 rfl) ?_
      obtain ⟨v4, S, hc, h⟩ := zb_e h
      refine v_callVi 34 C (ci := 6) [] dX8_put_34 ml_X8_96 hy_X7_has (c_X7_has (kTxt hz2) hc) (by decide) rfl hl.1 (kTxt hz2) rfl (Nat.le_of_ble_eq_true rfl) rfl ?_
      refine v_if_ne 37 46 C dX8_put_37 (by decide) h (fun h => ?_) (fun h => ?_)
      · refine v_aload 46 C dX8_put_46 (lv_at hl 0 rfl) ?_
        refine v_getr 48 ((16 + 2 * Int32.toNatClampNeg x1) + 1) C dX8_put_48 fl_X8_99 rfl (kTxt hz2) (rS1 (kTxt hz2)) ?_
        refine v_iload_n 51 C dX8_put_51 rfl (lv_at hl 3 rfl) ?_
        refine v_iald 52 C dX8_put_52 (kS1 (kTxt hz2)) rfl h (fun v5 h => ?_)
        refine v_istore 53 C [(5, .int v5), (4, .ref (w.2.2.1 (16 + 2 * Int32.toNatClampNeg x1))), (0, .ref (w.2.2.1 0)), (1, .int x1), (2, .int x2), (3, .int x3)] dX8_put_53 hl (by decide) rfl (fun ls hl => ?_)
        refine v_aload 55 C dX8_put_55 (lv_at hl 1 rfl) ?_
        refine v_getr 57 ((16 + 2 * Int32.toNatClampNeg x1) + 1) C dX8_put_57 fl_X8_99 rfl (kTxt hz2) (rS1 (kTxt hz2)) ?_
        refine v_iload_n 60 C dX8_put_60 rfl (lv_at hl 4 rfl) ?_
        refine v_iload_n 61 C dX8_put_61 rfl (lv_at hl 5 rfl) ?_
        refine v_i2b 62 C dX8_put_62 h (fun v6 h => ?_)
        refine v_iast 63 C dX8_put_63 (kS1 (kTxt hz2)) rfl h (fun S h => ?_)
        refine v_iload 64 C dX8_put_64 (lv_at hl 0 rfl) ?_
        refine v_sipush 66 C (v := (1000 : Int32)) dX8_put_66 (by decide) ?_
        refine v_iadd 69 C dX8_put_69 h (fun v7 h => ?_)
        exact v_ireturn 70 C dX8_put_70 h
      · refine v_aload_n 40 C dX8_put_40 rfl (lv_at hl 1 rfl) ?_
        refine v_iconst 41 C (v := (2 : Int32)) dX8_put_41 (by decide) ?_
        obtain ⟨v8, S, hc, h⟩ := zb_e h
        refine v_callVi 42 C (ci := 7) [] dX8_put_42 ml_X8_84 hy_X8_refuse (c_X8_refuse  hc) (by decide) rfl hl.1 kC_0 rfl (Nat.le_of_ble_eq_true rfl) rfl ?_
        exact v_ireturn 45 C dX8_put_45 h
    · refine v_aload_n 25 C dX8_put_25 rfl (lv_at hl 1 rfl) ?_
      refine v_iconst 26 C (v := (1 : Int32)) dX8_put_26 (by decide) ?_
      obtain ⟨v9, S, hc, h⟩ := zb_e h
      refine v_callVi 27 C (ci := 7) [] dX8_put_27 ml_X8_84 hy_X8_refuse (c_X8_refuse  hc) (by decide) rfl hl.1 kC_0 rfl (Nat.le_of_ble_eq_true rfl) rfl ?_
      exact v_ireturn 30 C dX8_put_30 h
  · refine v_iconst 7 C (v := (-1 : Int32)) dX8_put_7 (by decide) ?_
    exact v_ireturn 8 C dX8_put_8 h
theorem c_X8_put {w : zWd} {l0 : Launch} {x1 : Int32} {x2 : Int32} {x3 : Int32} {S S1 : zMem} {r : Int32} (h : f_X8_put x1 x2 x3 S = some (r, S1)) : zMet LC w l0 yX8_put cX8_put 6 (some .int) 3 [.ref (w.2.2.1 0), .int x1, .int x2, .int x3] S (some (.int r)) S1 :=
  zMet_of (by decide +kernel) (Nat.le_of_ble_eq_true rfl) (fun X ls C hl => w_X8_put_b0 C hl h)
theorem ml_X5_41 : Cond.methodLink RX5 41 yX7_has ∈ zT := zT_of (List.mem_of_getElem? (i := 458) (by decide +kernel)) rfl
theorem fl_X5_30 : zFL RX5 30 6 0 := ⟨_, rfl, by decide, zT_of (List.mem_of_getElem? (i := 305) (by decide +kernel)) rfl⟩
theorem dX5_figureAt_0 : decode cX5_figureAt 0 = .ok (.aload_n 0, 1) := by decide +kernel
theorem dX5_figureAt_1 : decode cX5_figureAt 1 = .ok (.iload_n 1, 1) := by decide +kernel
theorem dX5_figureAt_2 : decode cX5_figureAt 2 = .ok (.invokevirtual 41, 3) := by decide +kernel
theorem dX5_figureAt_5 : decode cX5_figureAt 5 = .ok (.ifCond .eq 25, 3) := by decide +kernel
theorem dX5_figureAt_8 : decode cX5_figureAt 8 = .ok (.aload_n 0, 1) := by decide +kernel
theorem dX5_figureAt_9 : decode cX5_figureAt 9 = .ok (.getfield 30, 3) := by decide +kernel
theorem dX5_figureAt_12 : decode cX5_figureAt 12 = .ok (.iload_n 1, 1) := by decide +kernel
theorem dX5_figureAt_13 : decode cX5_figureAt 13 = .ok (.iaload, 1) := by decide +kernel
theorem dX5_figureAt_14 : decode cX5_figureAt 14 = .ok (.bipush 48, 2) := by decide +kernel
theorem dX5_figureAt_16 : decode cX5_figureAt 16 = .ok (.if_icmp .lt 14, 3) := by decide +kernel
theorem dX5_figureAt_19 : decode cX5_figureAt 19 = .ok (.aload_n 0, 1) := by decide +kernel
theorem dX5_figureAt_20 : decode cX5_figureAt 20 = .ok (.getfield 30, 3) := by decide +kernel
theorem dX5_figureAt_23 : decode cX5_figureAt 23 = .ok (.iload_n 1, 1) := by decide +kernel
theorem dX5_figureAt_24 : decode cX5_figureAt 24 = .ok (.iaload, 1) := by decide +kernel
theorem dX5_figureAt_25 : decode cX5_figureAt 25 = .ok (.bipush 57, 2) := by decide +kernel
theorem dX5_figureAt_27 : decode cX5_figureAt 27 = .ok (.if_icmp .le 5, 3) := by decide +kernel
theorem dX5_figureAt_30 : decode cX5_figureAt 30 = .ok (.iconst (-1), 1) := by decide +kernel
theorem dX5_figureAt_31 : decode cX5_figureAt 31 = .ok (.ireturn, 1) := by decide +kernel
theorem dX5_figureAt_32 : decode cX5_figureAt 32 = .ok (.aload_n 0, 1) := by decide +kernel
theorem dX5_figureAt_33 : decode cX5_figureAt 33 = .ok (.getfield 30, 3) := by decide +kernel
theorem dX5_figureAt_36 : decode cX5_figureAt 36 = .ok (.iload_n 1, 1) := by decide +kernel
theorem dX5_figureAt_37 : decode cX5_figureAt 37 = .ok (.iaload, 1) := by decide +kernel
theorem dX5_figureAt_38 : decode cX5_figureAt 38 = .ok (.bipush 48, 2) := by decide +kernel
theorem dX5_figureAt_40 : decode cX5_figureAt 40 = .ok (.isub, 1) := by decide +kernel
theorem dX5_figureAt_41 : decode cX5_figureAt 41 = .ok (.ireturn, 1) := by decide +kernel
set_option maxRecDepth 20000 in
theorem w_X5_figureAt_b30 {w : zWd} {X : zX} {l0 : Launch} {r : Int32} {S1 : zMem} (C : zC LC w X l0 cX5_figureAt RX5 2 2 (some .int)) {S : zMem} {ls : Array Slot} (hl : lv_has ls 2 []) (h : X5_figureAt_b30  S = some (r, S1)) : zV LC w X (some (.int r)) S1 S 30 ls [] := by
  unfold X5_figureAt_b30 at h
  refine v_iconst 30 C (v := (-1 : Int32)) dX5_figureAt_30 (by decide) ?_
  exact v_ireturn 31 C dX5_figureAt_31 h
set_option maxRecDepth 20000 in
theorem w_X5_figureAt_b0 {w : zWd} {X : zX} {l0 : Launch} {r : Int32} {S1 : zMem} (C : zC LC w X l0 cX5_figureAt RX5 2 2 (some .int)) {c0 : Nat} {x1 : Int32} {S : zMem} {ls : Array Slot} (hl : lv_has ls 2 [(0, .ref (w.2.2.1 c0)), (1, .int x1)]) (hk_c0 : c0 < LC.1 ∧ LC.2.1 c0 = 9) (h : X5_figureAt_b0 c0 x1 S = some (r, S1)) : zV LC w X (some (.int r)) S1 S 0 ls [] := by
  unfold X5_figureAt_b0 at h
  refine v_aload_n 0 C dX5_figureAt_0 rfl (lv_at hl 0 rfl) ?_
  refine v_iload_n 1 C dX5_figureAt_1 rfl (lv_at hl 1 rfl) ?_
  obtain ⟨v1, S, hc, h⟩ := zb_e h
  refine v_callVi 2 C (ci := 6) [] dX5_figureAt_2 ml_X5_41 hy_X7_has (c_X7_has hk_c0 hc) (by decide) rfl hl.1 hk_c0 rfl (Nat.le_of_ble_eq_true rfl) rfl ?_
  refine v_if_eq 5 30 C dX5_figureAt_5 (by decide) h (fun h => ?_) (fun h => ?_)
  · exact w_X5_figureAt_b30 C (lv_sub hl [] rfl) h
  · refine v_aload_n 8 C dX5_figureAt_8 rfl (lv_at hl 0 rfl) ?_
    refine v_getr 9 (c0 + 1) C dX5_figureAt_9 fl_X5_30 rfl hk_c0 (rS1 hk_c0) ?_
    refine v_iload_n 12 C dX5_figureAt_12 rfl (lv_at hl 1 rfl) ?_
    refine v_iald 13 C dX5_figureAt_13 (kS1 hk_c0) rfl h (fun v2 h => ?_)
    refine v_bipush 14 C (v := (48 : Int32)) dX5_figureAt_14 (by decide) ?_
    refine v_icmp_lt 16 30 C dX5_figureAt_16 (by decide) h (fun h => ?_) (fun h => ?_)
    · exact w_X5_figureAt_b30 C (lv_sub hl [] rfl) h
    · refine v_aload_n 19 C dX5_figureAt_19 rfl (lv_at hl 0 rfl) ?_
      refine v_getr 20 (c0 + 1) C dX5_figureAt_20 fl_X5_30 rfl hk_c0 (rS1 hk_c0) ?_
      refine v_iload_n 23 C dX5_figureAt_23 rfl (lv_at hl 1 rfl) ?_
      refine v_iald 24 C dX5_figureAt_24 (kS1 hk_c0) rfl h (fun v3 h => ?_)
      refine v_bipush 25 C (v := (57 : Int32)) dX5_figureAt_25 (by decide) ?_
      refine v_icmp_le 27 32 C dX5_figureAt_27 (by decide) h (fun h => ?_) (fun h => ?_)
      · refine v_aload_n 32 C dX5_figureAt_32 rfl (lv_at hl 0 rfl) ?_
        refine v_getr 33 (c0 + 1) C dX5_figureAt_33 fl_X5_30 rfl hk_c0 (rS1 hk_c0) ?_
        refine v_iload_n 36 C dX5_figureAt_36 rfl (lv_at hl 1 rfl) ?_
        refine v_iald 37 C dX5_figureAt_37 (kS1 hk_c0) rfl h (fun v4 h => ?_)
        refine v_bipush 38 C (v := (48 : Int32)) dX5_figureAt_38 (by decide) ?_
        refine v_isub 40 C dX5_figureAt_40 h (fun v5 h => ?_)
        exact v_ireturn 41 C dX5_figureAt_41 h
      · exact w_X5_figureAt_b30 C (lv_sub hl [] rfl) h
theorem c_X5_figureAt {w : zWd} {l0 : Launch} {c0 : Nat} {x1 : Int32} {S S1 : zMem} {r : Int32} (hk_c0 : c0 < LC.1 ∧ LC.2.1 c0 = 9) (h : f_X5_figureAt c0 x1 S = some (r, S1)) : zMet LC w l0 yX5_figureAt cX5_figureAt 2 (some .int) 2 [.ref (w.2.2.1 c0), .int x1] S (some (.int r)) S1 :=
  zMet_of (by decide +kernel) (Nat.le_of_ble_eq_true rfl) (fun X ls C hl => w_X5_figureAt_b0 C hl hk_c0 h)
theorem ml_X5_45 : Cond.methodLink RX5 45 yX5_figureAt ∈ zT := zT_of (List.mem_of_getElem? (i := 455) (by decide +kernel)) rfl
theorem hy_X5_figureAt : zYs yX5_figureAt cX5_figureAt 2 (some .int) 2 := ⟨⟨zT_of (List.mem_of_getElem? (i := 457) (by decide +kernel)) rfl, zT_of (List.mem_of_getElem? (i := 72) (by decide +kernel)) rfl, by decide, by decide +kernel, by decide +kernel, by decide +kernel⟩, zT_of (List.mem_of_getElem? (i := 456) (by decide +kernel)) rfl⟩
theorem fl_X5_12 : zFL RX5 12 4 0 := ⟨_, rfl, by decide, zT_of (List.mem_of_getElem? (i := 154) (by decide +kernel)) rfl⟩
theorem fl_X5_22 : zFL RX5 22 5 5 := ⟨_, rfl, by decide, zT_of (List.mem_of_getElem? (i := 119) (by decide +kernel)) rfl⟩
theorem fl_X5_18 : zFL RX5 18 5 4 := ⟨_, rfl, by decide, zT_of (List.mem_of_getElem? (i := 115) (by decide +kernel)) rfl⟩
theorem fl_X5_60 : zFL RX5 60 5 0 := ⟨_, rfl, by decide, zT_of (List.mem_of_getElem? (i := 101) (by decide +kernel)) rfl⟩
theorem fp_5_4 : zFP 5 4 .int := fun q h => by cases h; exact ⟨rfl, by decide +kernel⟩
theorem dX5_houseFault_0 : decode cX5_houseFault 0 = .ok (.aload_n 1, 1) := by decide +kernel
theorem dX5_houseFault_1 : decode cX5_houseFault 1 = .ok (.iload_n 2, 1) := by decide +kernel
theorem dX5_houseFault_2 : decode cX5_houseFault 2 = .ok (.iconst 1, 1) := by decide +kernel
theorem dX5_houseFault_3 : decode cX5_houseFault 3 = .ok (.iadd, 1) := by decide +kernel
theorem dX5_houseFault_4 : decode cX5_houseFault 4 = .ok (.invokestatic 45, 3) := by decide +kernel
theorem dX5_houseFault_7 : decode cX5_houseFault 7 = .ok (.istore_n 3, 1) := by decide +kernel
theorem dX5_houseFault_8 : decode cX5_houseFault 8 = .ok (.aload_n 1, 1) := by decide +kernel
theorem dX5_houseFault_9 : decode cX5_houseFault 9 = .ok (.iload_n 2, 1) := by decide +kernel
theorem dX5_houseFault_10 : decode cX5_houseFault 10 = .ok (.iconst 2, 1) := by decide +kernel
theorem dX5_houseFault_11 : decode cX5_houseFault 11 = .ok (.iadd, 1) := by decide +kernel
theorem dX5_houseFault_12 : decode cX5_houseFault 12 = .ok (.invokestatic 45, 3) := by decide +kernel
theorem dX5_houseFault_15 : decode cX5_houseFault 15 = .ok (.istore 4, 2) := by decide +kernel
theorem dX5_houseFault_17 : decode cX5_houseFault 17 = .ok (.aload_n 0, 1) := by decide +kernel
theorem dX5_houseFault_18 : decode cX5_houseFault 18 = .ok (.getfield 12, 3) := by decide +kernel
theorem dX5_houseFault_21 : decode cX5_houseFault 21 = .ok (.getfield 22, 3) := by decide +kernel
theorem dX5_houseFault_24 : decode cX5_houseFault 24 = .ok (.ifCond .gt 15, 3) := by decide +kernel
theorem dX5_houseFault_27 : decode cX5_houseFault 27 = .ok (.aload_n 0, 1) := by decide +kernel
theorem dX5_houseFault_28 : decode cX5_houseFault 28 = .ok (.getfield 12, 3) := by decide +kernel
theorem dX5_houseFault_31 : decode cX5_houseFault 31 = .ok (.getfield 18, 3) := by decide +kernel
theorem dX5_houseFault_34 : decode cX5_houseFault 34 = .ok (.bipush 6, 2) := by decide +kernel
theorem dX5_houseFault_36 : decode cX5_houseFault 36 = .ok (.if_icmp .lt 5, 3) := by decide +kernel
theorem dX5_houseFault_39 : decode cX5_houseFault 39 = .ok (.iload_n 2, 1) := by decide +kernel
theorem dX5_houseFault_40 : decode cX5_houseFault 40 = .ok (.ireturn, 1) := by decide +kernel
theorem dX5_houseFault_41 : decode cX5_houseFault 41 = .ok (.iload_n 3, 1) := by decide +kernel
theorem dX5_houseFault_42 : decode cX5_houseFault 42 = .ok (.iconst (-1), 1) := by decide +kernel
theorem dX5_houseFault_43 : decode cX5_houseFault 43 = .ok (.if_icmp .ne 7, 3) := by decide +kernel
theorem dX5_houseFault_46 : decode cX5_houseFault 46 = .ok (.iload_n 2, 1) := by decide +kernel
theorem dX5_houseFault_47 : decode cX5_houseFault 47 = .ok (.iconst 1, 1) := by decide +kernel
theorem dX5_houseFault_48 : decode cX5_houseFault 48 = .ok (.iadd, 1) := by decide +kernel
theorem dX5_houseFault_49 : decode cX5_houseFault 49 = .ok (.ireturn, 1) := by decide +kernel
theorem dX5_houseFault_50 : decode cX5_houseFault 50 = .ok (.iload 4, 2) := by decide +kernel
theorem dX5_houseFault_52 : decode cX5_houseFault 52 = .ok (.iconst (-1), 1) := by decide +kernel
theorem dX5_houseFault_53 : decode cX5_houseFault 53 = .ok (.if_icmp .ne 7, 3) := by decide +kernel
theorem dX5_houseFault_56 : decode cX5_houseFault 56 = .ok (.iload_n 2, 1) := by decide +kernel
theorem dX5_houseFault_57 : decode cX5_houseFault 57 = .ok (.iconst 2, 1) := by decide +kernel
theorem dX5_houseFault_58 : decode cX5_houseFault 58 = .ok (.iadd, 1) := by decide +kernel
theorem dX5_houseFault_59 : decode cX5_houseFault 59 = .ok (.ireturn, 1) := by decide +kernel
theorem dX5_houseFault_60 : decode cX5_houseFault 60 = .ok (.bipush 10, 2) := by decide +kernel
theorem dX5_houseFault_62 : decode cX5_houseFault 62 = .ok (.iload_n 3, 1) := by decide +kernel
theorem dX5_houseFault_63 : decode cX5_houseFault 63 = .ok (.imul, 1) := by decide +kernel
theorem dX5_houseFault_64 : decode cX5_houseFault 64 = .ok (.iload 4, 2) := by decide +kernel
theorem dX5_houseFault_66 : decode cX5_houseFault 66 = .ok (.iadd, 1) := by decide +kernel
theorem dX5_houseFault_67 : decode cX5_houseFault 67 = .ok (.bipush 20, 2) := by decide +kernel
theorem dX5_houseFault_69 : decode cX5_houseFault 69 = .ok (.if_icmp .le 7, 3) := by decide +kernel
theorem dX5_houseFault_72 : decode cX5_houseFault 72 = .ok (.iload_n 2, 1) := by decide +kernel
theorem dX5_houseFault_73 : decode cX5_houseFault 73 = .ok (.iconst 1, 1) := by decide +kernel
theorem dX5_houseFault_74 : decode cX5_houseFault 74 = .ok (.iadd, 1) := by decide +kernel
theorem dX5_houseFault_75 : decode cX5_houseFault 75 = .ok (.ireturn, 1) := by decide +kernel
theorem dX5_houseFault_76 : decode cX5_houseFault 76 = .ok (.aload_n 0, 1) := by decide +kernel
theorem dX5_houseFault_77 : decode cX5_houseFault 77 = .ok (.getfield 12, 3) := by decide +kernel
theorem dX5_houseFault_80 : decode cX5_houseFault 80 = .ok (.getfield 60, 3) := by decide +kernel
theorem dX5_houseFault_83 : decode cX5_houseFault 83 = .ok (.aload_n 0, 1) := by decide +kernel
theorem dX5_houseFault_84 : decode cX5_houseFault 84 = .ok (.getfield 12, 3) := by decide +kernel
theorem dX5_houseFault_87 : decode cX5_houseFault 87 = .ok (.getfield 18, 3) := by decide +kernel
theorem dX5_houseFault_90 : decode cX5_houseFault 90 = .ok (.bipush 10, 2) := by decide +kernel
theorem dX5_houseFault_92 : decode cX5_houseFault 92 = .ok (.iload_n 3, 1) := by decide +kernel
theorem dX5_houseFault_93 : decode cX5_houseFault 93 = .ok (.imul, 1) := by decide +kernel
theorem dX5_houseFault_94 : decode cX5_houseFault 94 = .ok (.iload 4, 2) := by decide +kernel
theorem dX5_houseFault_96 : decode cX5_houseFault 96 = .ok (.iadd, 1) := by decide +kernel
theorem dX5_houseFault_97 : decode cX5_houseFault 97 = .ok (.iastore, 1) := by decide +kernel
theorem dX5_houseFault_98 : decode cX5_houseFault 98 = .ok (.aload_n 0, 1) := by decide +kernel
theorem dX5_houseFault_99 : decode cX5_houseFault 99 = .ok (.getfield 12, 3) := by decide +kernel
theorem dX5_houseFault_102 : decode cX5_houseFault 102 = .ok (.dup, 1) := by decide +kernel
theorem dX5_houseFault_103 : decode cX5_houseFault 103 = .ok (.getfield 18, 3) := by decide +kernel
theorem dX5_houseFault_106 : decode cX5_houseFault 106 = .ok (.iconst 1, 1) := by decide +kernel
theorem dX5_houseFault_107 : decode cX5_houseFault 107 = .ok (.iadd, 1) := by decide +kernel
theorem dX5_houseFault_108 : decode cX5_houseFault 108 = .ok (.putfield 18, 3) := by decide +kernel
theorem dX5_houseFault_111 : decode cX5_houseFault 111 = .ok (.bipush (-9), 2) := by decide +kernel
theorem dX5_houseFault_113 : decode cX5_houseFault 113 = .ok (.ireturn, 1) := by decide +kernel
set_option maxRecDepth 20000 in
theorem w_X5_houseFault_b39 {w : zWd} {X : zX} {l0 : Launch} {r : Int32} {S1 : zMem} (C : zC LC w X l0 cX5_houseFault RX5 5 3 (some .int)) {x2 : Int32} {S : zMem} {ls : Array Slot} (hl : lv_has ls 5 [(2, .int x2)]) (h : X5_houseFault_b39 x2 S = some (r, S1)) : zV LC w X (some (.int r)) S1 S 39 ls [] := by
  unfold X5_houseFault_b39 at h
  refine v_iload_n 39 C dX5_houseFault_39 rfl (lv_at hl 0 rfl) ?_
  exact v_ireturn 40 C dX5_houseFault_40 h
set_option maxRecDepth 20000 in
theorem w_X5_houseFault_b0 {w : zWd} {X : zX} {l0 : Launch} {r : Int32} {S1 : zMem} (C : zC LC w X l0 cX5_houseFault RX5 5 3 (some .int)) {c1 : Nat} {x2 : Int32} {S : zMem} {ls : Array Slot} (hl : lv_has ls 5 [(0, .ref (w.2.2.1 29)), (1, .ref (w.2.2.1 c1)), (2, .int x2)]) (hk_c1 : c1 < LC.1 ∧ LC.2.1 c1 = 9) (h : X5_houseFault_b0 c1 x2 S = some (r, S1)) : zV LC w X (some (.int r)) S1 S 0 ls [] := by
  unfold X5_houseFault_b0 at h
  refine v_aload_n 0 C dX5_houseFault_0 rfl (lv_at hl 1 rfl) ?_
  refine v_iload_n 1 C dX5_houseFault_1 rfl (lv_at hl 2 rfl) ?_
  refine v_iconst 2 C (v := (1 : Int32)) dX5_houseFault_2 (by decide) ?_
  refine v_iadd 3 C dX5_houseFault_3 h (fun v1 h => ?_)
  obtain ⟨v2, S, hc, h⟩ := zb_e h
  refine v_callSi 4 C [] dX5_houseFault_4 ml_X5_45 hy_X5_figureAt (c_X5_figureAt hk_c1 hc) (by decide) rfl hl.1 (Nat.le_of_ble_eq_true rfl) rfl ?_
  refine v_istore_n 7 C [(3, .int v2), (0, .ref (w.2.2.1 29)), (1, .ref (w.2.2.1 c1)), (2, .int x2)] dX5_houseFault_7 rfl hl (by decide) rfl (fun ls hl => ?_)
  refine v_aload_n 8 C dX5_houseFault_8 rfl (lv_at hl 2 rfl) ?_
  refine v_iload_n 9 C dX5_houseFault_9 rfl (lv_at hl 3 rfl) ?_
  refine v_iconst 10 C (v := (2 : Int32)) dX5_houseFault_10 (by decide) ?_
  refine v_iadd 11 C dX5_houseFault_11 h (fun v3 h => ?_)
  obtain ⟨v4, S, hc, h⟩ := zb_e h
  refine v_callSi 12 C [] dX5_houseFault_12 ml_X5_45 hy_X5_figureAt (c_X5_figureAt hk_c1 hc) (by decide) rfl hl.1 (Nat.le_of_ble_eq_true rfl) rfl ?_
  refine v_istore 15 C [(4, .int v4), (3, .int v2), (0, .ref (w.2.2.1 29)), (1, .ref (w.2.2.1 c1)), (2, .int x2)] dX5_houseFault_15 hl (by decide) rfl (fun ls hl => ?_)
  refine v_aload_n 17 C dX5_houseFault_17 rfl (lv_at hl 2 rfl) ?_
  refine v_getr 18 (30) C dX5_houseFault_18 fl_X5_12 rfl kC_29 rfl ?_
  refine v_geti 21 C dX5_houseFault_21 fl_X5_22 rfl kC_30 h (fun v5 h => ?_)
  refine v_if_gt 24 39 C dX5_houseFault_24 (by decide) h (fun h => ?_) (fun h => ?_)
  · exact w_X5_houseFault_b39 C (lv_sub hl [4] rfl) h
  · refine v_aload_n 27 C dX5_houseFault_27 rfl (lv_at hl 2 rfl) ?_
    refine v_getr 28 (30) C dX5_houseFault_28 fl_X5_12 rfl kC_29 rfl ?_
    refine v_geti 31 C dX5_houseFault_31 fl_X5_18 rfl kC_30 h (fun v6 h => ?_)
    refine v_bipush 34 C (v := (6 : Int32)) dX5_houseFault_34 (by decide) ?_
    refine v_icmp_lt 36 41 C dX5_houseFault_36 (by decide) h (fun h => ?_) (fun h => ?_)
    · refine v_iload_n 41 C dX5_houseFault_41 rfl (lv_at hl 1 rfl) ?_
      refine v_iconst 42 C (v := (-1 : Int32)) dX5_houseFault_42 (by decide) ?_
      refine v_icmp_ne 43 50 C dX5_houseFault_43 (by decide) h (fun h => ?_) (fun h => ?_)
      · refine v_iload 50 C dX5_houseFault_50 (lv_at hl 0 rfl) ?_
        refine v_iconst 52 C (v := (-1 : Int32)) dX5_houseFault_52 (by decide) ?_
        refine v_icmp_ne 53 60 C dX5_houseFault_53 (by decide) h (fun h => ?_) (fun h => ?_)
        · refine v_bipush 60 C (v := (10 : Int32)) dX5_houseFault_60 (by decide) ?_
          refine v_iload_n 62 C dX5_houseFault_62 rfl (lv_at hl 1 rfl) ?_
          refine v_imul 63 C dX5_houseFault_63 h (fun v7 h => ?_)
          refine v_iload 64 C dX5_houseFault_64 (lv_at hl 0 rfl) ?_
          refine v_iadd 66 C dX5_houseFault_66 h (fun v8 h => ?_)
          refine v_bipush 67 C (v := (20 : Int32)) dX5_houseFault_67 (by decide) ?_
          refine v_icmp_le 69 76 C dX5_houseFault_69 (by decide) h (fun h => ?_) (fun h => ?_)
          · refine v_aload_n 76 C dX5_houseFault_76 rfl (lv_at hl 2 rfl) ?_
            refine v_getr 77 (30) C dX5_houseFault_77 fl_X5_12 rfl kC_29 rfl ?_
            refine v_getr 80 (31) C dX5_houseFault_80 fl_X5_60 rfl kC_30 rfl ?_
            refine v_aload_n 83 C dX5_houseFault_83 rfl (lv_at hl 2 rfl) ?_
            refine v_getr 84 (30) C dX5_houseFault_84 fl_X5_12 rfl kC_29 rfl ?_
            refine v_geti 87 C dX5_houseFault_87 fl_X5_18 rfl kC_30 h (fun v9 h => ?_)
            refine v_bipush 90 C (v := (10 : Int32)) dX5_houseFault_90 (by decide) ?_
            refine v_iload_n 92 C dX5_houseFault_92 rfl (lv_at hl 1 rfl) ?_
            refine v_imul 93 C dX5_houseFault_93 h (fun v10 h => ?_)
            refine v_iload 94 C dX5_houseFault_94 (lv_at hl 0 rfl) ?_
            refine v_iadd 96 C dX5_houseFault_96 h (fun v11 h => ?_)
            refine v_iast 97 C dX5_houseFault_97 kC_31 rfl h (fun S h => ?_)
            refine v_aload_n 98 C dX5_houseFault_98 rfl (lv_at hl 2 rfl) ?_
            refine v_getr 99 (30) C dX5_houseFault_99 fl_X5_12 rfl kC_29 rfl ?_
            refine v_dup 102 C dX5_houseFault_102 rfl ?_
            refine v_geti 103 C dX5_houseFault_103 fl_X5_18 rfl kC_30 h (fun v12 h => ?_)
            refine v_iconst 106 C (v := (1 : Int32)) dX5_houseFault_106 (by decide) ?_
            refine v_iadd 107 C dX5_houseFault_107 h (fun v13 h => ?_)
            refine v_puti 108 C dX5_houseFault_108 fl_X5_18 fp_5_4 rfl kC_30 h (fun S h => ?_)
            refine v_bipush 111 C (v := (-9 : Int32)) dX5_houseFault_111 (by decide) ?_
            exact v_ireturn 113 C dX5_houseFault_113 h
          · refine v_iload_n 72 C dX5_houseFault_72 rfl (lv_at hl 4 rfl) ?_
            refine v_iconst 73 C (v := (1 : Int32)) dX5_houseFault_73 (by decide) ?_
            refine v_iadd 74 C dX5_houseFault_74 h (fun v14 h => ?_)
            exact v_ireturn 75 C dX5_houseFault_75 h
        · refine v_iload_n 56 C dX5_houseFault_56 rfl (lv_at hl 4 rfl) ?_
          refine v_iconst 57 C (v := (2 : Int32)) dX5_houseFault_57 (by decide) ?_
          refine v_iadd 58 C dX5_houseFault_58 h (fun v15 h => ?_)
          exact v_ireturn 59 C dX5_houseFault_59 h
      · refine v_iload_n 46 C dX5_houseFault_46 rfl (lv_at hl 4 rfl) ?_
        refine v_iconst 47 C (v := (1 : Int32)) dX5_houseFault_47 (by decide) ?_
        refine v_iadd 48 C dX5_houseFault_48 h (fun v16 h => ?_)
        exact v_ireturn 49 C dX5_houseFault_49 h
    · exact w_X5_houseFault_b39 C (lv_sub hl [4] rfl) h
theorem c_X5_houseFault {w : zWd} {l0 : Launch} {c1 : Nat} {x2 : Int32} {S S1 : zMem} {r : Int32} (hk_c1 : c1 < LC.1 ∧ LC.2.1 c1 = 9) (h : f_X5_houseFault c1 x2 S = some (r, S1)) : zMet LC w l0 yX5_houseFault cX5_houseFault 5 (some .int) 3 [.ref (w.2.2.1 29), .ref (w.2.2.1 c1), .int x2] S (some (.int r)) S1 :=
  zMet_of (by decide +kernel) (Nat.le_of_ble_eq_true rfl) (fun X ls C hl => w_X5_houseFault_b0 C hl hk_c1 h)
theorem fs_X1_11 : Cond.fieldLink RX1 11 RX1 "SIGNS" "[C" ∈ zT := zT_of (List.mem_of_getElem? (i := 466) (by decide +kernel)) rfl
theorem dX1_bySign_0 : decode cX1_bySign 0 = .ok (.iconst 0, 1) := by decide +kernel
theorem dX1_bySign_1 : decode cX1_bySign 1 = .ok (.istore_n 1, 1) := by decide +kernel
theorem dX1_bySign_2 : decode cX1_bySign 2 = .ok (.iload_n 1, 1) := by decide +kernel
theorem dX1_bySign_3 : decode cX1_bySign 3 = .ok (.bipush 6, 2) := by decide +kernel
theorem dX1_bySign_5 : decode cX1_bySign 5 = .ok (.if_icmp .ge 20, 3) := by decide +kernel
theorem dX1_bySign_8 : decode cX1_bySign 8 = .ok (.getstatic 11, 3) := by decide +kernel
theorem dX1_bySign_11 : decode cX1_bySign 11 = .ok (.iload_n 1, 1) := by decide +kernel
theorem dX1_bySign_12 : decode cX1_bySign 12 = .ok (.caload, 1) := by decide +kernel
theorem dX1_bySign_13 : decode cX1_bySign 13 = .ok (.iload_n 0, 1) := by decide +kernel
theorem dX1_bySign_14 : decode cX1_bySign 14 = .ok (.if_icmp .ne 5, 3) := by decide +kernel
theorem dX1_bySign_17 : decode cX1_bySign 17 = .ok (.iload_n 1, 1) := by decide +kernel
theorem dX1_bySign_18 : decode cX1_bySign 18 = .ok (.ireturn, 1) := by decide +kernel
theorem dX1_bySign_19 : decode cX1_bySign 19 = .ok (.iinc 1 1, 3) := by decide +kernel
theorem dX1_bySign_22 : decode cX1_bySign 22 = .ok (.goto (-20), 3) := by decide +kernel
theorem dX1_bySign_25 : decode cX1_bySign 25 = .ok (.bipush (-9), 2) := by decide +kernel
theorem dX1_bySign_27 : decode cX1_bySign 27 = .ok (.ireturn, 1) := by decide +kernel
set_option maxRecDepth 20000 in
theorem w_X1_bySign_b2 {w : zWd} {X : zX} {l0 : Launch} {r : Int32} {S1 : zMem} (C : zC LC w X l0 cX1_bySign RX1 2 1 (some .int)) {k2 : Int32 → Int32 → zMem → Option (Int32 × zMem)} (hc2 : ∀ (x0 : Int32) (x1 : Int32) (S : zMem) (ls : Array Slot), lv_has ls 2 [(0, .int x0), (1, .int x1)] → k2 x0 x1 S = some (r, S1) → zV LC w X (some (.int r)) S1 S 2 ls []) {x0 : Int32} {x1 : Int32} {S : zMem} {ls : Array Slot} (hl : lv_has ls 2 [(0, .int x0), (1, .int x1)]) (h : X1_bySign_b2 k2 x0 x1 S = some (r, S1)) : zV LC w X (some (.int r)) S1 S 2 ls [] := by
  unfold X1_bySign_b2 at h
  refine v_iload_n 2 C dX1_bySign_2 rfl (lv_at hl 1 rfl) ?_
  refine v_bipush 3 C (v := (6 : Int32)) dX1_bySign_3 (by decide) ?_
  refine v_icmp_ge 5 25 C dX1_bySign_5 (by decide) h (fun h => ?_) (fun h => ?_)
  · refine v_bipush 25 C (v := (-9 : Int32)) dX1_bySign_25 (by decide) ?_
    exact v_ireturn 27 C dX1_bySign_27 h
  · refine v_gsig 8 C dX1_bySign_8 fs_X1_11 ?_
    refine v_iload_n 11 C dX1_bySign_11 rfl (lv_at hl 1 rfl) ?_
    refine v_lsig 12 C dX1_bySign_12 h (fun v1 h => ?_)
    refine v_iload_n 13 C dX1_bySign_13 rfl (lv_at hl 0 rfl) ?_
    refine v_icmp_ne 14 19 C dX1_bySign_14 (by decide) h (fun h => ?_) (fun h => ?_)
    · refine v_iinc 19 C (nn := (1 : Int32)) (fun v => [(1, .int v), (0, .int x0)]) dX1_bySign_19 hl (k := 1) rfl (by decide) (by decide) (fun _ => rfl) h (fun v2 ls hl h => ?_)
      refine v_goto 22 2 C dX1_bySign_22 (by decide) ?_
      exact hc2 _ _ _ _ (lv_sub hl [1, 0] rfl) h
    · refine v_iload_n 17 C dX1_bySign_17 rfl (lv_at hl 1 rfl) ?_
      exact v_ireturn 18 C dX1_bySign_18 h
theorem w_X1_bySign_l2 {w : zWd} {X : zX} {l0 : Launch} {r : Int32} {S1 : zMem} (C : zC LC w X l0 cX1_bySign RX1 2 1 (some .int)) : ∀ (n : Nat) (x0 : Int32) (x1 : Int32) (S : zMem) (ls : Array Slot), lv_has ls 2 [(0, .int x0), (1, .int x1)] → X1_bySign_l2 n x0 x1 S = some (r, S1) → zV LC w X (some (.int r)) S1 S 2 ls [] := by
  intro n
  induction n with
  | zero =>
    intro x0 x1 S ls hl h
    cases (show (none : Option (Int32 × zMem)) = some _ from h)
  | succ n ih =>
    intro x0 x1 S ls hl h
    exact w_X1_bySign_b2 C ih hl h
set_option maxRecDepth 20000 in
theorem w_X1_bySign_b0 {w : zWd} {X : zX} {l0 : Launch} {r : Int32} {S1 : zMem} (C : zC LC w X l0 cX1_bySign RX1 2 1 (some .int)) {x0 : Int32} {S : zMem} {ls : Array Slot} (hl : lv_has ls 2 [(0, .int x0)]) (h : X1_bySign_b0 x0 S = some (r, S1)) : zV LC w X (some (.int r)) S1 S 0 ls [] := by
  unfold X1_bySign_b0 at h
  refine v_iconst 0 C (v := (0 : Int32)) dX1_bySign_0 (by decide) ?_
  refine v_istore_n 1 C [(1, .int (0 : Int32)), (0, .int x0)] dX1_bySign_1 rfl hl (by decide) rfl (fun ls hl => ?_)
  exact w_X1_bySign_l2 C zF _ _ _ _ (lv_sub hl [1, 0] rfl) h
theorem c_X1_bySign {w : zWd} {l0 : Launch} {x0 : Int32} {S S1 : zMem} {r : Int32} (h : f_X1_bySign x0 S = some (r, S1)) : zMet LC w l0 yX1_bySign cX1_bySign 2 (some .int) 1 [.int x0] S (some (.int r)) S1 :=
  zMet_of (by decide +kernel) (Nat.le_of_ble_eq_true rfl) (fun X ls C hl => w_X1_bySign_b0 C hl h)
theorem ml_X5_63 : Cond.methodLink RX5 63 yX1_bySign ∈ zT := zT_of (List.mem_of_getElem? (i := 463) (by decide +kernel)) rfl
theorem hy_X1_bySign : zYs yX1_bySign cX1_bySign 2 (some .int) 1 := ⟨⟨zT_of (List.mem_of_getElem? (i := 465) (by decide +kernel)) rfl, zT_of (List.mem_of_getElem? (i := 80) (by decide +kernel)) rfl, by decide, by decide +kernel, by decide +kernel, by decide +kernel⟩, zT_of (List.mem_of_getElem? (i := 464) (by decide +kernel)) rfl⟩
theorem fl_X5_69 : zFL RX5 69 5 1 := ⟨_, rfl, by decide, zT_of (List.mem_of_getElem? (i := 103) (by decide +kernel)) rfl⟩
theorem fl_X5_72 : zFL RX5 72 5 2 := ⟨_, rfl, by decide, zT_of (List.mem_of_getElem? (i := 108) (by decide +kernel)) rfl⟩
theorem fl_X5_75 : zFL RX5 75 5 3 := ⟨_, rfl, by decide, zT_of (List.mem_of_getElem? (i := 112) (by decide +kernel)) rfl⟩
theorem fp_5_5 : zFP 5 5 .int := fun q h => by cases h; exact ⟨rfl, by decide +kernel⟩
theorem dX5_letterFault_0 : decode cX5_letterFault 0 = .ok (.aload_n 1, 1) := by decide +kernel
theorem dX5_letterFault_1 : decode cX5_letterFault 1 = .ok (.getfield 30, 3) := by decide +kernel
theorem dX5_letterFault_4 : decode cX5_letterFault 4 = .ok (.iload_n 2, 1) := by decide +kernel
theorem dX5_letterFault_5 : decode cX5_letterFault 5 = .ok (.iaload, 1) := by decide +kernel
theorem dX5_letterFault_6 : decode cX5_letterFault 6 = .ok (.invokestatic 63, 3) := by decide +kernel
theorem dX5_letterFault_9 : decode cX5_letterFault 9 = .ok (.istore_n 3, 1) := by decide +kernel
theorem dX5_letterFault_10 : decode cX5_letterFault 10 = .ok (.aload_n 1, 1) := by decide +kernel
theorem dX5_letterFault_11 : decode cX5_letterFault 11 = .ok (.iload_n 2, 1) := by decide +kernel
theorem dX5_letterFault_12 : decode cX5_letterFault 12 = .ok (.iconst 1, 1) := by decide +kernel
theorem dX5_letterFault_13 : decode cX5_letterFault 13 = .ok (.iadd, 1) := by decide +kernel
theorem dX5_letterFault_14 : decode cX5_letterFault 14 = .ok (.invokestatic 45, 3) := by decide +kernel
theorem dX5_letterFault_17 : decode cX5_letterFault 17 = .ok (.istore 4, 2) := by decide +kernel
theorem dX5_letterFault_19 : decode cX5_letterFault 19 = .ok (.aload_n 1, 1) := by decide +kernel
theorem dX5_letterFault_20 : decode cX5_letterFault 20 = .ok (.iload_n 2, 1) := by decide +kernel
theorem dX5_letterFault_21 : decode cX5_letterFault 21 = .ok (.iconst 2, 1) := by decide +kernel
theorem dX5_letterFault_22 : decode cX5_letterFault 22 = .ok (.iadd, 1) := by decide +kernel
theorem dX5_letterFault_23 : decode cX5_letterFault 23 = .ok (.invokestatic 45, 3) := by decide +kernel
theorem dX5_letterFault_26 : decode cX5_letterFault 26 = .ok (.istore 5, 2) := by decide +kernel
theorem dX5_letterFault_28 : decode cX5_letterFault 28 = .ok (.iload_n 3, 1) := by decide +kernel
theorem dX5_letterFault_29 : decode cX5_letterFault 29 = .ok (.bipush (-9), 2) := by decide +kernel
theorem dX5_letterFault_31 : decode cX5_letterFault 31 = .ok (.if_icmp .eq 25, 3) := by decide +kernel
theorem dX5_letterFault_34 : decode cX5_letterFault 34 = .ok (.aload_n 0, 1) := by decide +kernel
theorem dX5_letterFault_35 : decode cX5_letterFault 35 = .ok (.getfield 12, 3) := by decide +kernel
theorem dX5_letterFault_38 : decode cX5_letterFault 38 = .ok (.getfield 18, 3) := by decide +kernel
theorem dX5_letterFault_41 : decode cX5_letterFault 41 = .ok (.ifCond .eq 15, 3) := by decide +kernel
theorem dX5_letterFault_44 : decode cX5_letterFault 44 = .ok (.aload_n 0, 1) := by decide +kernel
theorem dX5_letterFault_45 : decode cX5_letterFault 45 = .ok (.getfield 12, 3) := by decide +kernel
theorem dX5_letterFault_48 : decode cX5_letterFault 48 = .ok (.getfield 22, 3) := by decide +kernel
theorem dX5_letterFault_51 : decode cX5_letterFault 51 = .ok (.bipush 6, 2) := by decide +kernel
theorem dX5_letterFault_53 : decode cX5_letterFault 53 = .ok (.if_icmp .lt 5, 3) := by decide +kernel
theorem dX5_letterFault_56 : decode cX5_letterFault 56 = .ok (.iload_n 2, 1) := by decide +kernel
theorem dX5_letterFault_57 : decode cX5_letterFault 57 = .ok (.ireturn, 1) := by decide +kernel
theorem dX5_letterFault_58 : decode cX5_letterFault 58 = .ok (.iload 4, 2) := by decide +kernel
theorem dX5_letterFault_60 : decode cX5_letterFault 60 = .ok (.iconst (-1), 1) := by decide +kernel
theorem dX5_letterFault_61 : decode cX5_letterFault 61 = .ok (.if_icmp .eq 15, 3) := by decide +kernel
theorem dX5_letterFault_64 : decode cX5_letterFault 64 = .ok (.iload 4, 2) := by decide +kernel
theorem dX5_letterFault_66 : decode cX5_letterFault 66 = .ok (.aload_n 0, 1) := by decide +kernel
theorem dX5_letterFault_67 : decode cX5_letterFault 67 = .ok (.getfield 12, 3) := by decide +kernel
theorem dX5_letterFault_70 : decode cX5_letterFault 70 = .ok (.getfield 18, 3) := by decide +kernel
theorem dX5_letterFault_73 : decode cX5_letterFault 73 = .ok (.if_icmp .lt 7, 3) := by decide +kernel
theorem dX5_letterFault_76 : decode cX5_letterFault 76 = .ok (.iload_n 2, 1) := by decide +kernel
theorem dX5_letterFault_77 : decode cX5_letterFault 77 = .ok (.iconst 1, 1) := by decide +kernel
theorem dX5_letterFault_78 : decode cX5_letterFault 78 = .ok (.iadd, 1) := by decide +kernel
theorem dX5_letterFault_79 : decode cX5_letterFault 79 = .ok (.ireturn, 1) := by decide +kernel
theorem dX5_letterFault_80 : decode cX5_letterFault 80 = .ok (.iload 5, 2) := by decide +kernel
theorem dX5_letterFault_82 : decode cX5_letterFault 82 = .ok (.iconst (-1), 1) := by decide +kernel
theorem dX5_letterFault_83 : decode cX5_letterFault 83 = .ok (.if_icmp .ne 7, 3) := by decide +kernel
theorem dX5_letterFault_86 : decode cX5_letterFault 86 = .ok (.iload_n 2, 1) := by decide +kernel
theorem dX5_letterFault_87 : decode cX5_letterFault 87 = .ok (.iconst 2, 1) := by decide +kernel
theorem dX5_letterFault_88 : decode cX5_letterFault 88 = .ok (.iadd, 1) := by decide +kernel
theorem dX5_letterFault_89 : decode cX5_letterFault 89 = .ok (.ireturn, 1) := by decide +kernel
theorem dX5_letterFault_90 : decode cX5_letterFault 90 = .ok (.aload_n 0, 1) := by decide +kernel
theorem dX5_letterFault_91 : decode cX5_letterFault 91 = .ok (.getfield 12, 3) := by decide +kernel
theorem dX5_letterFault_94 : decode cX5_letterFault 94 = .ok (.getfield 69, 3) := by decide +kernel
theorem dX5_letterFault_97 : decode cX5_letterFault 97 = .ok (.aload_n 0, 1) := by decide +kernel
theorem dX5_letterFault_98 : decode cX5_letterFault 98 = .ok (.getfield 12, 3) := by decide +kernel
theorem dX5_letterFault_101 : decode cX5_letterFault 101 = .ok (.getfield 22, 3) := by decide +kernel
theorem dX5_letterFault_104 : decode cX5_letterFault 104 = .ok (.iload_n 3, 1) := by decide +kernel
theorem dX5_letterFault_105 : decode cX5_letterFault 105 = .ok (.iastore, 1) := by decide +kernel
theorem dX5_letterFault_106 : decode cX5_letterFault 106 = .ok (.aload_n 0, 1) := by decide +kernel
theorem dX5_letterFault_107 : decode cX5_letterFault 107 = .ok (.getfield 12, 3) := by decide +kernel
theorem dX5_letterFault_110 : decode cX5_letterFault 110 = .ok (.getfield 72, 3) := by decide +kernel
theorem dX5_letterFault_113 : decode cX5_letterFault 113 = .ok (.aload_n 0, 1) := by decide +kernel
theorem dX5_letterFault_114 : decode cX5_letterFault 114 = .ok (.getfield 12, 3) := by decide +kernel
theorem dX5_letterFault_117 : decode cX5_letterFault 117 = .ok (.getfield 22, 3) := by decide +kernel
theorem dX5_letterFault_120 : decode cX5_letterFault 120 = .ok (.iload 4, 2) := by decide +kernel
theorem dX5_letterFault_122 : decode cX5_letterFault 122 = .ok (.iastore, 1) := by decide +kernel
theorem dX5_letterFault_123 : decode cX5_letterFault 123 = .ok (.aload_n 0, 1) := by decide +kernel
theorem dX5_letterFault_124 : decode cX5_letterFault 124 = .ok (.getfield 12, 3) := by decide +kernel
theorem dX5_letterFault_127 : decode cX5_letterFault 127 = .ok (.getfield 75, 3) := by decide +kernel
theorem dX5_letterFault_130 : decode cX5_letterFault 130 = .ok (.aload_n 0, 1) := by decide +kernel
theorem dX5_letterFault_131 : decode cX5_letterFault 131 = .ok (.getfield 12, 3) := by decide +kernel
theorem dX5_letterFault_134 : decode cX5_letterFault 134 = .ok (.getfield 22, 3) := by decide +kernel
theorem dX5_letterFault_137 : decode cX5_letterFault 137 = .ok (.iload 5, 2) := by decide +kernel
theorem dX5_letterFault_139 : decode cX5_letterFault 139 = .ok (.iastore, 1) := by decide +kernel
theorem dX5_letterFault_140 : decode cX5_letterFault 140 = .ok (.aload_n 0, 1) := by decide +kernel
theorem dX5_letterFault_141 : decode cX5_letterFault 141 = .ok (.getfield 12, 3) := by decide +kernel
theorem dX5_letterFault_144 : decode cX5_letterFault 144 = .ok (.dup, 1) := by decide +kernel
theorem dX5_letterFault_145 : decode cX5_letterFault 145 = .ok (.getfield 22, 3) := by decide +kernel
theorem dX5_letterFault_148 : decode cX5_letterFault 148 = .ok (.iconst 1, 1) := by decide +kernel
theorem dX5_letterFault_149 : decode cX5_letterFault 149 = .ok (.iadd, 1) := by decide +kernel
theorem dX5_letterFault_150 : decode cX5_letterFault 150 = .ok (.putfield 22, 3) := by decide +kernel
theorem dX5_letterFault_153 : decode cX5_letterFault 153 = .ok (.bipush (-9), 2) := by decide +kernel
theorem dX5_letterFault_155 : decode cX5_letterFault 155 = .ok (.ireturn, 1) := by decide +kernel
set_option maxRecDepth 20000 in
theorem w_X5_letterFault_b56 {w : zWd} {X : zX} {l0 : Launch} {r : Int32} {S1 : zMem} (C : zC LC w X l0 cX5_letterFault RX5 6 3 (some .int)) {x2 : Int32} {S : zMem} {ls : Array Slot} (hl : lv_has ls 6 [(2, .int x2)]) (h : X5_letterFault_b56 x2 S = some (r, S1)) : zV LC w X (some (.int r)) S1 S 56 ls [] := by
  unfold X5_letterFault_b56 at h
  refine v_iload_n 56 C dX5_letterFault_56 rfl (lv_at hl 0 rfl) ?_
  exact v_ireturn 57 C dX5_letterFault_57 h
set_option maxRecDepth 20000 in
theorem w_X5_letterFault_b76 {w : zWd} {X : zX} {l0 : Launch} {r : Int32} {S1 : zMem} (C : zC LC w X l0 cX5_letterFault RX5 6 3 (some .int)) {x2 : Int32} {S : zMem} {ls : Array Slot} (hl : lv_has ls 6 [(2, .int x2)]) (h : X5_letterFault_b76 x2 S = some (r, S1)) : zV LC w X (some (.int r)) S1 S 76 ls [] := by
  unfold X5_letterFault_b76 at h
  refine v_iload_n 76 C dX5_letterFault_76 rfl (lv_at hl 0 rfl) ?_
  refine v_iconst 77 C (v := (1 : Int32)) dX5_letterFault_77 (by decide) ?_
  refine v_iadd 78 C dX5_letterFault_78 h (fun v1 h => ?_)
  exact v_ireturn 79 C dX5_letterFault_79 h
set_option maxRecDepth 20000 in
theorem w_X5_letterFault_b0 {w : zWd} {X : zX} {l0 : Launch} {r : Int32} {S1 : zMem} (C : zC LC w X l0 cX5_letterFault RX5 6 3 (some .int)) {c1 : Nat} {x2 : Int32} {S : zMem} {ls : Array Slot} (hl : lv_has ls 6 [(0, .ref (w.2.2.1 29)), (1, .ref (w.2.2.1 c1)), (2, .int x2)]) (hk_c1 : c1 < LC.1 ∧ LC.2.1 c1 = 9) (h : X5_letterFault_b0 c1 x2 S = some (r, S1)) : zV LC w X (some (.int r)) S1 S 0 ls [] := by
  unfold X5_letterFault_b0 at h
  refine v_aload_n 0 C dX5_letterFault_0 rfl (lv_at hl 1 rfl) ?_
  refine v_getr 1 (c1 + 1) C dX5_letterFault_1 fl_X5_30 rfl hk_c1 (rS1 hk_c1) ?_
  refine v_iload_n 4 C dX5_letterFault_4 rfl (lv_at hl 2 rfl) ?_
  refine v_iald 5 C dX5_letterFault_5 (kS1 hk_c1) rfl h (fun v1 h => ?_)
  obtain ⟨v2, S, hc, h⟩ := zb_e h
  refine v_callSi 6 C [] dX5_letterFault_6 ml_X5_63 hy_X1_bySign (c_X1_bySign  hc) (by decide) rfl hl.1 (Nat.le_of_ble_eq_true rfl) rfl ?_
  refine v_istore_n 9 C [(3, .int v2), (0, .ref (w.2.2.1 29)), (1, .ref (w.2.2.1 c1)), (2, .int x2)] dX5_letterFault_9 rfl hl (by decide) rfl (fun ls hl => ?_)
  refine v_aload_n 10 C dX5_letterFault_10 rfl (lv_at hl 2 rfl) ?_
  refine v_iload_n 11 C dX5_letterFault_11 rfl (lv_at hl 3 rfl) ?_
  refine v_iconst 12 C (v := (1 : Int32)) dX5_letterFault_12 (by decide) ?_
  refine v_iadd 13 C dX5_letterFault_13 h (fun v3 h => ?_)
  obtain ⟨v4, S, hc, h⟩ := zb_e h
  refine v_callSi 14 C [] dX5_letterFault_14 ml_X5_45 hy_X5_figureAt (c_X5_figureAt hk_c1 hc) (by decide) rfl hl.1 (Nat.le_of_ble_eq_true rfl) rfl ?_
  refine v_istore 17 C [(4, .int v4), (3, .int v2), (0, .ref (w.2.2.1 29)), (1, .ref (w.2.2.1 c1)), (2, .int x2)] dX5_letterFault_17 hl (by decide) rfl (fun ls hl => ?_)
  refine v_aload_n 19 C dX5_letterFault_19 rfl (lv_at hl 3 rfl) ?_
  refine v_iload_n 20 C dX5_letterFault_20 rfl (lv_at hl 4 rfl) ?_
  refine v_iconst 21 C (v := (2 : Int32)) dX5_letterFault_21 (by decide) ?_
  refine v_iadd 22 C dX5_letterFault_22 h (fun v5 h => ?_)
  obtain ⟨v6, S, hc, h⟩ := zb_e h
  refine v_callSi 23 C [] dX5_letterFault_23 ml_X5_45 hy_X5_figureAt (c_X5_figureAt hk_c1 hc) (by decide) rfl hl.1 (Nat.le_of_ble_eq_true rfl) rfl ?_
  refine v_istore 26 C [(5, .int v6), (4, .int v4), (3, .int v2), (0, .ref (w.2.2.1 29)), (1, .ref (w.2.2.1 c1)), (2, .int x2)] dX5_letterFault_26 hl (by decide) rfl (fun ls hl => ?_)
  refine v_iload_n 28 C dX5_letterFault_28 rfl (lv_at hl 2 rfl) ?_
  refine v_bipush 29 C (v := (-9 : Int32)) dX5_letterFault_29 (by decide) ?_
  refine v_icmp_eq 31 56 C dX5_letterFault_31 (by decide) h (fun h => ?_) (fun h => ?_)
  · exact w_X5_letterFault_b56 C (lv_sub hl [5] rfl) h
  · refine v_aload_n 34 C dX5_letterFault_34 rfl (lv_at hl 3 rfl) ?_
    refine v_getr 35 (30) C dX5_letterFault_35 fl_X5_12 rfl kC_29 rfl ?_
    refine v_geti 38 C dX5_letterFault_38 fl_X5_18 rfl kC_30 h (fun v7 h => ?_)
    refine v_if_eq 41 56 C dX5_letterFault_41 (by decide) h (fun h => ?_) (fun h => ?_)
    · exact w_X5_letterFault_b56 C (lv_sub hl [5] rfl) h
    · refine v_aload_n 44 C dX5_letterFault_44 rfl (lv_at hl 3 rfl) ?_
      refine v_getr 45 (30) C dX5_letterFault_45 fl_X5_12 rfl kC_29 rfl ?_
      refine v_geti 48 C dX5_letterFault_48 fl_X5_22 rfl kC_30 h (fun v8 h => ?_)
      refine v_bipush 51 C (v := (6 : Int32)) dX5_letterFault_51 (by decide) ?_
      refine v_icmp_lt 53 58 C dX5_letterFault_53 (by decide) h (fun h => ?_) (fun h => ?_)
      · refine v_iload 58 C dX5_letterFault_58 (lv_at hl 1 rfl) ?_
        refine v_iconst 60 C (v := (-1 : Int32)) dX5_letterFault_60 (by decide) ?_
        refine v_icmp_eq 61 76 C dX5_letterFault_61 (by decide) h (fun h => ?_) (fun h => ?_)
        · exact w_X5_letterFault_b76 C (lv_sub hl [5] rfl) h
        · refine v_iload 64 C dX5_letterFault_64 (lv_at hl 1 rfl) ?_
          refine v_aload_n 66 C dX5_letterFault_66 rfl (lv_at hl 3 rfl) ?_
          refine v_getr 67 (30) C dX5_letterFault_67 fl_X5_12 rfl kC_29 rfl ?_
          refine v_geti 70 C dX5_letterFault_70 fl_X5_18 rfl kC_30 h (fun v9 h => ?_)
          refine v_icmp_lt 73 80 C dX5_letterFault_73 (by decide) h (fun h => ?_) (fun h => ?_)
          · refine v_iload 80 C dX5_letterFault_80 (lv_at hl 0 rfl) ?_
            refine v_iconst 82 C (v := (-1 : Int32)) dX5_letterFault_82 (by decide) ?_
            refine v_icmp_ne 83 90 C dX5_letterFault_83 (by decide) h (fun h => ?_) (fun h => ?_)
            · refine v_aload_n 90 C dX5_letterFault_90 rfl (lv_at hl 3 rfl) ?_
              refine v_getr 91 (30) C dX5_letterFault_91 fl_X5_12 rfl kC_29 rfl ?_
              refine v_getr 94 (32) C dX5_letterFault_94 fl_X5_69 rfl kC_30 rfl ?_
              refine v_aload_n 97 C dX5_letterFault_97 rfl (lv_at hl 3 rfl) ?_
              refine v_getr 98 (30) C dX5_letterFault_98 fl_X5_12 rfl kC_29 rfl ?_
              refine v_geti 101 C dX5_letterFault_101 fl_X5_22 rfl kC_30 h (fun v10 h => ?_)
              refine v_iload_n 104 C dX5_letterFault_104 rfl (lv_at hl 2 rfl) ?_
              refine v_iast 105 C dX5_letterFault_105 kC_32 rfl h (fun S h => ?_)
              refine v_aload_n 106 C dX5_letterFault_106 rfl (lv_at hl 3 rfl) ?_
              refine v_getr 107 (30) C dX5_letterFault_107 fl_X5_12 rfl kC_29 rfl ?_
              refine v_getr 110 (33) C dX5_letterFault_110 fl_X5_72 rfl kC_30 rfl ?_
              refine v_aload_n 113 C dX5_letterFault_113 rfl (lv_at hl 3 rfl) ?_
              refine v_getr 114 (30) C dX5_letterFault_114 fl_X5_12 rfl kC_29 rfl ?_
              refine v_geti 117 C dX5_letterFault_117 fl_X5_22 rfl kC_30 h (fun v11 h => ?_)
              refine v_iload 120 C dX5_letterFault_120 (lv_at hl 1 rfl) ?_
              refine v_iast 122 C dX5_letterFault_122 kC_33 rfl h (fun S h => ?_)
              refine v_aload_n 123 C dX5_letterFault_123 rfl (lv_at hl 3 rfl) ?_
              refine v_getr 124 (30) C dX5_letterFault_124 fl_X5_12 rfl kC_29 rfl ?_
              refine v_getr 127 (34) C dX5_letterFault_127 fl_X5_75 rfl kC_30 rfl ?_
              refine v_aload_n 130 C dX5_letterFault_130 rfl (lv_at hl 3 rfl) ?_
              refine v_getr 131 (30) C dX5_letterFault_131 fl_X5_12 rfl kC_29 rfl ?_
              refine v_geti 134 C dX5_letterFault_134 fl_X5_22 rfl kC_30 h (fun v12 h => ?_)
              refine v_iload 137 C dX5_letterFault_137 (lv_at hl 0 rfl) ?_
              refine v_iast 139 C dX5_letterFault_139 kC_34 rfl h (fun S h => ?_)
              refine v_aload_n 140 C dX5_letterFault_140 rfl (lv_at hl 3 rfl) ?_
              refine v_getr 141 (30) C dX5_letterFault_141 fl_X5_12 rfl kC_29 rfl ?_
              refine v_dup 144 C dX5_letterFault_144 rfl ?_
              refine v_geti 145 C dX5_letterFault_145 fl_X5_22 rfl kC_30 h (fun v13 h => ?_)
              refine v_iconst 148 C (v := (1 : Int32)) dX5_letterFault_148 (by decide) ?_
              refine v_iadd 149 C dX5_letterFault_149 h (fun v14 h => ?_)
              refine v_puti 150 C dX5_letterFault_150 fl_X5_22 fp_5_5 rfl kC_30 h (fun S h => ?_)
              refine v_bipush 153 C (v := (-9 : Int32)) dX5_letterFault_153 (by decide) ?_
              exact v_ireturn 155 C dX5_letterFault_155 h
            · refine v_iload_n 86 C dX5_letterFault_86 rfl (lv_at hl 5 rfl) ?_
              refine v_iconst 87 C (v := (2 : Int32)) dX5_letterFault_87 (by decide) ?_
              refine v_iadd 88 C dX5_letterFault_88 h (fun v15 h => ?_)
              exact v_ireturn 89 C dX5_letterFault_89 h
          · exact w_X5_letterFault_b76 C (lv_sub hl [5] rfl) h
      · exact w_X5_letterFault_b56 C (lv_sub hl [5] rfl) h
theorem c_X5_letterFault {w : zWd} {l0 : Launch} {c1 : Nat} {x2 : Int32} {S S1 : zMem} {r : Int32} (hk_c1 : c1 < LC.1 ∧ LC.2.1 c1 = 9) (h : f_X5_letterFault c1 x2 S = some (r, S1)) : zMet LC w l0 yX5_letterFault cX5_letterFault 6 (some .int) 3 [.ref (w.2.2.1 29), .ref (w.2.2.1 c1), .int x2] S (some (.int r)) S1 :=
  zMet_of (by decide +kernel) (Nat.le_of_ble_eq_true rfl) (fun X ls C hl => w_X5_letterFault_b0 C hl hk_c1 h)
theorem ml_X5_57 : Cond.methodLink RX5 57 yX5_letterFault ∈ zT := zT_of (List.mem_of_getElem? (i := 459) (by decide +kernel)) rfl
theorem hy_X5_letterFault : zYv yX5_letterFault cX5_letterFault 6 (some .int) 2 := ⟨⟨zT_of (List.mem_of_getElem? (i := 462) (by decide +kernel)) rfl, zT_of (List.mem_of_getElem? (i := 72) (by decide +kernel)) rfl, by decide, by decide +kernel, by decide +kernel, by decide +kernel⟩, zT_of (List.mem_of_getElem? (i := 461) (by decide +kernel)) rfl, zT_of (List.mem_of_getElem? (i := 4) (by decide +kernel)) rfl⟩
theorem ml_X5_54 : Cond.methodLink RX5 54 yX5_houseFault ∈ zT := zT_of (List.mem_of_getElem? (i := 451) (by decide +kernel)) rfl
theorem hy_X5_houseFault : zYv yX5_houseFault cX5_houseFault 5 (some .int) 2 := ⟨⟨zT_of (List.mem_of_getElem? (i := 454) (by decide +kernel)) rfl, zT_of (List.mem_of_getElem? (i := 72) (by decide +kernel)) rfl, by decide, by decide +kernel, by decide +kernel, by decide +kernel⟩, zT_of (List.mem_of_getElem? (i := 453) (by decide +kernel)) rfl, zT_of (List.mem_of_getElem? (i := 3) (by decide +kernel)) rfl⟩
theorem dX5_itemFault_0 : decode cX5_itemFault 0 = .ok (.aload_n 1, 1) := by decide +kernel
theorem dX5_itemFault_1 : decode cX5_itemFault 1 = .ok (.getfield 30, 3) := by decide +kernel
theorem dX5_itemFault_4 : decode cX5_itemFault 4 = .ok (.iload_n 2, 1) := by decide +kernel
theorem dX5_itemFault_5 : decode cX5_itemFault 5 = .ok (.iaload, 1) := by decide +kernel
theorem dX5_itemFault_6 : decode cX5_itemFault 6 = .ok (.bipush 104, 2) := by decide +kernel
theorem dX5_itemFault_8 : decode cX5_itemFault 8 = .ok (.if_icmp .ne 12, 3) := by decide +kernel
theorem dX5_itemFault_11 : decode cX5_itemFault 11 = .ok (.aload_n 0, 1) := by decide +kernel
theorem dX5_itemFault_12 : decode cX5_itemFault 12 = .ok (.aload_n 1, 1) := by decide +kernel
theorem dX5_itemFault_13 : decode cX5_itemFault 13 = .ok (.iload_n 2, 1) := by decide +kernel
theorem dX5_itemFault_14 : decode cX5_itemFault 14 = .ok (.invokevirtual 54, 3) := by decide +kernel
theorem dX5_itemFault_17 : decode cX5_itemFault 17 = .ok (.goto 9, 3) := by decide +kernel
theorem dX5_itemFault_20 : decode cX5_itemFault 20 = .ok (.aload_n 0, 1) := by decide +kernel
theorem dX5_itemFault_21 : decode cX5_itemFault 21 = .ok (.aload_n 1, 1) := by decide +kernel
theorem dX5_itemFault_22 : decode cX5_itemFault 22 = .ok (.iload_n 2, 1) := by decide +kernel
theorem dX5_itemFault_23 : decode cX5_itemFault 23 = .ok (.invokevirtual 57, 3) := by decide +kernel
theorem dX5_itemFault_26 : decode cX5_itemFault 26 = .ok (.ireturn, 1) := by decide +kernel
set_option maxRecDepth 20000 in
theorem w_X5_itemFault_b26 {w : zWd} {X : zX} {l0 : Launch} {r : Int32} {S1 : zMem} (C : zC LC w X l0 cX5_itemFault RX5 3 4 (some .int)) {s0 : Int32} {S : zMem} {ls : Array Slot} (hl : lv_has ls 3 []) (h : X5_itemFault_b26 s0 S = some (r, S1)) : zV LC w X (some (.int r)) S1 S 26 ls [.int s0] := by
  unfold X5_itemFault_b26 at h
  exact v_ireturn 26 C dX5_itemFault_26 h
set_option maxRecDepth 20000 in
theorem w_X5_itemFault_b0 {w : zWd} {X : zX} {l0 : Launch} {r : Int32} {S1 : zMem} (C : zC LC w X l0 cX5_itemFault RX5 3 4 (some .int)) {c1 : Nat} {x2 : Int32} {S : zMem} {ls : Array Slot} (hl : lv_has ls 3 [(0, .ref (w.2.2.1 29)), (1, .ref (w.2.2.1 c1)), (2, .int x2)]) (hk_c1 : c1 < LC.1 ∧ LC.2.1 c1 = 9) (h : X5_itemFault_b0 c1 x2 S = some (r, S1)) : zV LC w X (some (.int r)) S1 S 0 ls [] := by
  unfold X5_itemFault_b0 at h
  refine v_aload_n 0 C dX5_itemFault_0 rfl (lv_at hl 1 rfl) ?_
  refine v_getr 1 (c1 + 1) C dX5_itemFault_1 fl_X5_30 rfl hk_c1 (rS1 hk_c1) ?_
  refine v_iload_n 4 C dX5_itemFault_4 rfl (lv_at hl 2 rfl) ?_
  refine v_iald 5 C dX5_itemFault_5 (kS1 hk_c1) rfl h (fun v1 h => ?_)
  refine v_bipush 6 C (v := (104 : Int32)) dX5_itemFault_6 (by decide) ?_
  refine v_icmp_ne 8 20 C dX5_itemFault_8 (by decide) h (fun h => ?_) (fun h => ?_)
  · refine v_aload_n 20 C dX5_itemFault_20 rfl (lv_at hl 0 rfl) ?_
    refine v_aload_n 21 C dX5_itemFault_21 rfl (lv_at hl 1 rfl) ?_
    refine v_iload_n 22 C dX5_itemFault_22 rfl (lv_at hl 2 rfl) ?_
    obtain ⟨v2, S, hc, h⟩ := zb_e h
    refine v_callVi 23 C (ci := 4) [] dX5_itemFault_23 ml_X5_57 hy_X5_letterFault (c_X5_letterFault hk_c1 hc) (by decide) rfl hl.1 kC_29 rfl (Nat.le_of_ble_eq_true rfl) rfl ?_
    exact w_X5_itemFault_b26 C (lv_sub hl [] rfl) h
  · refine v_aload_n 11 C dX5_itemFault_11 rfl (lv_at hl 0 rfl) ?_
    refine v_aload_n 12 C dX5_itemFault_12 rfl (lv_at hl 1 rfl) ?_
    refine v_iload_n 13 C dX5_itemFault_13 rfl (lv_at hl 2 rfl) ?_
    obtain ⟨v3, S, hc, h⟩ := zb_e h
    refine v_callVi 14 C (ci := 4) [] dX5_itemFault_14 ml_X5_54 hy_X5_houseFault (c_X5_houseFault hk_c1 hc) (by decide) rfl hl.1 kC_29 rfl (Nat.le_of_ble_eq_true rfl) rfl ?_
    refine v_goto 17 26 C dX5_itemFault_17 (by decide) ?_
    exact w_X5_itemFault_b26 C (lv_sub hl [] rfl) h
theorem c_X5_itemFault {w : zWd} {l0 : Launch} {c1 : Nat} {x2 : Int32} {S S1 : zMem} {r : Int32} (hk_c1 : c1 < LC.1 ∧ LC.2.1 c1 = 9) (h : f_X5_itemFault c1 x2 S = some (r, S1)) : zMet LC w l0 yX5_itemFault cX5_itemFault 3 (some .int) 4 [.ref (w.2.2.1 29), .ref (w.2.2.1 c1), .int x2] S (some (.int r)) S1 :=
  zMet_of (by decide +kernel) (Nat.le_of_ble_eq_true rfl) (fun X ls C hl => w_X5_itemFault_b0 C hl hk_c1 h)
theorem fl_X5_48 : zFL RX5 48 5 6 := ⟨_, rfl, by decide, zT_of (List.mem_of_getElem? (i := 124) (by decide +kernel)) rfl⟩
theorem fp_5_6 : zFP 5 6 .int := fun q h => by cases h; exact ⟨rfl, by decide +kernel⟩
theorem fl_X5_51 : zFL RX5 51 5 7 := ⟨_, rfl, by decide, zT_of (List.mem_of_getElem? (i := 127) (by decide +kernel)) rfl⟩
theorem fp_5_7 : zFP 5 7 .int := fun q h => by cases h; exact ⟨rfl, by decide +kernel⟩
theorem dX5_postmanFault_0 : decode cX5_postmanFault 0 = .ok (.aload_n 1, 1) := by decide +kernel
theorem dX5_postmanFault_1 : decode cX5_postmanFault 1 = .ok (.iload_n 2, 1) := by decide +kernel
theorem dX5_postmanFault_2 : decode cX5_postmanFault 2 = .ok (.iconst 1, 1) := by decide +kernel
theorem dX5_postmanFault_3 : decode cX5_postmanFault 3 = .ok (.iadd, 1) := by decide +kernel
theorem dX5_postmanFault_4 : decode cX5_postmanFault 4 = .ok (.invokestatic 45, 3) := by decide +kernel
theorem dX5_postmanFault_7 : decode cX5_postmanFault 7 = .ok (.istore_n 3, 1) := by decide +kernel
theorem dX5_postmanFault_8 : decode cX5_postmanFault 8 = .ok (.aload_n 1, 1) := by decide +kernel
theorem dX5_postmanFault_9 : decode cX5_postmanFault 9 = .ok (.iload_n 2, 1) := by decide +kernel
theorem dX5_postmanFault_10 : decode cX5_postmanFault 10 = .ok (.iconst 2, 1) := by decide +kernel
theorem dX5_postmanFault_11 : decode cX5_postmanFault 11 = .ok (.iadd, 1) := by decide +kernel
theorem dX5_postmanFault_12 : decode cX5_postmanFault 12 = .ok (.invokestatic 45, 3) := by decide +kernel
theorem dX5_postmanFault_15 : decode cX5_postmanFault 15 = .ok (.istore 4, 2) := by decide +kernel
theorem dX5_postmanFault_17 : decode cX5_postmanFault 17 = .ok (.aload_n 1, 1) := by decide +kernel
theorem dX5_postmanFault_18 : decode cX5_postmanFault 18 = .ok (.getfield 30, 3) := by decide +kernel
theorem dX5_postmanFault_21 : decode cX5_postmanFault 21 = .ok (.iload_n 2, 1) := by decide +kernel
theorem dX5_postmanFault_22 : decode cX5_postmanFault 22 = .ok (.iaload, 1) := by decide +kernel
theorem dX5_postmanFault_23 : decode cX5_postmanFault 23 = .ok (.bipush 112, 2) := by decide +kernel
theorem dX5_postmanFault_25 : decode cX5_postmanFault 25 = .ok (.if_icmp .eq 5, 3) := by decide +kernel
theorem dX5_postmanFault_28 : decode cX5_postmanFault 28 = .ok (.iload_n 2, 1) := by decide +kernel
theorem dX5_postmanFault_29 : decode cX5_postmanFault 29 = .ok (.ireturn, 1) := by decide +kernel
theorem dX5_postmanFault_30 : decode cX5_postmanFault 30 = .ok (.iload_n 3, 1) := by decide +kernel
theorem dX5_postmanFault_31 : decode cX5_postmanFault 31 = .ok (.iconst (-1), 1) := by decide +kernel
theorem dX5_postmanFault_32 : decode cX5_postmanFault 32 = .ok (.if_icmp .ne 7, 3) := by decide +kernel
theorem dX5_postmanFault_35 : decode cX5_postmanFault 35 = .ok (.iload_n 2, 1) := by decide +kernel
theorem dX5_postmanFault_36 : decode cX5_postmanFault 36 = .ok (.iconst 1, 1) := by decide +kernel
theorem dX5_postmanFault_37 : decode cX5_postmanFault 37 = .ok (.iadd, 1) := by decide +kernel
theorem dX5_postmanFault_38 : decode cX5_postmanFault 38 = .ok (.ireturn, 1) := by decide +kernel
theorem dX5_postmanFault_39 : decode cX5_postmanFault 39 = .ok (.iload 4, 2) := by decide +kernel
theorem dX5_postmanFault_41 : decode cX5_postmanFault 41 = .ok (.iconst (-1), 1) := by decide +kernel
theorem dX5_postmanFault_42 : decode cX5_postmanFault 42 = .ok (.if_icmp .eq 9, 3) := by decide +kernel
theorem dX5_postmanFault_45 : decode cX5_postmanFault 45 = .ok (.iload 4, 2) := by decide +kernel
theorem dX5_postmanFault_47 : decode cX5_postmanFault 47 = .ok (.iconst 2, 1) := by decide +kernel
theorem dX5_postmanFault_48 : decode cX5_postmanFault 48 = .ok (.if_icmp .le 7, 3) := by decide +kernel
theorem dX5_postmanFault_51 : decode cX5_postmanFault 51 = .ok (.iload_n 2, 1) := by decide +kernel
theorem dX5_postmanFault_52 : decode cX5_postmanFault 52 = .ok (.iconst 2, 1) := by decide +kernel
theorem dX5_postmanFault_53 : decode cX5_postmanFault 53 = .ok (.iadd, 1) := by decide +kernel
theorem dX5_postmanFault_54 : decode cX5_postmanFault 54 = .ok (.ireturn, 1) := by decide +kernel
theorem dX5_postmanFault_55 : decode cX5_postmanFault 55 = .ok (.aload_n 0, 1) := by decide +kernel
theorem dX5_postmanFault_56 : decode cX5_postmanFault 56 = .ok (.getfield 12, 3) := by decide +kernel
theorem dX5_postmanFault_59 : decode cX5_postmanFault 59 = .ok (.iload_n 3, 1) := by decide +kernel
theorem dX5_postmanFault_60 : decode cX5_postmanFault 60 = .ok (.putfield 48, 3) := by decide +kernel
theorem dX5_postmanFault_63 : decode cX5_postmanFault 63 = .ok (.aload_n 0, 1) := by decide +kernel
theorem dX5_postmanFault_64 : decode cX5_postmanFault 64 = .ok (.getfield 12, 3) := by decide +kernel
theorem dX5_postmanFault_67 : decode cX5_postmanFault 67 = .ok (.iload 4, 2) := by decide +kernel
theorem dX5_postmanFault_69 : decode cX5_postmanFault 69 = .ok (.putfield 51, 3) := by decide +kernel
theorem dX5_postmanFault_72 : decode cX5_postmanFault 72 = .ok (.bipush (-9), 2) := by decide +kernel
theorem dX5_postmanFault_74 : decode cX5_postmanFault 74 = .ok (.ireturn, 1) := by decide +kernel
set_option maxRecDepth 20000 in
theorem w_X5_postmanFault_b51 {w : zWd} {X : zX} {l0 : Launch} {r : Int32} {S1 : zMem} (C : zC LC w X l0 cX5_postmanFault RX5 5 3 (some .int)) {x2 : Int32} {S : zMem} {ls : Array Slot} (hl : lv_has ls 5 [(2, .int x2)]) (h : X5_postmanFault_b51 x2 S = some (r, S1)) : zV LC w X (some (.int r)) S1 S 51 ls [] := by
  unfold X5_postmanFault_b51 at h
  refine v_iload_n 51 C dX5_postmanFault_51 rfl (lv_at hl 0 rfl) ?_
  refine v_iconst 52 C (v := (2 : Int32)) dX5_postmanFault_52 (by decide) ?_
  refine v_iadd 53 C dX5_postmanFault_53 h (fun v1 h => ?_)
  exact v_ireturn 54 C dX5_postmanFault_54 h
set_option maxRecDepth 20000 in
theorem w_X5_postmanFault_b0 {w : zWd} {X : zX} {l0 : Launch} {r : Int32} {S1 : zMem} (C : zC LC w X l0 cX5_postmanFault RX5 5 3 (some .int)) {c1 : Nat} {x2 : Int32} {S : zMem} {ls : Array Slot} (hl : lv_has ls 5 [(0, .ref (w.2.2.1 29)), (1, .ref (w.2.2.1 c1)), (2, .int x2)]) (hk_c1 : c1 < LC.1 ∧ LC.2.1 c1 = 9) (h : X5_postmanFault_b0 c1 x2 S = some (r, S1)) : zV LC w X (some (.int r)) S1 S 0 ls [] := by
  unfold X5_postmanFault_b0 at h
  refine v_aload_n 0 C dX5_postmanFault_0 rfl (lv_at hl 1 rfl) ?_
  refine v_iload_n 1 C dX5_postmanFault_1 rfl (lv_at hl 2 rfl) ?_
  refine v_iconst 2 C (v := (1 : Int32)) dX5_postmanFault_2 (by decide) ?_
  refine v_iadd 3 C dX5_postmanFault_3 h (fun v1 h => ?_)
  obtain ⟨v2, S, hc, h⟩ := zb_e h
  refine v_callSi 4 C [] dX5_postmanFault_4 ml_X5_45 hy_X5_figureAt (c_X5_figureAt hk_c1 hc) (by decide) rfl hl.1 (Nat.le_of_ble_eq_true rfl) rfl ?_
  refine v_istore_n 7 C [(3, .int v2), (0, .ref (w.2.2.1 29)), (1, .ref (w.2.2.1 c1)), (2, .int x2)] dX5_postmanFault_7 rfl hl (by decide) rfl (fun ls hl => ?_)
  refine v_aload_n 8 C dX5_postmanFault_8 rfl (lv_at hl 2 rfl) ?_
  refine v_iload_n 9 C dX5_postmanFault_9 rfl (lv_at hl 3 rfl) ?_
  refine v_iconst 10 C (v := (2 : Int32)) dX5_postmanFault_10 (by decide) ?_
  refine v_iadd 11 C dX5_postmanFault_11 h (fun v3 h => ?_)
  obtain ⟨v4, S, hc, h⟩ := zb_e h
  refine v_callSi 12 C [] dX5_postmanFault_12 ml_X5_45 hy_X5_figureAt (c_X5_figureAt hk_c1 hc) (by decide) rfl hl.1 (Nat.le_of_ble_eq_true rfl) rfl ?_
  refine v_istore 15 C [(4, .int v4), (3, .int v2), (0, .ref (w.2.2.1 29)), (1, .ref (w.2.2.1 c1)), (2, .int x2)] dX5_postmanFault_15 hl (by decide) rfl (fun ls hl => ?_)
  refine v_aload_n 17 C dX5_postmanFault_17 rfl (lv_at hl 3 rfl) ?_
  refine v_getr 18 (c1 + 1) C dX5_postmanFault_18 fl_X5_30 rfl hk_c1 (rS1 hk_c1) ?_
  refine v_iload_n 21 C dX5_postmanFault_21 rfl (lv_at hl 4 rfl) ?_
  refine v_iald 22 C dX5_postmanFault_22 (kS1 hk_c1) rfl h (fun v5 h => ?_)
  refine v_bipush 23 C (v := (112 : Int32)) dX5_postmanFault_23 (by decide) ?_
  refine v_icmp_eq 25 30 C dX5_postmanFault_25 (by decide) h (fun h => ?_) (fun h => ?_)
  · refine v_iload_n 30 C dX5_postmanFault_30 rfl (lv_at hl 1 rfl) ?_
    refine v_iconst 31 C (v := (-1 : Int32)) dX5_postmanFault_31 (by decide) ?_
    refine v_icmp_ne 32 39 C dX5_postmanFault_32 (by decide) h (fun h => ?_) (fun h => ?_)
    · refine v_iload 39 C dX5_postmanFault_39 (lv_at hl 0 rfl) ?_
      refine v_iconst 41 C (v := (-1 : Int32)) dX5_postmanFault_41 (by decide) ?_
      refine v_icmp_eq 42 51 C dX5_postmanFault_42 (by decide) h (fun h => ?_) (fun h => ?_)
      · exact w_X5_postmanFault_b51 C (lv_sub hl [4] rfl) h
      · refine v_iload 45 C dX5_postmanFault_45 (lv_at hl 0 rfl) ?_
        refine v_iconst 47 C (v := (2 : Int32)) dX5_postmanFault_47 (by decide) ?_
        refine v_icmp_le 48 55 C dX5_postmanFault_48 (by decide) h (fun h => ?_) (fun h => ?_)
        · refine v_aload_n 55 C dX5_postmanFault_55 rfl (lv_at hl 2 rfl) ?_
          refine v_getr 56 (30) C dX5_postmanFault_56 fl_X5_12 rfl kC_29 rfl ?_
          refine v_iload_n 59 C dX5_postmanFault_59 rfl (lv_at hl 1 rfl) ?_
          refine v_puti 60 C dX5_postmanFault_60 fl_X5_48 fp_5_6 rfl kC_30 h (fun S h => ?_)
          refine v_aload_n 63 C dX5_postmanFault_63 rfl (lv_at hl 2 rfl) ?_
          refine v_getr 64 (30) C dX5_postmanFault_64 fl_X5_12 rfl kC_29 rfl ?_
          refine v_iload 67 C dX5_postmanFault_67 (lv_at hl 0 rfl) ?_
          refine v_puti 69 C dX5_postmanFault_69 fl_X5_51 fp_5_7 rfl kC_30 h (fun S h => ?_)
          refine v_bipush 72 C (v := (-9 : Int32)) dX5_postmanFault_72 (by decide) ?_
          exact v_ireturn 74 C dX5_postmanFault_74 h
        · exact w_X5_postmanFault_b51 C (lv_sub hl [4] rfl) h
    · refine v_iload_n 35 C dX5_postmanFault_35 rfl (lv_at hl 4 rfl) ?_
      refine v_iconst 36 C (v := (1 : Int32)) dX5_postmanFault_36 (by decide) ?_
      refine v_iadd 37 C dX5_postmanFault_37 h (fun v6 h => ?_)
      exact v_ireturn 38 C dX5_postmanFault_38 h
  · refine v_iload_n 28 C dX5_postmanFault_28 rfl (lv_at hl 4 rfl) ?_
    exact v_ireturn 29 C dX5_postmanFault_29 h
theorem c_X5_postmanFault {w : zWd} {l0 : Launch} {c1 : Nat} {x2 : Int32} {S S1 : zMem} {r : Int32} (hk_c1 : c1 < LC.1 ∧ LC.2.1 c1 = 9) (h : f_X5_postmanFault c1 x2 S = some (r, S1)) : zMet LC w l0 yX5_postmanFault cX5_postmanFault 5 (some .int) 3 [.ref (w.2.2.1 29), .ref (w.2.2.1 c1), .int x2] S (some (.int r)) S1 :=
  zMet_of (by decide +kernel) (Nat.le_of_ble_eq_true rfl) (fun X ls C hl => w_X5_postmanFault_b0 C hl hk_c1 h)
theorem fl_X5_25 : zFL RX5 25 6 1 := ⟨_, rfl, by decide, zT_of (List.mem_of_getElem? (i := 310) (by decide +kernel)) rfl⟩
theorem ml_X5_38 : Cond.methodLink RX5 38 yX5_postmanFault ∈ zT := zT_of (List.mem_of_getElem? (i := 468) (by decide +kernel)) rfl
theorem hy_X5_postmanFault : zYv yX5_postmanFault cX5_postmanFault 5 (some .int) 2 := ⟨⟨zT_of (List.mem_of_getElem? (i := 471) (by decide +kernel)) rfl, zT_of (List.mem_of_getElem? (i := 72) (by decide +kernel)) rfl, by decide, by decide +kernel, by decide +kernel, by decide +kernel⟩, zT_of (List.mem_of_getElem? (i := 470) (by decide +kernel)) rfl, zT_of (List.mem_of_getElem? (i := 5) (by decide +kernel)) rfl⟩
theorem ml_X5_34 : Cond.methodLink RX5 34 yX5_itemFault ∈ zT := zT_of (List.mem_of_getElem? (i := 447) (by decide +kernel)) rfl
theorem hy_X5_itemFault : zYv yX5_itemFault cX5_itemFault 3 (some .int) 2 := ⟨⟨zT_of (List.mem_of_getElem? (i := 450) (by decide +kernel)) rfl, zT_of (List.mem_of_getElem? (i := 72) (by decide +kernel)) rfl, by decide, by decide +kernel, by decide +kernel, by decide +kernel⟩, zT_of (List.mem_of_getElem? (i := 449) (by decide +kernel)) rfl, zT_of (List.mem_of_getElem? (i := 2) (by decide +kernel)) rfl⟩
theorem dX5_faultOf_0 : decode cX5_faultOf 0 = .ok (.aload_n 0, 1) := by decide +kernel
theorem dX5_faultOf_1 : decode cX5_faultOf 1 = .ok (.getfield 12, 3) := by decide +kernel
theorem dX5_faultOf_4 : decode cX5_faultOf 4 = .ok (.iconst 0, 1) := by decide +kernel
theorem dX5_faultOf_5 : decode cX5_faultOf 5 = .ok (.putfield 18, 3) := by decide +kernel
theorem dX5_faultOf_8 : decode cX5_faultOf 8 = .ok (.aload_n 0, 1) := by decide +kernel
theorem dX5_faultOf_9 : decode cX5_faultOf 9 = .ok (.getfield 12, 3) := by decide +kernel
theorem dX5_faultOf_12 : decode cX5_faultOf 12 = .ok (.iconst 0, 1) := by decide +kernel
theorem dX5_faultOf_13 : decode cX5_faultOf 13 = .ok (.putfield 22, 3) := by decide +kernel
theorem dX5_faultOf_16 : decode cX5_faultOf 16 = .ok (.iconst 0, 1) := by decide +kernel
theorem dX5_faultOf_17 : decode cX5_faultOf 17 = .ok (.istore_n 2, 1) := by decide +kernel
theorem dX5_faultOf_18 : decode cX5_faultOf 18 = .ok (.iconst 0, 1) := by decide +kernel
theorem dX5_faultOf_19 : decode cX5_faultOf 19 = .ok (.istore_n 3, 1) := by decide +kernel
theorem dX5_faultOf_20 : decode cX5_faultOf 20 = .ok (.iload_n 3, 1) := by decide +kernel
theorem dX5_faultOf_21 : decode cX5_faultOf 21 = .ok (.aload_n 1, 1) := by decide +kernel
theorem dX5_faultOf_22 : decode cX5_faultOf 22 = .ok (.getfield 25, 3) := by decide +kernel
theorem dX5_faultOf_25 : decode cX5_faultOf 25 = .ok (.if_icmp .ge 59, 3) := by decide +kernel
theorem dX5_faultOf_28 : decode cX5_faultOf 28 = .ok (.aload_n 1, 1) := by decide +kernel
theorem dX5_faultOf_29 : decode cX5_faultOf 29 = .ok (.getfield 30, 3) := by decide +kernel
theorem dX5_faultOf_32 : decode cX5_faultOf 32 = .ok (.iload_n 3, 1) := by decide +kernel
theorem dX5_faultOf_33 : decode cX5_faultOf 33 = .ok (.iaload, 1) := by decide +kernel
theorem dX5_faultOf_34 : decode cX5_faultOf 34 = .ok (.bipush 32, 2) := by decide +kernel
theorem dX5_faultOf_36 : decode cX5_faultOf 36 = .ok (.if_icmp .ne 9, 3) := by decide +kernel
theorem dX5_faultOf_39 : decode cX5_faultOf 39 = .ok (.iinc 3 1, 3) := by decide +kernel
theorem dX5_faultOf_42 : decode cX5_faultOf 42 = .ok (.goto (-22), 3) := by decide +kernel
theorem dX5_faultOf_45 : decode cX5_faultOf 45 = .ok (.iload_n 2, 1) := by decide +kernel
theorem dX5_faultOf_46 : decode cX5_faultOf 46 = .ok (.ifCond .eq 12, 3) := by decide +kernel
theorem dX5_faultOf_49 : decode cX5_faultOf 49 = .ok (.aload_n 0, 1) := by decide +kernel
theorem dX5_faultOf_50 : decode cX5_faultOf 50 = .ok (.aload_n 1, 1) := by decide +kernel
theorem dX5_faultOf_51 : decode cX5_faultOf 51 = .ok (.iload_n 3, 1) := by decide +kernel
theorem dX5_faultOf_52 : decode cX5_faultOf 52 = .ok (.invokevirtual 34, 3) := by decide +kernel
theorem dX5_faultOf_55 : decode cX5_faultOf 55 = .ok (.goto 9, 3) := by decide +kernel
theorem dX5_faultOf_58 : decode cX5_faultOf 58 = .ok (.aload_n 0, 1) := by decide +kernel
theorem dX5_faultOf_59 : decode cX5_faultOf 59 = .ok (.aload_n 1, 1) := by decide +kernel
theorem dX5_faultOf_60 : decode cX5_faultOf 60 = .ok (.iload_n 3, 1) := by decide +kernel
theorem dX5_faultOf_61 : decode cX5_faultOf 61 = .ok (.invokevirtual 38, 3) := by decide +kernel
theorem dX5_faultOf_64 : decode cX5_faultOf 64 = .ok (.istore 4, 2) := by decide +kernel
theorem dX5_faultOf_66 : decode cX5_faultOf 66 = .ok (.iload 4, 2) := by decide +kernel
theorem dX5_faultOf_68 : decode cX5_faultOf 68 = .ok (.bipush (-9), 2) := by decide +kernel
theorem dX5_faultOf_70 : decode cX5_faultOf 70 = .ok (.if_icmp .eq 6, 3) := by decide +kernel
theorem dX5_faultOf_73 : decode cX5_faultOf 73 = .ok (.iload 4, 2) := by decide +kernel
theorem dX5_faultOf_75 : decode cX5_faultOf 75 = .ok (.ireturn, 1) := by decide +kernel
theorem dX5_faultOf_76 : decode cX5_faultOf 76 = .ok (.iconst 1, 1) := by decide +kernel
theorem dX5_faultOf_77 : decode cX5_faultOf 77 = .ok (.istore_n 2, 1) := by decide +kernel
theorem dX5_faultOf_78 : decode cX5_faultOf 78 = .ok (.iinc 3 3, 3) := by decide +kernel
theorem dX5_faultOf_81 : decode cX5_faultOf 81 = .ok (.goto (-61), 3) := by decide +kernel
theorem dX5_faultOf_84 : decode cX5_faultOf 84 = .ok (.aload_n 0, 1) := by decide +kernel
theorem dX5_faultOf_85 : decode cX5_faultOf 85 = .ok (.getfield 12, 3) := by decide +kernel
theorem dX5_faultOf_88 : decode cX5_faultOf 88 = .ok (.getfield 22, 3) := by decide +kernel
theorem dX5_faultOf_91 : decode cX5_faultOf 91 = .ok (.ifCond .le 8, 3) := by decide +kernel
theorem dX5_faultOf_94 : decode cX5_faultOf 94 = .ok (.bipush (-9), 2) := by decide +kernel
theorem dX5_faultOf_96 : decode cX5_faultOf 96 = .ok (.goto 7, 3) := by decide +kernel
theorem dX5_faultOf_99 : decode cX5_faultOf 99 = .ok (.aload_n 1, 1) := by decide +kernel
theorem dX5_faultOf_100 : decode cX5_faultOf 100 = .ok (.getfield 25, 3) := by decide +kernel
theorem dX5_faultOf_103 : decode cX5_faultOf 103 = .ok (.ireturn, 1) := by decide +kernel
set_option maxRecDepth 20000 in
theorem w_X5_faultOf_b64 {w : zWd} {X : zX} {l0 : Launch} {r : Int32} {S1 : zMem} (C : zC LC w X l0 cX5_faultOf RX5 5 5 (some .int)) {k20 : Nat → Int32 → Int32 → zMem → Option (Int32 × zMem)} (hc20 : ∀ (c1 : Nat) (x2 : Int32) (x3 : Int32) (S : zMem) (ls : Array Slot), lv_has ls 5 [(0, .ref (w.2.2.1 29)), (1, .ref (w.2.2.1 c1)), (2, .int x2), (3, .int x3)] → (c1 < LC.1 ∧ LC.2.1 c1 = 9) → k20 c1 x2 x3 S = some (r, S1) → zV LC w X (some (.int r)) S1 S 20 ls []) {c1 : Nat} {x3 : Int32} {s0 : Int32} {S : zMem} {ls : Array Slot} (hl : lv_has ls 5 [(0, .ref (w.2.2.1 29)), (1, .ref (w.2.2.1 c1)), (3, .int x3)]) (hk_c1 : c1 < LC.1 ∧ LC.2.1 c1 = 9) (h : X5_faultOf_b64 k20 c1 x3 s0 S = some (r, S1)) : zV LC w X (some (.int r)) S1 S 64 ls [.int s0] := by
  unfold X5_faultOf_b64 at h
  refine v_istore 64 C [(4, .int s0), (0, .ref (w.2.2.1 29)), (1, .ref (w.2.2.1 c1)), (3, .int x3)] dX5_faultOf_64 hl (by decide) rfl (fun ls hl => ?_)
  refine v_iload 66 C dX5_faultOf_66 (lv_at hl 0 rfl) ?_
  refine v_bipush 68 C (v := (-9 : Int32)) dX5_faultOf_68 (by decide) ?_
  refine v_icmp_eq 70 76 C dX5_faultOf_70 (by decide) h (fun h => ?_) (fun h => ?_)
  · refine v_iconst 76 C (v := (1 : Int32)) dX5_faultOf_76 (by decide) ?_
    refine v_istore_n 77 C [(2, .int (1 : Int32)), (4, .int s0), (0, .ref (w.2.2.1 29)), (1, .ref (w.2.2.1 c1)), (3, .int x3)] dX5_faultOf_77 rfl hl (by decide) rfl (fun ls hl => ?_)
    refine v_iinc 78 C (nn := (3 : Int32)) (fun v => [(3, .int v), (2, .int (1 : Int32)), (4, .int s0), (0, .ref (w.2.2.1 29)), (1, .ref (w.2.2.1 c1))]) dX5_faultOf_78 hl (k := 4) rfl (by decide) (by decide) (fun _ => rfl) h (fun v1 ls hl h => ?_)
    refine v_goto 81 20 C dX5_faultOf_81 (by decide) ?_
    exact hc20 _ _ _ _ _ (lv_sub hl [3, 4, 1, 0] rfl) hk_c1 h
  · refine v_iload 73 C dX5_faultOf_73 (lv_at hl 0 rfl) ?_
    exact v_ireturn 75 C dX5_faultOf_75 h
set_option maxRecDepth 20000 in
theorem w_X5_faultOf_b103 {w : zWd} {X : zX} {l0 : Launch} {r : Int32} {S1 : zMem} (C : zC LC w X l0 cX5_faultOf RX5 5 5 (some .int)) {s0 : Int32} {S : zMem} {ls : Array Slot} (hl : lv_has ls 5 []) (h : X5_faultOf_b103 s0 S = some (r, S1)) : zV LC w X (some (.int r)) S1 S 103 ls [.int s0] := by
  unfold X5_faultOf_b103 at h
  exact v_ireturn 103 C dX5_faultOf_103 h
set_option maxRecDepth 20000 in
theorem w_X5_faultOf_b20 {w : zWd} {X : zX} {l0 : Launch} {r : Int32} {S1 : zMem} (C : zC LC w X l0 cX5_faultOf RX5 5 5 (some .int)) {k20 : Nat → Int32 → Int32 → zMem → Option (Int32 × zMem)} (hc20 : ∀ (c1 : Nat) (x2 : Int32) (x3 : Int32) (S : zMem) (ls : Array Slot), lv_has ls 5 [(0, .ref (w.2.2.1 29)), (1, .ref (w.2.2.1 c1)), (2, .int x2), (3, .int x3)] → (c1 < LC.1 ∧ LC.2.1 c1 = 9) → k20 c1 x2 x3 S = some (r, S1) → zV LC w X (some (.int r)) S1 S 20 ls []) {c1 : Nat} {x2 : Int32} {x3 : Int32} {S : zMem} {ls : Array Slot} (hl : lv_has ls 5 [(0, .ref (w.2.2.1 29)), (1, .ref (w.2.2.1 c1)), (2, .int x2), (3, .int x3)]) (hk_c1 : c1 < LC.1 ∧ LC.2.1 c1 = 9) (h : X5_faultOf_b20 k20 c1 x2 x3 S = some (r, S1)) : zV LC w X (some (.int r)) S1 S 20 ls [] := by
  unfold X5_faultOf_b20 at h
  refine v_iload_n 20 C dX5_faultOf_20 rfl (lv_at hl 3 rfl) ?_
  refine v_aload_n 21 C dX5_faultOf_21 rfl (lv_at hl 1 rfl) ?_
  refine v_geti 22 C dX5_faultOf_22 fl_X5_25 rfl hk_c1 h (fun v1 h => ?_)
  refine v_icmp_ge 25 84 C dX5_faultOf_25 (by decide) h (fun h => ?_) (fun h => ?_)
  · refine v_aload_n 84 C dX5_faultOf_84 rfl (lv_at hl 0 rfl) ?_
    refine v_getr 85 (30) C dX5_faultOf_85 fl_X5_12 rfl kC_29 rfl ?_
    refine v_geti 88 C dX5_faultOf_88 fl_X5_22 rfl kC_30 h (fun v2 h => ?_)
    refine v_if_le 91 99 C dX5_faultOf_91 (by decide) h (fun h => ?_) (fun h => ?_)
    · refine v_aload_n 99 C dX5_faultOf_99 rfl (lv_at hl 1 rfl) ?_
      refine v_geti 100 C dX5_faultOf_100 fl_X5_25 rfl hk_c1 h (fun v3 h => ?_)
      exact w_X5_faultOf_b103 C (lv_sub hl [] rfl) h
    · refine v_bipush 94 C (v := (-9 : Int32)) dX5_faultOf_94 (by decide) ?_
      refine v_goto 96 103 C dX5_faultOf_96 (by decide) ?_
      exact w_X5_faultOf_b103 C (lv_sub hl [] rfl) h
  · refine v_aload_n 28 C dX5_faultOf_28 rfl (lv_at hl 1 rfl) ?_
    refine v_getr 29 (c1 + 1) C dX5_faultOf_29 fl_X5_30 rfl hk_c1 (rS1 hk_c1) ?_
    refine v_iload_n 32 C dX5_faultOf_32 rfl (lv_at hl 3 rfl) ?_
    refine v_iald 33 C dX5_faultOf_33 (kS1 hk_c1) rfl h (fun v4 h => ?_)
    refine v_bipush 34 C (v := (32 : Int32)) dX5_faultOf_34 (by decide) ?_
    refine v_icmp_ne 36 45 C dX5_faultOf_36 (by decide) h (fun h => ?_) (fun h => ?_)
    · refine v_iload_n 45 C dX5_faultOf_45 rfl (lv_at hl 2 rfl) ?_
      refine v_if_eq 46 58 C dX5_faultOf_46 (by decide) h (fun h => ?_) (fun h => ?_)
      · refine v_aload_n 58 C dX5_faultOf_58 rfl (lv_at hl 0 rfl) ?_
        refine v_aload_n 59 C dX5_faultOf_59 rfl (lv_at hl 1 rfl) ?_
        refine v_iload_n 60 C dX5_faultOf_60 rfl (lv_at hl 3 rfl) ?_
        obtain ⟨v5, S, hc, h⟩ := zb_e h
        refine v_callVi 61 C (ci := 4) [] dX5_faultOf_61 ml_X5_38 hy_X5_postmanFault (c_X5_postmanFault hk_c1 hc) (by decide) rfl hl.1 kC_29 rfl (Nat.le_of_ble_eq_true rfl) rfl ?_
        exact w_X5_faultOf_b64 C hc20 (lv_sub hl [0, 1, 3] rfl) hk_c1 h
      · refine v_aload_n 49 C dX5_faultOf_49 rfl (lv_at hl 0 rfl) ?_
        refine v_aload_n 50 C dX5_faultOf_50 rfl (lv_at hl 1 rfl) ?_
        refine v_iload_n 51 C dX5_faultOf_51 rfl (lv_at hl 3 rfl) ?_
        obtain ⟨v6, S, hc, h⟩ := zb_e h
        refine v_callVi 52 C (ci := 4) [] dX5_faultOf_52 ml_X5_34 hy_X5_itemFault (c_X5_itemFault hk_c1 hc) (by decide) rfl hl.1 kC_29 rfl (Nat.le_of_ble_eq_true rfl) rfl ?_
        refine v_goto 55 64 C dX5_faultOf_55 (by decide) ?_
        exact w_X5_faultOf_b64 C hc20 (lv_sub hl [0, 1, 3] rfl) hk_c1 h
    · refine v_iinc 39 C (nn := (1 : Int32)) (fun v => [(3, .int v), (0, .ref (w.2.2.1 29)), (1, .ref (w.2.2.1 c1)), (2, .int x2)]) dX5_faultOf_39 hl (k := 3) rfl (by decide) (by decide) (fun _ => rfl) h (fun v7 ls hl h => ?_)
      refine v_goto 42 20 C dX5_faultOf_42 (by decide) ?_
      exact hc20 _ _ _ _ _ (lv_sub hl [1, 2, 3, 0] rfl) hk_c1 h
theorem w_X5_faultOf_l20 {w : zWd} {X : zX} {l0 : Launch} {r : Int32} {S1 : zMem} (C : zC LC w X l0 cX5_faultOf RX5 5 5 (some .int)) : ∀ (n : Nat) (c1 : Nat) (x2 : Int32) (x3 : Int32) (S : zMem) (ls : Array Slot), lv_has ls 5 [(0, .ref (w.2.2.1 29)), (1, .ref (w.2.2.1 c1)), (2, .int x2), (3, .int x3)] → (c1 < LC.1 ∧ LC.2.1 c1 = 9) → X5_faultOf_l20 n c1 x2 x3 S = some (r, S1) → zV LC w X (some (.int r)) S1 S 20 ls [] := by
  intro n
  induction n with
  | zero =>
    intro c1 x2 x3 S ls hl hk_c1 h
    cases (show (none : Option (Int32 × zMem)) = some _ from h)
  | succ n ih =>
    intro c1 x2 x3 S ls hl hk_c1 h
    exact w_X5_faultOf_b20 C ih hl hk_c1 h
set_option maxRecDepth 20000 in
theorem w_X5_faultOf_b0 {w : zWd} {X : zX} {l0 : Launch} {r : Int32} {S1 : zMem} (C : zC LC w X l0 cX5_faultOf RX5 5 5 (some .int)) {c1 : Nat} {S : zMem} {ls : Array Slot} (hl : lv_has ls 5 [(0, .ref (w.2.2.1 29)), (1, .ref (w.2.2.1 c1))]) (hk_c1 : c1 < LC.1 ∧ LC.2.1 c1 = 9) (h : X5_faultOf_b0 c1 S = some (r, S1)) : zV LC w X (some (.int r)) S1 S 0 ls [] := by
  unfold X5_faultOf_b0 at h
  refine v_aload_n 0 C dX5_faultOf_0 rfl (lv_at hl 0 rfl) ?_
  refine v_getr 1 (30) C dX5_faultOf_1 fl_X5_12 rfl kC_29 rfl ?_
  refine v_iconst 4 C (v := (0 : Int32)) dX5_faultOf_4 (by decide) ?_
  refine v_puti 5 C dX5_faultOf_5 fl_X5_18 fp_5_4 rfl kC_30 h (fun S h => ?_)
  refine v_aload_n 8 C dX5_faultOf_8 rfl (lv_at hl 0 rfl) ?_
  refine v_getr 9 (30) C dX5_faultOf_9 fl_X5_12 rfl kC_29 rfl ?_
  refine v_iconst 12 C (v := (0 : Int32)) dX5_faultOf_12 (by decide) ?_
  refine v_puti 13 C dX5_faultOf_13 fl_X5_22 fp_5_5 rfl kC_30 h (fun S h => ?_)
  refine v_iconst 16 C (v := (0 : Int32)) dX5_faultOf_16 (by decide) ?_
  refine v_istore_n 17 C [(2, .int (0 : Int32)), (0, .ref (w.2.2.1 29)), (1, .ref (w.2.2.1 c1))] dX5_faultOf_17 rfl hl (by decide) rfl (fun ls hl => ?_)
  refine v_iconst 18 C (v := (0 : Int32)) dX5_faultOf_18 (by decide) ?_
  refine v_istore_n 19 C [(3, .int (0 : Int32)), (2, .int (0 : Int32)), (0, .ref (w.2.2.1 29)), (1, .ref (w.2.2.1 c1))] dX5_faultOf_19 rfl hl (by decide) rfl (fun ls hl => ?_)
  exact w_X5_faultOf_l20 C zF _ _ _ _ _ (lv_sub hl [2, 3, 1, 0] rfl) hk_c1 h
theorem c_X5_faultOf {w : zWd} {l0 : Launch} {c1 : Nat} {S S1 : zMem} {r : Int32} (hk_c1 : c1 < LC.1 ∧ LC.2.1 c1 = 9) (h : f_X5_faultOf c1 S = some (r, S1)) : zMet LC w l0 yX5_faultOf cX5_faultOf 5 (some .int) 5 [.ref (w.2.2.1 29), .ref (w.2.2.1 c1)] S (some (.int r)) S1 :=
  zMet_of (by decide +kernel) (Nat.le_of_ble_eq_true rfl) (fun X ls C hl => w_X5_faultOf_b0 C hl hk_c1 h)
theorem fl_X8_28 : zFL RX8 28 7 3 := ⟨_, rfl, by decide, zT_of (List.mem_of_getElem? (i := 320) (by decide +kernel)) rfl⟩
theorem ml_X8_129 : Cond.methodLink RX8 129 yX5_faultOf ∈ zT := zT_of (List.mem_of_getElem? (i := 443) (by decide +kernel)) rfl
theorem hy_X5_faultOf : zYv yX5_faultOf cX5_faultOf 5 (some .int) 1 := ⟨⟨zT_of (List.mem_of_getElem? (i := 446) (by decide +kernel)) rfl, zT_of (List.mem_of_getElem? (i := 72) (by decide +kernel)) rfl, by decide, by decide +kernel, by decide +kernel, by decide +kernel⟩, zT_of (List.mem_of_getElem? (i := 444) (by decide +kernel)) rfl, zT_of (List.mem_of_getElem? (i := 445) (by decide +kernel)) rfl⟩
theorem dX8_fault_0 : decode cX8_fault 0 = .ok (.iload_n 1, 1) := by decide +kernel
theorem dX8_fault_1 : decode cX8_fault 1 = .ok (.invokestatic 126, 3) := by decide +kernel
theorem dX8_fault_4 : decode cX8_fault 4 = .ok (.ifCond .ne 5, 3) := by decide +kernel
theorem dX8_fault_7 : decode cX8_fault 7 = .ok (.iconst (-1), 1) := by decide +kernel
theorem dX8_fault_8 : decode cX8_fault 8 = .ok (.ireturn, 1) := by decide +kernel
theorem dX8_fault_9 : decode cX8_fault 9 = .ok (.aload_n 0, 1) := by decide +kernel
theorem dX8_fault_10 : decode cX8_fault 10 = .ok (.getfield 15, 3) := by decide +kernel
theorem dX8_fault_13 : decode cX8_fault 13 = .ok (.iload_n 1, 1) := by decide +kernel
theorem dX8_fault_14 : decode cX8_fault 14 = .ok (.aaload, 1) := by decide +kernel
theorem dX8_fault_15 : decode cX8_fault 15 = .ok (.invokevirtual 92, 3) := by decide +kernel
theorem dX8_fault_18 : decode cX8_fault 18 = .ok (.ifCond .ne 9, 3) := by decide +kernel
theorem dX8_fault_21 : decode cX8_fault 21 = .ok (.aload_n 0, 1) := by decide +kernel
theorem dX8_fault_22 : decode cX8_fault 22 = .ok (.iconst 1, 1) := by decide +kernel
theorem dX8_fault_23 : decode cX8_fault 23 = .ok (.invokevirtual 84, 3) := by decide +kernel
theorem dX8_fault_26 : decode cX8_fault 26 = .ok (.ireturn, 1) := by decide +kernel
theorem dX8_fault_27 : decode cX8_fault 27 = .ok (.aload_n 0, 1) := by decide +kernel
theorem dX8_fault_28 : decode cX8_fault 28 = .ok (.getfield 28, 3) := by decide +kernel
theorem dX8_fault_31 : decode cX8_fault 31 = .ok (.aload_n 0, 1) := by decide +kernel
theorem dX8_fault_32 : decode cX8_fault 32 = .ok (.getfield 15, 3) := by decide +kernel
theorem dX8_fault_35 : decode cX8_fault 35 = .ok (.iload_n 1, 1) := by decide +kernel
theorem dX8_fault_36 : decode cX8_fault 36 = .ok (.aaload, 1) := by decide +kernel
theorem dX8_fault_37 : decode cX8_fault 37 = .ok (.invokevirtual 129, 3) := by decide +kernel
theorem dX8_fault_40 : decode cX8_fault 40 = .ok (.ireturn, 1) := by decide +kernel
set_option maxRecDepth 20000 in
theorem w_X8_fault_b0 {w : zWd} {X : zX} {l0 : Launch} {r : Int32} {S1 : zMem} (C : zC LC w X l0 cX8_fault RX8 2 6 (some .int)) {x1 : Int32} {S : zMem} {ls : Array Slot} (hl : lv_has ls 2 [(0, .ref (w.2.2.1 0)), (1, .int x1)]) (h : X8_fault_b0 x1 S = some (r, S1)) : zV LC w X (some (.int r)) S1 S 0 ls [] := by
  unfold X8_fault_b0 at h
  refine v_iload_n 0 C dX8_fault_0 rfl (lv_at hl 1 rfl) ?_
  obtain ⟨v1, S, hc, h⟩ := zb_e h
  refine v_callSi 1 C [] dX8_fault_1 ml_X8_126 hy_X8_isText (c_X8_isText  hc) (by decide) rfl hl.1 (Nat.le_of_ble_eq_true rfl) rfl ?_
  refine v_if_ne 4 9 C dX8_fault_4 (by decide) h (fun h => ?_) (fun h => ?_)
  · refine v_aload_n 9 C dX8_fault_9 rfl (lv_at hl 0 rfl) ?_
    refine v_getr 10 (2) C dX8_fault_10 fl_X8_15 rfl kC_0 rfl ?_
    refine v_iload_n 13 C dX8_fault_13 rfl (lv_at hl 1 rfl) ?_
    refine v_aald 14 (16 + 2 * Int32.toNatClampNeg x1) C dX8_fault_14 kC_2 (Or.inl rfl) rfl rfl h (fun hz2 h => ?_)
    obtain ⟨v3, S, hc, h⟩ := zb_e h
    refine v_callVi 15 C (ci := 6) [] dX8_fault_15 ml_X8_92 hy_X7_isThere (c_X7_isThere (kTxt hz2) hc) (by decide) rfl hl.1 (kTxt hz2) rfl (Nat.le_of_ble_eq_true rfl) rfl ?_
    refine v_if_ne 18 27 C dX8_fault_18 (by decide) h (fun h => ?_) (fun h => ?_)
    · refine v_aload_n 27 C dX8_fault_27 rfl (lv_at hl 0 rfl) ?_
      refine v_getr 28 (29) C dX8_fault_28 fl_X8_28 rfl kC_0 rfl ?_
      refine v_aload_n 31 C dX8_fault_31 rfl (lv_at hl 0 rfl) ?_
      refine v_getr 32 (2) C dX8_fault_32 fl_X8_15 rfl kC_0 rfl ?_
      refine v_iload_n 35 C dX8_fault_35 rfl (lv_at hl 1 rfl) ?_
      refine v_aald 36 (16 + 2 * Int32.toNatClampNeg x1) C dX8_fault_36 kC_2 (Or.inl rfl) rfl rfl h (fun hz4 h => ?_)
      obtain ⟨v5, S, hc, h⟩ := zb_e h
      refine v_callVi 37 C (ci := 4) [] dX8_fault_37 ml_X8_129 hy_X5_faultOf (c_X5_faultOf (kTxt hz4) hc) (by decide) rfl hl.1 kC_29 rfl (Nat.le_of_ble_eq_true rfl) rfl ?_
      exact v_ireturn 40 C dX8_fault_40 h
    · refine v_aload_n 21 C dX8_fault_21 rfl (lv_at hl 0 rfl) ?_
      refine v_iconst 22 C (v := (1 : Int32)) dX8_fault_22 (by decide) ?_
      obtain ⟨v6, S, hc, h⟩ := zb_e h
      refine v_callVi 23 C (ci := 7) [] dX8_fault_23 ml_X8_84 hy_X8_refuse (c_X8_refuse  hc) (by decide) rfl hl.1 kC_0 rfl (Nat.le_of_ble_eq_true rfl) rfl ?_
      exact v_ireturn 26 C dX8_fault_26 h
  · refine v_iconst 7 C (v := (-1 : Int32)) dX8_fault_7 (by decide) ?_
    exact v_ireturn 8 C dX8_fault_8 h
theorem c_X8_fault {w : zWd} {l0 : Launch} {x1 : Int32} {S S1 : zMem} {r : Int32} (h : f_X8_fault x1 S = some (r, S1)) : zMet LC w l0 yX8_fault cX8_fault 2 (some .int) 6 [.ref (w.2.2.1 0), .int x1] S (some (.int r)) S1 :=
  zMet_of (by decide +kernel) (Nat.le_of_ble_eq_true rfl) (fun X ls C hl => w_X8_fault_b0 C hl h)
theorem fl_X6_24 : zFL RX6 24 5 4 := ⟨_, rfl, by decide, zT_of (List.mem_of_getElem? (i := 114) (by decide +kernel)) rfl⟩
theorem fl_X6_28 : zFL RX6 28 5 5 := ⟨_, rfl, by decide, zT_of (List.mem_of_getElem? (i := 118) (by decide +kernel)) rfl⟩
theorem fl_X6_31 : zFL RX6 31 5 6 := ⟨_, rfl, by decide, zT_of (List.mem_of_getElem? (i := 122) (by decide +kernel)) rfl⟩
theorem fl_X6_34 : zFL RX6 34 5 7 := ⟨_, rfl, by decide, zT_of (List.mem_of_getElem? (i := 125) (by decide +kernel)) rfl⟩
theorem fl_X6_9 : zFL RX6 9 5 0 := ⟨_, rfl, by decide, zT_of (List.mem_of_getElem? (i := 99) (by decide +kernel)) rfl⟩
theorem ml_X6_37 : Cond.methodLink RX6 37 arraycopyName ∈ zT := zT_of (List.mem_of_getElem? (i := 480) (by decide +kernel)) rfl
theorem fl_X6_15 : zFL RX6 15 5 1 := ⟨_, rfl, by decide, zT_of (List.mem_of_getElem? (i := 102) (by decide +kernel)) rfl⟩
theorem fl_X6_18 : zFL RX6 18 5 2 := ⟨_, rfl, by decide, zT_of (List.mem_of_getElem? (i := 105) (by decide +kernel)) rfl⟩
theorem fl_X6_21 : zFL RX6 21 5 3 := ⟨_, rfl, by decide, zT_of (List.mem_of_getElem? (i := 111) (by decide +kernel)) rfl⟩
theorem dX6_become_0 : decode cX6_become 0 = .ok (.aload_n 0, 1) := by decide +kernel
theorem dX6_become_1 : decode cX6_become 1 = .ok (.aload_n 1, 1) := by decide +kernel
theorem dX6_become_2 : decode cX6_become 2 = .ok (.getfield 24, 3) := by decide +kernel
theorem dX6_become_5 : decode cX6_become 5 = .ok (.putfield 24, 3) := by decide +kernel
theorem dX6_become_8 : decode cX6_become 8 = .ok (.aload_n 0, 1) := by decide +kernel
theorem dX6_become_9 : decode cX6_become 9 = .ok (.aload_n 1, 1) := by decide +kernel
theorem dX6_become_10 : decode cX6_become 10 = .ok (.getfield 28, 3) := by decide +kernel
theorem dX6_become_13 : decode cX6_become 13 = .ok (.putfield 28, 3) := by decide +kernel
theorem dX6_become_16 : decode cX6_become 16 = .ok (.aload_n 0, 1) := by decide +kernel
theorem dX6_become_17 : decode cX6_become 17 = .ok (.aload_n 1, 1) := by decide +kernel
theorem dX6_become_18 : decode cX6_become 18 = .ok (.getfield 31, 3) := by decide +kernel
theorem dX6_become_21 : decode cX6_become 21 = .ok (.putfield 31, 3) := by decide +kernel
theorem dX6_become_24 : decode cX6_become 24 = .ok (.aload_n 0, 1) := by decide +kernel
theorem dX6_become_25 : decode cX6_become 25 = .ok (.aload_n 1, 1) := by decide +kernel
theorem dX6_become_26 : decode cX6_become 26 = .ok (.getfield 34, 3) := by decide +kernel
theorem dX6_become_29 : decode cX6_become 29 = .ok (.putfield 34, 3) := by decide +kernel
theorem dX6_become_32 : decode cX6_become 32 = .ok (.aload_n 1, 1) := by decide +kernel
theorem dX6_become_33 : decode cX6_become 33 = .ok (.getfield 9, 3) := by decide +kernel
theorem dX6_become_36 : decode cX6_become 36 = .ok (.iconst 0, 1) := by decide +kernel
theorem dX6_become_37 : decode cX6_become 37 = .ok (.aload_n 0, 1) := by decide +kernel
theorem dX6_become_38 : decode cX6_become 38 = .ok (.getfield 9, 3) := by decide +kernel
theorem dX6_become_41 : decode cX6_become 41 = .ok (.iconst 0, 1) := by decide +kernel
theorem dX6_become_42 : decode cX6_become 42 = .ok (.bipush 6, 2) := by decide +kernel
theorem dX6_become_44 : decode cX6_become 44 = .ok (.invokestatic 37, 3) := by decide +kernel
theorem dX6_become_47 : decode cX6_become 47 = .ok (.aload_n 1, 1) := by decide +kernel
theorem dX6_become_48 : decode cX6_become 48 = .ok (.getfield 15, 3) := by decide +kernel
theorem dX6_become_51 : decode cX6_become 51 = .ok (.iconst 0, 1) := by decide +kernel
theorem dX6_become_52 : decode cX6_become 52 = .ok (.aload_n 0, 1) := by decide +kernel
theorem dX6_become_53 : decode cX6_become 53 = .ok (.getfield 15, 3) := by decide +kernel
theorem dX6_become_56 : decode cX6_become 56 = .ok (.iconst 0, 1) := by decide +kernel
theorem dX6_become_57 : decode cX6_become 57 = .ok (.bipush 6, 2) := by decide +kernel
theorem dX6_become_59 : decode cX6_become 59 = .ok (.invokestatic 37, 3) := by decide +kernel
theorem dX6_become_62 : decode cX6_become 62 = .ok (.aload_n 1, 1) := by decide +kernel
theorem dX6_become_63 : decode cX6_become 63 = .ok (.getfield 18, 3) := by decide +kernel
theorem dX6_become_66 : decode cX6_become 66 = .ok (.iconst 0, 1) := by decide +kernel
theorem dX6_become_67 : decode cX6_become 67 = .ok (.aload_n 0, 1) := by decide +kernel
theorem dX6_become_68 : decode cX6_become 68 = .ok (.getfield 18, 3) := by decide +kernel
theorem dX6_become_71 : decode cX6_become 71 = .ok (.iconst 0, 1) := by decide +kernel
theorem dX6_become_72 : decode cX6_become 72 = .ok (.bipush 6, 2) := by decide +kernel
theorem dX6_become_74 : decode cX6_become 74 = .ok (.invokestatic 37, 3) := by decide +kernel
theorem dX6_become_77 : decode cX6_become 77 = .ok (.aload_n 1, 1) := by decide +kernel
theorem dX6_become_78 : decode cX6_become 78 = .ok (.getfield 21, 3) := by decide +kernel
theorem dX6_become_81 : decode cX6_become 81 = .ok (.iconst 0, 1) := by decide +kernel
theorem dX6_become_82 : decode cX6_become 82 = .ok (.aload_n 0, 1) := by decide +kernel
theorem dX6_become_83 : decode cX6_become 83 = .ok (.getfield 21, 3) := by decide +kernel
theorem dX6_become_86 : decode cX6_become 86 = .ok (.iconst 0, 1) := by decide +kernel
theorem dX6_become_87 : decode cX6_become 87 = .ok (.bipush 6, 2) := by decide +kernel
theorem dX6_become_89 : decode cX6_become 89 = .ok (.invokestatic 37, 3) := by decide +kernel
theorem dX6_become_92 : decode cX6_become 92 = .ok (.return_, 1) := by decide +kernel
set_option maxRecDepth 20000 in
theorem w_X6_become_b0 {w : zWd} {X : zX} {l0 : Launch} {r : Unit} {S1 : zMem} (C : zC LC w X l0 cX6_become RX6 2 1 none) {S : zMem} {ls : Array Slot} (hl : lv_has ls 2 [(0, .ref (w.2.2.1 24)), (1, .ref (w.2.2.1 30))]) (h : X6_become_b0  S = some (r, S1)) : zV LC w X none S1 S 0 ls [] := by
  unfold X6_become_b0 at h
  refine v_aload_n 0 C dX6_become_0 rfl (lv_at hl 0 rfl) ?_
  refine v_aload_n 1 C dX6_become_1 rfl (lv_at hl 1 rfl) ?_
  refine v_geti 2 C dX6_become_2 fl_X6_24 rfl kC_30 h (fun v1 h => ?_)
  refine v_puti 5 C dX6_become_5 fl_X6_24 fp_5_4 rfl kC_24 h (fun S h => ?_)
  refine v_aload_n 8 C dX6_become_8 rfl (lv_at hl 0 rfl) ?_
  refine v_aload_n 9 C dX6_become_9 rfl (lv_at hl 1 rfl) ?_
  refine v_geti 10 C dX6_become_10 fl_X6_28 rfl kC_30 h (fun v2 h => ?_)
  refine v_puti 13 C dX6_become_13 fl_X6_28 fp_5_5 rfl kC_24 h (fun S h => ?_)
  refine v_aload_n 16 C dX6_become_16 rfl (lv_at hl 0 rfl) ?_
  refine v_aload_n 17 C dX6_become_17 rfl (lv_at hl 1 rfl) ?_
  refine v_geti 18 C dX6_become_18 fl_X6_31 rfl kC_30 h (fun v3 h => ?_)
  refine v_puti 21 C dX6_become_21 fl_X6_31 fp_5_6 rfl kC_24 h (fun S h => ?_)
  refine v_aload_n 24 C dX6_become_24 rfl (lv_at hl 0 rfl) ?_
  refine v_aload_n 25 C dX6_become_25 rfl (lv_at hl 1 rfl) ?_
  refine v_geti 26 C dX6_become_26 fl_X6_34 rfl kC_30 h (fun v4 h => ?_)
  refine v_puti 29 C dX6_become_29 fl_X6_34 fp_5_7 rfl kC_24 h (fun S h => ?_)
  refine v_aload_n 32 C dX6_become_32 rfl (lv_at hl 1 rfl) ?_
  refine v_getr 33 (31) C dX6_become_33 fl_X6_9 rfl kC_30 rfl ?_
  refine v_iconst 36 C (v := (0 : Int32)) dX6_become_36 (by decide) ?_
  refine v_aload_n 37 C dX6_become_37 rfl (lv_at hl 0 rfl) ?_
  refine v_getr 38 (25) C dX6_become_38 fl_X6_9 rfl kC_24 rfl ?_
  refine v_iconst 41 C (v := (0 : Int32)) dX6_become_41 (by decide) ?_
  refine v_bipush 42 C (v := (6 : Int32)) dX6_become_42 (by decide) ?_
  refine v_copy 44 C dX6_become_44 ml_X6_37 hl.1 (by decide) (Nat.le_of_ble_eq_true rfl) kC_31 kC_25 rfl rfl h (fun S h => ?_)
  refine v_aload_n 47 C dX6_become_47 rfl (lv_at hl 1 rfl) ?_
  refine v_getr 48 (32) C dX6_become_48 fl_X6_15 rfl kC_30 rfl ?_
  refine v_iconst 51 C (v := (0 : Int32)) dX6_become_51 (by decide) ?_
  refine v_aload_n 52 C dX6_become_52 rfl (lv_at hl 0 rfl) ?_
  refine v_getr 53 (26) C dX6_become_53 fl_X6_15 rfl kC_24 rfl ?_
  refine v_iconst 56 C (v := (0 : Int32)) dX6_become_56 (by decide) ?_
  refine v_bipush 57 C (v := (6 : Int32)) dX6_become_57 (by decide) ?_
  refine v_copy 59 C dX6_become_59 ml_X6_37 hl.1 (by decide) (Nat.le_of_ble_eq_true rfl) kC_32 kC_26 rfl rfl h (fun S h => ?_)
  refine v_aload_n 62 C dX6_become_62 rfl (lv_at hl 1 rfl) ?_
  refine v_getr 63 (33) C dX6_become_63 fl_X6_18 rfl kC_30 rfl ?_
  refine v_iconst 66 C (v := (0 : Int32)) dX6_become_66 (by decide) ?_
  refine v_aload_n 67 C dX6_become_67 rfl (lv_at hl 0 rfl) ?_
  refine v_getr 68 (27) C dX6_become_68 fl_X6_18 rfl kC_24 rfl ?_
  refine v_iconst 71 C (v := (0 : Int32)) dX6_become_71 (by decide) ?_
  refine v_bipush 72 C (v := (6 : Int32)) dX6_become_72 (by decide) ?_
  refine v_copy 74 C dX6_become_74 ml_X6_37 hl.1 (by decide) (Nat.le_of_ble_eq_true rfl) kC_33 kC_27 rfl rfl h (fun S h => ?_)
  refine v_aload_n 77 C dX6_become_77 rfl (lv_at hl 1 rfl) ?_
  refine v_getr 78 (34) C dX6_become_78 fl_X6_21 rfl kC_30 rfl ?_
  refine v_iconst 81 C (v := (0 : Int32)) dX6_become_81 (by decide) ?_
  refine v_aload_n 82 C dX6_become_82 rfl (lv_at hl 0 rfl) ?_
  refine v_getr 83 (28) C dX6_become_83 fl_X6_21 rfl kC_24 rfl ?_
  refine v_iconst 86 C (v := (0 : Int32)) dX6_become_86 (by decide) ?_
  refine v_bipush 87 C (v := (6 : Int32)) dX6_become_87 (by decide) ?_
  refine v_copy 89 C dX6_become_89 ml_X6_37 hl.1 (by decide) (Nat.le_of_ble_eq_true rfl) kC_34 kC_28 rfl rfl h (fun S h => ?_)
  exact v_return 92 C dX6_become_92 h
theorem c_X6_become {w : zWd} {l0 : Launch} {S S1 : zMem} {r : Unit} (h : f_X6_become  S = some (r, S1)) : zMet LC w l0 yX6_become cX6_become 2 none 1 [.ref (w.2.2.1 24), .ref (w.2.2.1 30)] S none S1 :=
  zMet_of (by decide +kernel) (Nat.le_of_ble_eq_true rfl) (fun X ls C hl => w_X6_become_b0 C hl h)
theorem fl_X4_28 : zFL RX4 28 3 5 := ⟨_, rfl, by decide, zT_of (List.mem_of_getElem? (i := 173) (by decide +kernel)) rfl⟩
theorem fp_3_5 : zFP 3 5 .boolean := fun q h => by cases h; exact ⟨rfl, by decide +kernel⟩
theorem fl_X4_32 : zFL RX4 32 3 6 := ⟨_, rfl, by decide, zT_of (List.mem_of_getElem? (i := 175) (by decide +kernel)) rfl⟩
theorem fp_3_6 : zFP 3 6 .int := fun q h => by cases h; exact ⟨rfl, by decide +kernel⟩
theorem fl_X4_36 : zFL RX4 36 3 7 := ⟨_, rfl, by decide, zT_of (List.mem_of_getElem? (i := 177) (by decide +kernel)) rfl⟩
theorem fp_3_7 : zFP 3 7 .int := fun q h => by cases h; exact ⟨rfl, by decide +kernel⟩
theorem fl_X4_24 : zFL RX4 24 3 0 := ⟨_, rfl, by decide, zT_of (List.mem_of_getElem? (i := 165) (by decide +kernel)) rfl⟩
theorem fl_X4_39 : zFL RX4 39 5 6 := ⟨_, rfl, by decide, zT_of (List.mem_of_getElem? (i := 123) (by decide +kernel)) rfl⟩
theorem fl_X4_44 : zFL RX4 44 3 8 := ⟨_, rfl, by decide, zT_of (List.mem_of_getElem? (i := 180) (by decide +kernel)) rfl⟩
theorem fp_3_8 : zFP 3 8 .int := fun q h => by cases h; exact ⟨rfl, by decide +kernel⟩
theorem fl_X4_47 : zFL RX4 47 5 7 := ⟨_, rfl, by decide, zT_of (List.mem_of_getElem? (i := 126) (by decide +kernel)) rfl⟩
theorem fl_X4_50 : zFL RX4 50 3 9 := ⟨_, rfl, by decide, zT_of (List.mem_of_getElem? (i := 184) (by decide +kernel)) rfl⟩
theorem fp_3_9 : zFP 3 9 .int := fun q h => by cases h; exact ⟨rfl, by decide +kernel⟩
theorem fl_X4_53 : zFL RX4 53 3 10 := ⟨_, rfl, by decide, zT_of (List.mem_of_getElem? (i := 188) (by decide +kernel)) rfl⟩
theorem fp_3_10 : zFP 3 10 .int := fun q h => by cases h; exact ⟨rfl, by decide +kernel⟩
theorem fl_X4_56 : zFL RX4 56 3 11 := ⟨_, rfl, by decide, zT_of (List.mem_of_getElem? (i := 191) (by decide +kernel)) rfl⟩
theorem fp_3_11 : zFP 3 11 .int := fun q h => by cases h; exact ⟨rfl, by decide +kernel⟩
theorem fl_X4_59 : zFL RX4 59 5 0 := ⟨_, rfl, by decide, zT_of (List.mem_of_getElem? (i := 100) (by decide +kernel)) rfl⟩
theorem fl_X4_9 : zFL RX4 9 3 1 := ⟨_, rfl, by decide, zT_of (List.mem_of_getElem? (i := 166) (by decide +kernel)) rfl⟩
theorem ml_X4_62 : Cond.methodLink RX4 62 arraycopyName ∈ zT := zT_of (List.mem_of_getElem? (i := 485) (by decide +kernel)) rfl
theorem dX4_begin_0 : decode cX4_begin 0 = .ok (.aload_n 0, 1) := by decide +kernel
theorem dX4_begin_1 : decode cX4_begin 1 = .ok (.iconst 1, 1) := by decide +kernel
theorem dX4_begin_2 : decode cX4_begin 2 = .ok (.putfield 28, 3) := by decide +kernel
theorem dX4_begin_5 : decode cX4_begin 5 = .ok (.aload_n 0, 1) := by decide +kernel
theorem dX4_begin_6 : decode cX4_begin 6 = .ok (.iconst 0, 1) := by decide +kernel
theorem dX4_begin_7 : decode cX4_begin 7 = .ok (.putfield 32, 3) := by decide +kernel
theorem dX4_begin_10 : decode cX4_begin 10 = .ok (.aload_n 0, 1) := by decide +kernel
theorem dX4_begin_11 : decode cX4_begin 11 = .ok (.iconst 0, 1) := by decide +kernel
theorem dX4_begin_12 : decode cX4_begin 12 = .ok (.putfield 36, 3) := by decide +kernel
theorem dX4_begin_15 : decode cX4_begin 15 = .ok (.aload_n 0, 1) := by decide +kernel
theorem dX4_begin_16 : decode cX4_begin 16 = .ok (.aload_n 0, 1) := by decide +kernel
theorem dX4_begin_17 : decode cX4_begin 17 = .ok (.getfield 24, 3) := by decide +kernel
theorem dX4_begin_20 : decode cX4_begin 20 = .ok (.getfield 39, 3) := by decide +kernel
theorem dX4_begin_23 : decode cX4_begin 23 = .ok (.putfield 44, 3) := by decide +kernel
theorem dX4_begin_26 : decode cX4_begin 26 = .ok (.aload_n 0, 1) := by decide +kernel
theorem dX4_begin_27 : decode cX4_begin 27 = .ok (.aload_n 0, 1) := by decide +kernel
theorem dX4_begin_28 : decode cX4_begin 28 = .ok (.getfield 24, 3) := by decide +kernel
theorem dX4_begin_31 : decode cX4_begin 31 = .ok (.getfield 47, 3) := by decide +kernel
theorem dX4_begin_34 : decode cX4_begin 34 = .ok (.putfield 50, 3) := by decide +kernel
theorem dX4_begin_37 : decode cX4_begin 37 = .ok (.aload_n 0, 1) := by decide +kernel
theorem dX4_begin_38 : decode cX4_begin 38 = .ok (.iconst 0, 1) := by decide +kernel
theorem dX4_begin_39 : decode cX4_begin 39 = .ok (.putfield 53, 3) := by decide +kernel
theorem dX4_begin_42 : decode cX4_begin 42 = .ok (.aload_n 0, 1) := by decide +kernel
theorem dX4_begin_43 : decode cX4_begin 43 = .ok (.iconst 0, 1) := by decide +kernel
theorem dX4_begin_44 : decode cX4_begin 44 = .ok (.putfield 56, 3) := by decide +kernel
theorem dX4_begin_47 : decode cX4_begin 47 = .ok (.aload_n 0, 1) := by decide +kernel
theorem dX4_begin_48 : decode cX4_begin 48 = .ok (.getfield 24, 3) := by decide +kernel
theorem dX4_begin_51 : decode cX4_begin 51 = .ok (.getfield 59, 3) := by decide +kernel
theorem dX4_begin_54 : decode cX4_begin 54 = .ok (.iconst 0, 1) := by decide +kernel
theorem dX4_begin_55 : decode cX4_begin 55 = .ok (.aload_n 0, 1) := by decide +kernel
theorem dX4_begin_56 : decode cX4_begin 56 = .ok (.getfield 9, 3) := by decide +kernel
theorem dX4_begin_59 : decode cX4_begin 59 = .ok (.iconst 0, 1) := by decide +kernel
theorem dX4_begin_60 : decode cX4_begin 60 = .ok (.bipush 6, 2) := by decide +kernel
theorem dX4_begin_62 : decode cX4_begin 62 = .ok (.invokestatic 62, 3) := by decide +kernel
theorem dX4_begin_65 : decode cX4_begin 65 = .ok (.return_, 1) := by decide +kernel
set_option maxRecDepth 20000 in
theorem w_X4_begin_b0 {w : zWd} {X : zX} {l0 : Launch} {r : Unit} {S1 : zMem} (C : zC LC w X l0 cX4_begin RX4 1 1 none) {c0 : Nat} {S : zMem} {ls : Array Slot} (hl : lv_has ls 1 [(0, .ref (w.2.2.1 c0))]) (hk_c0 : c0 < LC.1 ∧ LC.2.1 c0 = 6) (h : X4_begin_b0 c0 S = some (r, S1)) : zV LC w X none S1 S 0 ls [] := by
  unfold X4_begin_b0 at h
  refine v_aload_n 0 C dX4_begin_0 rfl (lv_at hl 0 rfl) ?_
  refine v_iconst 1 C (v := (1 : Int32)) dX4_begin_1 (by decide) ?_
  refine v_putz 2 C dX4_begin_2 fl_X4_28 fp_3_5 rfl hk_c0 h (fun S h => ?_)
  refine v_aload_n 5 C dX4_begin_5 rfl (lv_at hl 0 rfl) ?_
  refine v_iconst 6 C (v := (0 : Int32)) dX4_begin_6 (by decide) ?_
  refine v_puti 7 C dX4_begin_7 fl_X4_32 fp_3_6 rfl hk_c0 h (fun S h => ?_)
  refine v_aload_n 10 C dX4_begin_10 rfl (lv_at hl 0 rfl) ?_
  refine v_iconst 11 C (v := (0 : Int32)) dX4_begin_11 (by decide) ?_
  refine v_puti 12 C dX4_begin_12 fl_X4_36 fp_3_7 rfl hk_c0 h (fun S h => ?_)
  refine v_aload_n 15 C dX4_begin_15 rfl (lv_at hl 0 rfl) ?_
  refine v_aload_n 16 C dX4_begin_16 rfl (lv_at hl 0 rfl) ?_
  refine v_getr 17 (24) C dX4_begin_17 fl_X4_24 rfl hk_c0 (rP0 hk_c0) ?_
  refine v_geti 20 C dX4_begin_20 fl_X4_39 rfl kC_24 h (fun v1 h => ?_)
  refine v_puti 23 C dX4_begin_23 fl_X4_44 fp_3_8 rfl hk_c0 h (fun S h => ?_)
  refine v_aload_n 26 C dX4_begin_26 rfl (lv_at hl 0 rfl) ?_
  refine v_aload_n 27 C dX4_begin_27 rfl (lv_at hl 0 rfl) ?_
  refine v_getr 28 (24) C dX4_begin_28 fl_X4_24 rfl hk_c0 (rP0 hk_c0) ?_
  refine v_geti 31 C dX4_begin_31 fl_X4_47 rfl kC_24 h (fun v2 h => ?_)
  refine v_puti 34 C dX4_begin_34 fl_X4_50 fp_3_9 rfl hk_c0 h (fun S h => ?_)
  refine v_aload_n 37 C dX4_begin_37 rfl (lv_at hl 0 rfl) ?_
  refine v_iconst 38 C (v := (0 : Int32)) dX4_begin_38 (by decide) ?_
  refine v_puti 39 C dX4_begin_39 fl_X4_53 fp_3_10 rfl hk_c0 h (fun S h => ?_)
  refine v_aload_n 42 C dX4_begin_42 rfl (lv_at hl 0 rfl) ?_
  refine v_iconst 43 C (v := (0 : Int32)) dX4_begin_43 (by decide) ?_
  refine v_puti 44 C dX4_begin_44 fl_X4_56 fp_3_11 rfl hk_c0 h (fun S h => ?_)
  refine v_aload_n 47 C dX4_begin_47 rfl (lv_at hl 0 rfl) ?_
  refine v_getr 48 (24) C dX4_begin_48 fl_X4_24 rfl hk_c0 (rP0 hk_c0) ?_
  refine v_getr 51 (25) C dX4_begin_51 fl_X4_59 rfl kC_24 rfl ?_
  refine v_iconst 54 C (v := (0 : Int32)) dX4_begin_54 (by decide) ?_
  refine v_aload_n 55 C dX4_begin_55 rfl (lv_at hl 0 rfl) ?_
  refine v_getr 56 (c0 + 1) C dX4_begin_56 fl_X4_9 rfl hk_c0 (rP1 hk_c0) ?_
  refine v_iconst 59 C (v := (0 : Int32)) dX4_begin_59 (by decide) ?_
  refine v_bipush 60 C (v := (6 : Int32)) dX4_begin_60 (by decide) ?_
  refine v_copy 62 C dX4_begin_62 ml_X4_62 hl.1 (by decide) (Nat.le_of_ble_eq_true rfl) kC_25 (kP1 hk_c0) rfl (nP1 hk_c0) h (fun S h => ?_)
  exact v_return 65 C dX4_begin_65 h
theorem c_X4_begin {w : zWd} {l0 : Launch} {c0 : Nat} {S S1 : zMem} {r : Unit} (hk_c0 : c0 < LC.1 ∧ LC.2.1 c0 = 6) (h : f_X4_begin c0 S = some (r, S1)) : zMet LC w l0 yX4_begin cX4_begin 1 none 1 [.ref (w.2.2.1 c0)] S none S1 :=
  zMet_of (by decide +kernel) (Nat.le_of_ble_eq_true rfl) (fun X ls C hl => w_X4_begin_b0 C hl hk_c0 h)
theorem fl_X8_21 : zFL RX8 21 7 2 := ⟨_, rfl, by decide, zT_of (List.mem_of_getElem? (i := 319) (by decide +kernel)) rfl⟩
theorem fl_X8_146 : zFL RX8 146 5 5 := ⟨_, rfl, by decide, zT_of (List.mem_of_getElem? (i := 121) (by decide +kernel)) rfl⟩
theorem fl_X8_142 : zFL RX8 142 3 5 := ⟨_, rfl, by decide, zT_of (List.mem_of_getElem? (i := 174) (by decide +kernel)) rfl⟩
theorem fl_X8_133 : zFL RX8 133 4 0 := ⟨_, rfl, by decide, zT_of (List.mem_of_getElem? (i := 155) (by decide +kernel)) rfl⟩
theorem ml_X8_136 : Cond.methodLink RX8 136 yX6_become ∈ zT := zT_of (List.mem_of_getElem? (i := 476) (by decide +kernel)) rfl
theorem hy_X6_become : zYv yX6_become cX6_become 2 none 1 := ⟨⟨zT_of (List.mem_of_getElem? (i := 479) (by decide +kernel)) rfl, zT_of (List.mem_of_getElem? (i := 71) (by decide +kernel)) rfl, by decide, by decide +kernel, by decide +kernel, by decide +kernel⟩, zT_of (List.mem_of_getElem? (i := 477) (by decide +kernel)) rfl, zT_of (List.mem_of_getElem? (i := 478) (by decide +kernel)) rfl⟩
theorem fl_X8_37 : zFL RX8 37 7 4 := ⟨_, rfl, by decide, zT_of (List.mem_of_getElem? (i := 321) (by decide +kernel)) rfl⟩
theorem ml_X8_139 : Cond.methodLink RX8 139 yX4_begin ∈ zT := zT_of (List.mem_of_getElem? (i := 481) (by decide +kernel)) rfl
theorem hy_X4_begin : zYv yX4_begin cX4_begin 1 none 0 := ⟨⟨zT_of (List.mem_of_getElem? (i := 484) (by decide +kernel)) rfl, zT_of (List.mem_of_getElem? (i := 73) (by decide +kernel)) rfl, by decide, by decide +kernel, by decide +kernel, by decide +kernel⟩, zT_of (List.mem_of_getElem? (i := 482) (by decide +kernel)) rfl, zT_of (List.mem_of_getElem? (i := 483) (by decide +kernel)) rfl⟩
theorem fl_X8_44 : zFL RX8 44 7 6 := ⟨_, rfl, by decide, zT_of (List.mem_of_getElem? (i := 323) (by decide +kernel)) rfl⟩
theorem dX8_post_0 : decode cX8_post 0 = .ok (.iload_n 1, 1) := by decide +kernel
theorem dX8_post_1 : decode cX8_post 1 = .ok (.invokestatic 126, 3) := by decide +kernel
theorem dX8_post_4 : decode cX8_post 4 = .ok (.ifCond .ne 5, 3) := by decide +kernel
theorem dX8_post_7 : decode cX8_post 7 = .ok (.iconst (-1), 1) := by decide +kernel
theorem dX8_post_8 : decode cX8_post 8 = .ok (.ireturn, 1) := by decide +kernel
theorem dX8_post_9 : decode cX8_post 9 = .ok (.aload_n 0, 1) := by decide +kernel
theorem dX8_post_10 : decode cX8_post 10 = .ok (.getfield 15, 3) := by decide +kernel
theorem dX8_post_13 : decode cX8_post 13 = .ok (.iload_n 1, 1) := by decide +kernel
theorem dX8_post_14 : decode cX8_post 14 = .ok (.aaload, 1) := by decide +kernel
theorem dX8_post_15 : decode cX8_post 15 = .ok (.invokevirtual 92, 3) := by decide +kernel
theorem dX8_post_18 : decode cX8_post 18 = .ok (.ifCond .ne 9, 3) := by decide +kernel
theorem dX8_post_21 : decode cX8_post 21 = .ok (.aload_n 0, 1) := by decide +kernel
theorem dX8_post_22 : decode cX8_post 22 = .ok (.iconst 1, 1) := by decide +kernel
theorem dX8_post_23 : decode cX8_post 23 = .ok (.invokevirtual 84, 3) := by decide +kernel
theorem dX8_post_26 : decode cX8_post 26 = .ok (.ireturn, 1) := by decide +kernel
theorem dX8_post_27 : decode cX8_post 27 = .ok (.aload_n 0, 1) := by decide +kernel
theorem dX8_post_28 : decode cX8_post 28 = .ok (.getfield 28, 3) := by decide +kernel
theorem dX8_post_31 : decode cX8_post 31 = .ok (.aload_n 0, 1) := by decide +kernel
theorem dX8_post_32 : decode cX8_post 32 = .ok (.getfield 15, 3) := by decide +kernel
theorem dX8_post_35 : decode cX8_post 35 = .ok (.iload_n 1, 1) := by decide +kernel
theorem dX8_post_36 : decode cX8_post 36 = .ok (.aaload, 1) := by decide +kernel
theorem dX8_post_37 : decode cX8_post 37 = .ok (.invokevirtual 129, 3) := by decide +kernel
theorem dX8_post_40 : decode cX8_post 40 = .ok (.bipush (-9), 2) := by decide +kernel
theorem dX8_post_42 : decode cX8_post 42 = .ok (.if_icmp .eq 6, 3) := by decide +kernel
theorem dX8_post_45 : decode cX8_post 45 = .ok (.bipush (-4), 2) := by decide +kernel
theorem dX8_post_47 : decode cX8_post 47 = .ok (.ireturn, 1) := by decide +kernel
theorem dX8_post_48 : decode cX8_post 48 = .ok (.aload_n 0, 1) := by decide +kernel
theorem dX8_post_49 : decode cX8_post 49 = .ok (.getfield 21, 3) := by decide +kernel
theorem dX8_post_52 : decode cX8_post 52 = .ok (.aload_n 0, 1) := by decide +kernel
theorem dX8_post_53 : decode cX8_post 53 = .ok (.getfield 28, 3) := by decide +kernel
theorem dX8_post_56 : decode cX8_post 56 = .ok (.getfield 133, 3) := by decide +kernel
theorem dX8_post_59 : decode cX8_post 59 = .ok (.invokevirtual 136, 3) := by decide +kernel
theorem dX8_post_62 : decode cX8_post 62 = .ok (.aload_n 0, 1) := by decide +kernel
theorem dX8_post_63 : decode cX8_post 63 = .ok (.getfield 37, 3) := by decide +kernel
theorem dX8_post_66 : decode cX8_post 66 = .ok (.invokevirtual 139, 3) := by decide +kernel
theorem dX8_post_69 : decode cX8_post 69 = .ok (.aload_n 0, 1) := by decide +kernel
theorem dX8_post_70 : decode cX8_post 70 = .ok (.getfield 44, 3) := by decide +kernel
theorem dX8_post_73 : decode cX8_post 73 = .ok (.astore_n 2, 1) := by decide +kernel
theorem dX8_post_74 : decode cX8_post 74 = .ok (.aload_n 2, 1) := by decide +kernel
theorem dX8_post_75 : decode cX8_post 75 = .ok (.arraylength, 1) := by decide +kernel
theorem dX8_post_76 : decode cX8_post 76 = .ok (.istore_n 3, 1) := by decide +kernel
theorem dX8_post_77 : decode cX8_post 77 = .ok (.iconst 0, 1) := by decide +kernel
theorem dX8_post_78 : decode cX8_post 78 = .ok (.istore 4, 2) := by decide +kernel
theorem dX8_post_80 : decode cX8_post 80 = .ok (.iload 4, 2) := by decide +kernel
theorem dX8_post_82 : decode cX8_post 82 = .ok (.iload_n 3, 1) := by decide +kernel
theorem dX8_post_83 : decode cX8_post 83 = .ok (.if_icmp .ge 21, 3) := by decide +kernel
theorem dX8_post_86 : decode cX8_post 86 = .ok (.aload_n 2, 1) := by decide +kernel
theorem dX8_post_87 : decode cX8_post 87 = .ok (.iload 4, 2) := by decide +kernel
theorem dX8_post_89 : decode cX8_post 89 = .ok (.aaload, 1) := by decide +kernel
theorem dX8_post_90 : decode cX8_post 90 = .ok (.astore 5, 2) := by decide +kernel
theorem dX8_post_92 : decode cX8_post 92 = .ok (.aload 5, 2) := by decide +kernel
theorem dX8_post_94 : decode cX8_post 94 = .ok (.iconst 0, 1) := by decide +kernel
theorem dX8_post_95 : decode cX8_post 95 = .ok (.putfield 142, 3) := by decide +kernel
theorem dX8_post_98 : decode cX8_post 98 = .ok (.iinc 4 1, 3) := by decide +kernel
theorem dX8_post_101 : decode cX8_post 101 = .ok (.goto (-21), 3) := by decide +kernel
theorem dX8_post_104 : decode cX8_post 104 = .ok (.aload_n 0, 1) := by decide +kernel
theorem dX8_post_105 : decode cX8_post 105 = .ok (.getfield 21, 3) := by decide +kernel
theorem dX8_post_108 : decode cX8_post 108 = .ok (.getfield 146, 3) := by decide +kernel
theorem dX8_post_111 : decode cX8_post 111 = .ok (.ireturn, 1) := by decide +kernel
set_option maxRecDepth 20000 in
theorem w_X8_post_b80 {w : zWd} {X : zX} {l0 : Launch} {r : Int32} {S1 : zMem} (C : zC LC w X l0 cX8_post RX8 6 6 (some .int)) {k80 : Int32 → Int32 → zMem → Option (Int32 × zMem)} (hc80 : ∀ (x3 : Int32) (x4 : Int32) (S : zMem) (ls : Array Slot), lv_has ls 6 [(0, .ref (w.2.2.1 0)), (2, .ref (w.2.2.1 3)), (3, .int x3), (4, .int x4)] → k80 x3 x4 S = some (r, S1) → zV LC w X (some (.int r)) S1 S 80 ls []) {x3 : Int32} {x4 : Int32} {S : zMem} {ls : Array Slot} (hl : lv_has ls 6 [(0, .ref (w.2.2.1 0)), (2, .ref (w.2.2.1 3)), (3, .int x3), (4, .int x4)]) (h : X8_post_b80 k80 x3 x4 S = some (r, S1)) : zV LC w X (some (.int r)) S1 S 80 ls [] := by
  unfold X8_post_b80 at h
  refine v_iload 80 C dX8_post_80 (lv_at hl 3 rfl) ?_
  refine v_iload_n 82 C dX8_post_82 rfl (lv_at hl 2 rfl) ?_
  refine v_icmp_ge 83 104 C dX8_post_83 (by decide) h (fun h => ?_) (fun h => ?_)
  · refine v_aload_n 104 C dX8_post_104 rfl (lv_at hl 0 rfl) ?_
    refine v_getr 105 (24) C dX8_post_105 fl_X8_21 rfl kC_0 rfl ?_
    refine v_geti 108 C dX8_post_108 fl_X8_146 rfl kC_24 h (fun v1 h => ?_)
    exact v_ireturn 111 C dX8_post_111 h
  · refine v_aload_n 86 C dX8_post_86 rfl (lv_at hl 1 rfl) ?_
    refine v_iload 87 C dX8_post_87 (lv_at hl 3 rfl) ?_
    refine v_aald 89 (45 + 5 * Int32.toNatClampNeg x4) C dX8_post_89 kC_3 (Or.inr rfl) rfl rfl h (fun hz2 h => ?_)
    refine v_astore 90 C [(5, .ref (w.2.2.1 (45 + 5 * Int32.toNatClampNeg x4))), (0, .ref (w.2.2.1 0)), (2, .ref (w.2.2.1 3)), (3, .int x3), (4, .int x4)] dX8_post_90 hl (by decide) rfl (fun ls hl => ?_)
    refine v_aload 92 C dX8_post_92 (lv_at hl 0 rfl) ?_
    refine v_iconst 94 C (v := (0 : Int32)) dX8_post_94 (by decide) ?_
    refine v_putz 95 C dX8_post_95 fl_X8_142 fp_3_5 rfl (kKpt hz2) h (fun S h => ?_)
    refine v_iinc 98 C (nn := (1 : Int32)) (fun v => [(4, .int v), (5, .ref (w.2.2.1 (45 + 5 * Int32.toNatClampNeg x4))), (0, .ref (w.2.2.1 0)), (2, .ref (w.2.2.1 3)), (3, .int x3)]) dX8_post_98 hl (k := 4) rfl (by decide) (by decide) (fun _ => rfl) h (fun v3 ls hl h => ?_)
    refine v_goto 101 80 C dX8_post_101 (by decide) ?_
    exact hc80 _ _ _ _ (lv_sub hl [2, 3, 4, 0] rfl) h
theorem w_X8_post_l80 {w : zWd} {X : zX} {l0 : Launch} {r : Int32} {S1 : zMem} (C : zC LC w X l0 cX8_post RX8 6 6 (some .int)) : ∀ (n : Nat) (x3 : Int32) (x4 : Int32) (S : zMem) (ls : Array Slot), lv_has ls 6 [(0, .ref (w.2.2.1 0)), (2, .ref (w.2.2.1 3)), (3, .int x3), (4, .int x4)] → X8_post_l80 n x3 x4 S = some (r, S1) → zV LC w X (some (.int r)) S1 S 80 ls [] := by
  intro n
  induction n with
  | zero =>
    intro x3 x4 S ls hl h
    cases (show (none : Option (Int32 × zMem)) = some _ from h)
  | succ n ih =>
    intro x3 x4 S ls hl h
    exact w_X8_post_b80 C ih hl h
set_option maxRecDepth 20000 in
theorem w_X8_post_b0 {w : zWd} {X : zX} {l0 : Launch} {r : Int32} {S1 : zMem} (C : zC LC w X l0 cX8_post RX8 6 6 (some .int)) {x1 : Int32} {S : zMem} {ls : Array Slot} (hl : lv_has ls 6 [(0, .ref (w.2.2.1 0)), (1, .int x1)]) (h : X8_post_b0 x1 S = some (r, S1)) : zV LC w X (some (.int r)) S1 S 0 ls [] := by
  unfold X8_post_b0 at h
  refine v_iload_n 0 C dX8_post_0 rfl (lv_at hl 1 rfl) ?_
  obtain ⟨v1, S, hc, h⟩ := zb_e h
  refine v_callSi 1 C [] dX8_post_1 ml_X8_126 hy_X8_isText (c_X8_isText  hc) (by decide) rfl hl.1 (Nat.le_of_ble_eq_true rfl) rfl ?_
  refine v_if_ne 4 9 C dX8_post_4 (by decide) h (fun h => ?_) (fun h => ?_)
  · refine v_aload_n 9 C dX8_post_9 rfl (lv_at hl 0 rfl) ?_
    refine v_getr 10 (2) C dX8_post_10 fl_X8_15 rfl kC_0 rfl ?_
    refine v_iload_n 13 C dX8_post_13 rfl (lv_at hl 1 rfl) ?_
    refine v_aald 14 (16 + 2 * Int32.toNatClampNeg x1) C dX8_post_14 kC_2 (Or.inl rfl) rfl rfl h (fun hz2 h => ?_)
    obtain ⟨v3, S, hc, h⟩ := zb_e h
    refine v_callVi 15 C (ci := 6) [] dX8_post_15 ml_X8_92 hy_X7_isThere (c_X7_isThere (kTxt hz2) hc) (by decide) rfl hl.1 (kTxt hz2) rfl (Nat.le_of_ble_eq_true rfl) rfl ?_
    refine v_if_ne 18 27 C dX8_post_18 (by decide) h (fun h => ?_) (fun h => ?_)
    · refine v_aload_n 27 C dX8_post_27 rfl (lv_at hl 0 rfl) ?_
      refine v_getr 28 (29) C dX8_post_28 fl_X8_28 rfl kC_0 rfl ?_
      refine v_aload_n 31 C dX8_post_31 rfl (lv_at hl 0 rfl) ?_
      refine v_getr 32 (2) C dX8_post_32 fl_X8_15 rfl kC_0 rfl ?_
      refine v_iload_n 35 C dX8_post_35 rfl (lv_at hl 1 rfl) ?_
      refine v_aald 36 (16 + 2 * Int32.toNatClampNeg x1) C dX8_post_36 kC_2 (Or.inl rfl) rfl rfl h (fun hz4 h => ?_)
      obtain ⟨v5, S, hc, h⟩ := zb_e h
      refine v_callVi 37 C (ci := 4) [] dX8_post_37 ml_X8_129 hy_X5_faultOf (c_X5_faultOf (kTxt hz4) hc) (by decide) rfl hl.1 kC_29 rfl (Nat.le_of_ble_eq_true rfl) rfl ?_
      refine v_bipush 40 C (v := (-9 : Int32)) dX8_post_40 (by decide) ?_
      refine v_icmp_eq 42 48 C dX8_post_42 (by decide) h (fun h => ?_) (fun h => ?_)
      · refine v_aload_n 48 C dX8_post_48 rfl (lv_at hl 0 rfl) ?_
        refine v_getr 49 (24) C dX8_post_49 fl_X8_21 rfl kC_0 rfl ?_
        refine v_aload_n 52 C dX8_post_52 rfl (lv_at hl 0 rfl) ?_
        refine v_getr 53 (29) C dX8_post_53 fl_X8_28 rfl kC_0 rfl ?_
        refine v_getr 56 (30) C dX8_post_56 fl_X8_133 rfl kC_29 rfl ?_
        obtain ⟨v6, S, hc, h⟩ := zb_e h
        refine v_callVv 59 C (ci := 5) [] dX8_post_59 ml_X8_136 hy_X6_become (c_X6_become  hc) (by decide) rfl hl.1 kC_24 rfl (Nat.le_of_ble_eq_true rfl) rfl ?_
        refine v_aload_n 62 C dX8_post_62 rfl (lv_at hl 0 rfl) ?_
        refine v_getr 63 (35) C dX8_post_63 fl_X8_37 rfl kC_0 rfl ?_
        obtain ⟨v7, S, hc, h⟩ := zb_e h
        refine v_callVv 66 C (ci := 3) [] dX8_post_66 ml_X8_139 hy_X4_begin (c_X4_begin kC_35 hc) (by decide) rfl hl.1 kC_35 rfl (Nat.le_of_ble_eq_true rfl) rfl ?_
        refine v_aload_n 69 C dX8_post_69 rfl (lv_at hl 0 rfl) ?_
        refine v_getr 70 (3) C dX8_post_70 fl_X8_44 rfl kC_0 rfl ?_
        refine v_astore_n 73 C [(2, .ref (w.2.2.1 3)), (0, .ref (w.2.2.1 0)), (1, .int x1)] dX8_post_73 rfl hl (by decide) rfl (fun ls hl => ?_)
        refine v_aload_n 74 C dX8_post_74 rfl (lv_at hl 0 rfl) ?_
        refine v_rlen 75 C (v := (3 : Int32)) dX8_post_75 kC_3 (Or.inr rfl) (by decide) ?_
        refine v_istore_n 76 C [(3, .int (3 : Int32)), (2, .ref (w.2.2.1 3)), (0, .ref (w.2.2.1 0)), (1, .int x1)] dX8_post_76 rfl hl (by decide) rfl (fun ls hl => ?_)
        refine v_iconst 77 C (v := (0 : Int32)) dX8_post_77 (by decide) ?_
        refine v_istore 78 C [(4, .int (0 : Int32)), (3, .int (3 : Int32)), (2, .ref (w.2.2.1 3)), (0, .ref (w.2.2.1 0)), (1, .int x1)] dX8_post_78 hl (by decide) rfl (fun ls hl => ?_)
        exact w_X8_post_l80 C zF _ _ _ _ (lv_sub hl [3, 2, 1, 0] rfl) h
      · refine v_bipush 45 C (v := (-4 : Int32)) dX8_post_45 (by decide) ?_
        exact v_ireturn 47 C dX8_post_47 h
    · refine v_aload_n 21 C dX8_post_21 rfl (lv_at hl 0 rfl) ?_
      refine v_iconst 22 C (v := (1 : Int32)) dX8_post_22 (by decide) ?_
      obtain ⟨v8, S, hc, h⟩ := zb_e h
      refine v_callVi 23 C (ci := 7) [] dX8_post_23 ml_X8_84 hy_X8_refuse (c_X8_refuse  hc) (by decide) rfl hl.1 kC_0 rfl (Nat.le_of_ble_eq_true rfl) rfl ?_
      exact v_ireturn 26 C dX8_post_26 h
  · refine v_iconst 7 C (v := (-1 : Int32)) dX8_post_7 (by decide) ?_
    exact v_ireturn 8 C dX8_post_8 h
theorem c_X8_post {w : zWd} {l0 : Launch} {x1 : Int32} {S S1 : zMem} {r : Int32} (h : f_X8_post x1 S = some (r, S1)) : zMet LC w l0 yX8_post cX8_post 6 (some .int) 6 [.ref (w.2.2.1 0), .int x1] S (some (.int r)) S1 :=
  zMet_of (by decide +kernel) (Nat.le_of_ble_eq_true rfl) (fun X ls C hl => w_X8_post_b0 C hl h)
theorem fl_X8_337 : zFL RX8 337 5 4 := ⟨_, rfl, by decide, zT_of (List.mem_of_getElem? (i := 117) (by decide +kernel)) rfl⟩
theorem dX8_isHouse_0 : decode cX8_isHouse 0 = .ok (.iload_n 1, 1) := by decide +kernel
theorem dX8_isHouse_1 : decode cX8_isHouse 1 = .ok (.aload_n 0, 1) := by decide +kernel
theorem dX8_isHouse_2 : decode cX8_isHouse 2 = .ok (.getfield 21, 3) := by decide +kernel
theorem dX8_isHouse_5 : decode cX8_isHouse 5 = .ok (.getfield 337, 3) := by decide +kernel
theorem dX8_isHouse_8 : decode cX8_isHouse 8 = .ok (.iconst 1, 1) := by decide +kernel
theorem dX8_isHouse_9 : decode cX8_isHouse 9 = .ok (.isub, 1) := by decide +kernel
theorem dX8_isHouse_10 : decode cX8_isHouse 10 = .ok (.invokestatic 152, 3) := by decide +kernel
theorem dX8_isHouse_13 : decode cX8_isHouse 13 = .ok (.ireturn, 1) := by decide +kernel
set_option maxRecDepth 20000 in
theorem w_X8_isHouse_b0 {w : zWd} {X : zX} {l0 : Launch} {r : Int32} {S1 : zMem} (C : zC LC w X l0 cX8_isHouse RX8 2 2 (some .boolean)) {x1 : Int32} {S : zMem} {ls : Array Slot} (hl : lv_has ls 2 [(0, .ref (w.2.2.1 0)), (1, .int x1)]) (h : X8_isHouse_b0 x1 S = some (r, S1)) : zV LC w X (some (.int r)) S1 S 0 ls [] := by
  unfold X8_isHouse_b0 at h
  refine v_iload_n 0 C dX8_isHouse_0 rfl (lv_at hl 1 rfl) ?_
  refine v_aload_n 1 C dX8_isHouse_1 rfl (lv_at hl 0 rfl) ?_
  refine v_getr 2 (24) C dX8_isHouse_2 fl_X8_21 rfl kC_0 rfl ?_
  refine v_geti 5 C dX8_isHouse_5 fl_X8_337 rfl kC_24 h (fun v1 h => ?_)
  refine v_iconst 8 C (v := (1 : Int32)) dX8_isHouse_8 (by decide) ?_
  refine v_isub 9 C dX8_isHouse_9 h (fun v2 h => ?_)
  obtain ⟨v3, S, hc, h⟩ := zb_e h
  refine v_callSi 10 C [] dX8_isHouse_10 ml_X8_152 hy_X8_within (c_X8_within  hc) (by decide) rfl hl.1 (Nat.le_of_ble_eq_true rfl) rfl ?_
  exact v_zreturn 13 C dX8_isHouse_13 h
theorem c_X8_isHouse {w : zWd} {l0 : Launch} {x1 : Int32} {S S1 : zMem} {r : Int32} (h : f_X8_isHouse x1 S = some (r, S1)) : zMet LC w l0 yX8_isHouse cX8_isHouse 2 (some .boolean) 2 [.ref (w.2.2.1 0), .int x1] S (some (.int r)) S1 :=
  zMet_of (by decide +kernel) (Nat.le_of_ble_eq_true rfl) (fun X ls C hl => w_X8_isHouse_b0 C hl h)
theorem dX6_lettersTo_0 : decode cX6_lettersTo 0 = .ok (.iconst 0, 1) := by decide +kernel
theorem dX6_lettersTo_1 : decode cX6_lettersTo 1 = .ok (.istore_n 2, 1) := by decide +kernel
theorem dX6_lettersTo_2 : decode cX6_lettersTo 2 = .ok (.iconst 0, 1) := by decide +kernel
theorem dX6_lettersTo_3 : decode cX6_lettersTo 3 = .ok (.istore_n 3, 1) := by decide +kernel
theorem dX6_lettersTo_4 : decode cX6_lettersTo 4 = .ok (.iload_n 3, 1) := by decide +kernel
theorem dX6_lettersTo_5 : decode cX6_lettersTo 5 = .ok (.aload_n 0, 1) := by decide +kernel
theorem dX6_lettersTo_6 : decode cX6_lettersTo 6 = .ok (.getfield 28, 3) := by decide +kernel
theorem dX6_lettersTo_9 : decode cX6_lettersTo 9 = .ok (.if_icmp .ge 25, 3) := by decide +kernel
theorem dX6_lettersTo_12 : decode cX6_lettersTo 12 = .ok (.aload_n 0, 1) := by decide +kernel
theorem dX6_lettersTo_13 : decode cX6_lettersTo 13 = .ok (.getfield 18, 3) := by decide +kernel
theorem dX6_lettersTo_16 : decode cX6_lettersTo 16 = .ok (.iload_n 3, 1) := by decide +kernel
theorem dX6_lettersTo_17 : decode cX6_lettersTo 17 = .ok (.iaload, 1) := by decide +kernel
theorem dX6_lettersTo_18 : decode cX6_lettersTo 18 = .ok (.iload_n 1, 1) := by decide +kernel
theorem dX6_lettersTo_19 : decode cX6_lettersTo 19 = .ok (.if_icmp .ne 9, 3) := by decide +kernel
theorem dX6_lettersTo_22 : decode cX6_lettersTo 22 = .ok (.iload_n 2, 1) := by decide +kernel
theorem dX6_lettersTo_23 : decode cX6_lettersTo 23 = .ok (.iconst 1, 1) := by decide +kernel
theorem dX6_lettersTo_24 : decode cX6_lettersTo 24 = .ok (.iload_n 3, 1) := by decide +kernel
theorem dX6_lettersTo_25 : decode cX6_lettersTo 25 = .ok (.ishl, 1) := by decide +kernel
theorem dX6_lettersTo_26 : decode cX6_lettersTo 26 = .ok (.ior, 1) := by decide +kernel
theorem dX6_lettersTo_27 : decode cX6_lettersTo 27 = .ok (.istore_n 2, 1) := by decide +kernel
theorem dX6_lettersTo_28 : decode cX6_lettersTo 28 = .ok (.iinc 3 1, 3) := by decide +kernel
theorem dX6_lettersTo_31 : decode cX6_lettersTo 31 = .ok (.goto (-27), 3) := by decide +kernel
theorem dX6_lettersTo_34 : decode cX6_lettersTo 34 = .ok (.iload_n 2, 1) := by decide +kernel
theorem dX6_lettersTo_35 : decode cX6_lettersTo 35 = .ok (.ireturn, 1) := by decide +kernel
set_option maxRecDepth 20000 in
theorem w_X6_lettersTo_b28 {w : zWd} {X : zX} {l0 : Launch} {r : Int32} {S1 : zMem} (C : zC LC w X l0 cX6_lettersTo RX6 4 1 (some .int)) {k4 : Int32 → Int32 → Int32 → zMem → Option (Int32 × zMem)} (hc4 : ∀ (x1 : Int32) (x2 : Int32) (x3 : Int32) (S : zMem) (ls : Array Slot), lv_has ls 4 [(0, .ref (w.2.2.1 24)), (1, .int x1), (2, .int x2), (3, .int x3)] → k4 x1 x2 x3 S = some (r, S1) → zV LC w X (some (.int r)) S1 S 4 ls []) {x1 : Int32} {x2 : Int32} {x3 : Int32} {S : zMem} {ls : Array Slot} (hl : lv_has ls 4 [(0, .ref (w.2.2.1 24)), (1, .int x1), (2, .int x2), (3, .int x3)]) (h : X6_lettersTo_b28 k4 x1 x2 x3 S = some (r, S1)) : zV LC w X (some (.int r)) S1 S 28 ls [] := by
  unfold X6_lettersTo_b28 at h
  refine v_iinc 28 C (nn := (1 : Int32)) (fun v => [(3, .int v), (0, .ref (w.2.2.1 24)), (1, .int x1), (2, .int x2)]) dX6_lettersTo_28 hl (k := 3) rfl (by decide) (by decide) (fun _ => rfl) h (fun v1 ls hl h => ?_)
  refine v_goto 31 4 C dX6_lettersTo_31 (by decide) ?_
  exact hc4 _ _ _ _ _ (lv_sub hl [1, 2, 3, 0] rfl) h
set_option maxRecDepth 20000 in
theorem w_X6_lettersTo_b4 {w : zWd} {X : zX} {l0 : Launch} {r : Int32} {S1 : zMem} (C : zC LC w X l0 cX6_lettersTo RX6 4 1 (some .int)) {k4 : Int32 → Int32 → Int32 → zMem → Option (Int32 × zMem)} (hc4 : ∀ (x1 : Int32) (x2 : Int32) (x3 : Int32) (S : zMem) (ls : Array Slot), lv_has ls 4 [(0, .ref (w.2.2.1 24)), (1, .int x1), (2, .int x2), (3, .int x3)] → k4 x1 x2 x3 S = some (r, S1) → zV LC w X (some (.int r)) S1 S 4 ls []) {x1 : Int32} {x2 : Int32} {x3 : Int32} {S : zMem} {ls : Array Slot} (hl : lv_has ls 4 [(0, .ref (w.2.2.1 24)), (1, .int x1), (2, .int x2), (3, .int x3)]) (h : X6_lettersTo_b4 k4 x1 x2 x3 S = some (r, S1)) : zV LC w X (some (.int r)) S1 S 4 ls [] := by
  unfold X6_lettersTo_b4 at h
  refine v_iload_n 4 C dX6_lettersTo_4 rfl (lv_at hl 3 rfl) ?_
  refine v_aload_n 5 C dX6_lettersTo_5 rfl (lv_at hl 0 rfl) ?_
  refine v_geti 6 C dX6_lettersTo_6 fl_X6_28 rfl kC_24 h (fun v1 h => ?_)
  refine v_icmp_ge 9 34 C dX6_lettersTo_9 (by decide) h (fun h => ?_) (fun h => ?_)
  · refine v_iload_n 34 C dX6_lettersTo_34 rfl (lv_at hl 2 rfl) ?_
    exact v_ireturn 35 C dX6_lettersTo_35 h
  · refine v_aload_n 12 C dX6_lettersTo_12 rfl (lv_at hl 0 rfl) ?_
    refine v_getr 13 (27) C dX6_lettersTo_13 fl_X6_18 rfl kC_24 rfl ?_
    refine v_iload_n 16 C dX6_lettersTo_16 rfl (lv_at hl 3 rfl) ?_
    refine v_iald 17 C dX6_lettersTo_17 kC_27 rfl h (fun v2 h => ?_)
    refine v_iload_n 18 C dX6_lettersTo_18 rfl (lv_at hl 1 rfl) ?_
    refine v_icmp_ne 19 28 C dX6_lettersTo_19 (by decide) h (fun h => ?_) (fun h => ?_)
    · exact w_X6_lettersTo_b28 C hc4 (lv_sub hl [0, 1, 2, 3] rfl) h
    · refine v_iload_n 22 C dX6_lettersTo_22 rfl (lv_at hl 2 rfl) ?_
      refine v_iconst 23 C (v := (1 : Int32)) dX6_lettersTo_23 (by decide) ?_
      refine v_iload_n 24 C dX6_lettersTo_24 rfl (lv_at hl 3 rfl) ?_
      refine v_ishl 25 C dX6_lettersTo_25 h (fun v3 h => ?_)
      refine v_ior 26 C dX6_lettersTo_26 h (fun v4 h => ?_)
      refine v_istore_n 27 C [(2, .int v4), (0, .ref (w.2.2.1 24)), (1, .int x1), (3, .int x3)] dX6_lettersTo_27 rfl hl (by decide) rfl (fun ls hl => ?_)
      exact w_X6_lettersTo_b28 C hc4 (lv_sub hl [1, 2, 0, 3] rfl) h
theorem w_X6_lettersTo_l4 {w : zWd} {X : zX} {l0 : Launch} {r : Int32} {S1 : zMem} (C : zC LC w X l0 cX6_lettersTo RX6 4 1 (some .int)) : ∀ (n : Nat) (x1 : Int32) (x2 : Int32) (x3 : Int32) (S : zMem) (ls : Array Slot), lv_has ls 4 [(0, .ref (w.2.2.1 24)), (1, .int x1), (2, .int x2), (3, .int x3)] → X6_lettersTo_l4 n x1 x2 x3 S = some (r, S1) → zV LC w X (some (.int r)) S1 S 4 ls [] := by
  intro n
  induction n with
  | zero =>
    intro x1 x2 x3 S ls hl h
    cases (show (none : Option (Int32 × zMem)) = some _ from h)
  | succ n ih =>
    intro x1 x2 x3 S ls hl h
    exact w_X6_lettersTo_b4 C ih hl h
set_option maxRecDepth 20000 in
theorem w_X6_lettersTo_b0 {w : zWd} {X : zX} {l0 : Launch} {r : Int32} {S1 : zMem} (C : zC LC w X l0 cX6_lettersTo RX6 4 1 (some .int)) {x1 : Int32} {S : zMem} {ls : Array Slot} (hl : lv_has ls 4 [(0, .ref (w.2.2.1 24)), (1, .int x1)]) (h : X6_lettersTo_b0 x1 S = some (r, S1)) : zV LC w X (some (.int r)) S1 S 0 ls [] := by
  unfold X6_lettersTo_b0 at h
  refine v_iconst 0 C (v := (0 : Int32)) dX6_lettersTo_0 (by decide) ?_
  refine v_istore_n 1 C [(2, .int (0 : Int32)), (0, .ref (w.2.2.1 24)), (1, .int x1)] dX6_lettersTo_1 rfl hl (by decide) rfl (fun ls hl => ?_)
  refine v_iconst 2 C (v := (0 : Int32)) dX6_lettersTo_2 (by decide) ?_
  refine v_istore_n 3 C [(3, .int (0 : Int32)), (2, .int (0 : Int32)), (0, .ref (w.2.2.1 24)), (1, .int x1)] dX6_lettersTo_3 rfl hl (by decide) rfl (fun ls hl => ?_)
  exact w_X6_lettersTo_l4 C zF _ _ _ _ _ (lv_sub hl [2, 3, 1, 0] rfl) h
theorem c_X6_lettersTo {w : zWd} {l0 : Launch} {x1 : Int32} {S S1 : zMem} {r : Int32} (h : f_X6_lettersTo x1 S = some (r, S1)) : zMet LC w l0 yX6_lettersTo cX6_lettersTo 4 (some .int) 1 [.ref (w.2.2.1 24), .int x1] S (some (.int r)) S1 :=
  zMet_of (by decide +kernel) (Nat.le_of_ble_eq_true rfl) (fun X ls C hl => w_X6_lettersTo_b0 C hl h)
theorem fl_X8_233 : zFL RX8 233 3 1 := ⟨_, rfl, by decide, zT_of (List.mem_of_getElem? (i := 168) (by decide +kernel)) rfl⟩
theorem ml_X8_358 : Cond.methodLink RX8 358 yX6_lettersTo ∈ zT := zT_of (List.mem_of_getElem? (i := 498) (by decide +kernel)) rfl
theorem hy_X6_lettersTo : zYv yX6_lettersTo cX6_lettersTo 4 (some .int) 1 := ⟨⟨zT_of (List.mem_of_getElem? (i := 501) (by decide +kernel)) rfl, zT_of (List.mem_of_getElem? (i := 71) (by decide +kernel)) rfl, by decide, by decide +kernel, by decide +kernel, by decide +kernel⟩, zT_of (List.mem_of_getElem? (i := 499) (by decide +kernel)) rfl, zT_of (List.mem_of_getElem? (i := 500) (by decide +kernel)) rfl⟩
theorem fl_X8_351 : zFL RX8 351 3 10 := ⟨_, rfl, by decide, zT_of (List.mem_of_getElem? (i := 190) (by decide +kernel)) rfl⟩
theorem ml_X8_361 : Cond.methodLink RX8 361 Lib.Math.abs.name ∈ zT := zT_of (List.mem_of_getElem? (i := 502) (by decide +kernel)) rfl
theorem dX8_ofHouse_0 : decode cX8_ofHouse 0 = .ok (.iload_n 2, 1) := by decide +kernel
theorem dX8_ofHouse_1 : decode cX8_ofHouse 1 = .ok (.lookupswitch 46 #[(0, 27), (1, 37)], 27) := by decide +kernel
theorem dX8_ofHouse_28 : decode cX8_ofHouse 28 = .ok (.aload_n 0, 1) := by decide +kernel
theorem dX8_ofHouse_29 : decode cX8_ofHouse 29 = .ok (.getfield 37, 3) := by decide +kernel
theorem dX8_ofHouse_32 : decode cX8_ofHouse 32 = .ok (.getfield 233, 3) := by decide +kernel
theorem dX8_ofHouse_35 : decode cX8_ofHouse 35 = .ok (.iload_n 1, 1) := by decide +kernel
theorem dX8_ofHouse_36 : decode cX8_ofHouse 36 = .ok (.iaload, 1) := by decide +kernel
theorem dX8_ofHouse_37 : decode cX8_ofHouse 37 = .ok (.ireturn, 1) := by decide +kernel
theorem dX8_ofHouse_38 : decode cX8_ofHouse 38 = .ok (.aload_n 0, 1) := by decide +kernel
theorem dX8_ofHouse_39 : decode cX8_ofHouse 39 = .ok (.getfield 21, 3) := by decide +kernel
theorem dX8_ofHouse_42 : decode cX8_ofHouse 42 = .ok (.iload_n 1, 1) := by decide +kernel
theorem dX8_ofHouse_43 : decode cX8_ofHouse 43 = .ok (.invokevirtual 358, 3) := by decide +kernel
theorem dX8_ofHouse_46 : decode cX8_ofHouse 46 = .ok (.ireturn, 1) := by decide +kernel
theorem dX8_ofHouse_47 : decode cX8_ofHouse 47 = .ok (.iload_n 1, 1) := by decide +kernel
theorem dX8_ofHouse_48 : decode cX8_ofHouse 48 = .ok (.aload_n 0, 1) := by decide +kernel
theorem dX8_ofHouse_49 : decode cX8_ofHouse 49 = .ok (.getfield 37, 3) := by decide +kernel
theorem dX8_ofHouse_52 : decode cX8_ofHouse 52 = .ok (.getfield 351, 3) := by decide +kernel
theorem dX8_ofHouse_55 : decode cX8_ofHouse 55 = .ok (.isub, 1) := by decide +kernel
theorem dX8_ofHouse_56 : decode cX8_ofHouse 56 = .ok (.invokestatic 361, 3) := by decide +kernel
theorem dX8_ofHouse_59 : decode cX8_ofHouse 59 = .ok (.ireturn, 1) := by decide +kernel
set_option maxRecDepth 20000 in
theorem w_X8_ofHouse_b0 {w : zWd} {X : zX} {l0 : Launch} {r : Int32} {S1 : zMem} (C : zC LC w X l0 cX8_ofHouse RX8 3 2 (some .int)) {x1 : Int32} {x2 : Int32} {S : zMem} {ls : Array Slot} (hl : lv_has ls 3 [(0, .ref (w.2.2.1 0)), (1, .int x1), (2, .int x2)]) (h : X8_ofHouse_b0 x1 x2 S = some (r, S1)) : zV LC w X (some (.int r)) S1 S 0 ls [] := by
  unfold X8_ofHouse_b0 at h
  refine v_iload_n 0 C dX8_ofHouse_0 rfl (lv_at hl 2 rfl) ?_
  refine v_ite h (fun hq2 h => ?_) (fun hq2 h => ?_)
  · refine v_look 1 28 C (x := x2) (off := 27) dX8_ofHouse_1 (by decide) (by rw [hq2]; rfl) (by decide) ?_
    refine v_aload_n 28 C dX8_ofHouse_28 rfl (lv_at hl 0 rfl) ?_
    refine v_getr 29 (35) C dX8_ofHouse_29 fl_X8_37 rfl kC_0 rfl ?_
    refine v_getr 32 (36) C dX8_ofHouse_32 fl_X8_233 rfl kC_35 rfl ?_
    refine v_iload_n 35 C dX8_ofHouse_35 rfl (lv_at hl 1 rfl) ?_
    refine v_iald 36 C dX8_ofHouse_36 kC_36 rfl h (fun v1 h => ?_)
    exact v_ireturn 37 C dX8_ofHouse_37 h
  · refine v_ite h (fun hq4 h => ?_) (fun hq4 h => ?_)
    · refine v_look 1 38 C (x := x2) (off := 37) dX8_ofHouse_1 (by decide) (by rw [hq4]; rfl) (by decide) ?_
      refine v_aload_n 38 C dX8_ofHouse_38 rfl (lv_at hl 0 rfl) ?_
      refine v_getr 39 (24) C dX8_ofHouse_39 fl_X8_21 rfl kC_0 rfl ?_
      refine v_iload_n 42 C dX8_ofHouse_42 rfl (lv_at hl 1 rfl) ?_
      obtain ⟨v3, S, hc, h⟩ := zb_e h
      refine v_callVi 43 C (ci := 5) [] dX8_ofHouse_43 ml_X8_358 hy_X6_lettersTo (c_X6_lettersTo  hc) (by decide) rfl hl.1 kC_24 rfl (Nat.le_of_ble_eq_true rfl) rfl ?_
      exact v_ireturn 46 C dX8_ofHouse_46 h
    · refine v_look 1 47 C (x := x2) (off := 46) dX8_ofHouse_1 (by decide) (by rw [lv_osw hq2 (by decide)]; rw [lv_osw hq4 (by decide)]; rfl) (by decide) ?_
      refine v_iload_n 47 C dX8_ofHouse_47 rfl (lv_at hl 1 rfl) ?_
      refine v_aload_n 48 C dX8_ofHouse_48 rfl (lv_at hl 0 rfl) ?_
      refine v_getr 49 (35) C dX8_ofHouse_49 fl_X8_37 rfl kC_0 rfl ?_
      refine v_geti 52 C dX8_ofHouse_52 fl_X8_351 rfl kC_35 h (fun v5 h => ?_)
      refine v_isub 55 C dX8_ofHouse_55 h (fun v6 h => ?_)
      refine v_mabs 56 C dX8_ofHouse_56 ml_X8_361 hl.1 (by decide) (Nat.le_of_ble_eq_true rfl) h (fun v7 h => ?_)
      exact v_ireturn 59 C dX8_ofHouse_59 h
theorem c_X8_ofHouse {w : zWd} {l0 : Launch} {x1 : Int32} {x2 : Int32} {S S1 : zMem} {r : Int32} (h : f_X8_ofHouse x1 x2 S = some (r, S1)) : zMet LC w l0 yX8_ofHouse cX8_ofHouse 3 (some .int) 2 [.ref (w.2.2.1 0), .int x1, .int x2] S (some (.int r)) S1 :=
  zMet_of (by decide +kernel) (Nat.le_of_ble_eq_true rfl) (fun X ls C hl => w_X8_ofHouse_b0 C hl h)
