-- X9_keepLine X9_nextLine X9_tellLine X9_round X9_plan X9_noLetters X9_rest X9_noPairs X9_isSo X9_wordsBy X9_meant X9_kinds X9_greatestPart X9_test X9_noSets X9_wordsOf X9_sets X9_sure X9_beginTurn X9_isFree X9_better X9_duel
theorem fl_X9_50 : zFL RX9 50 8 25 := ⟨_, rfl, by decide, zT_of (List.mem_of_getElem? (i := 895) (by decide +kernel)) rfl⟩
theorem dX9_keepLine_0 : decode cX9_keepLine 0 = .ok (.iconst 0, 1) := by decide +kernel
theorem dX9_keepLine_1 : decode cX9_keepLine 1 = .ok (.istore_n 2, 1) := by decide +kernel
theorem dX9_keepLine_2 : decode cX9_keepLine 2 = .ok (.iload_n 2, 1) := by decide +kernel
theorem dX9_keepLine_3 : decode cX9_keepLine 3 = .ok (.iload_n 1, 1) := by decide +kernel
theorem dX9_keepLine_4 : decode cX9_keepLine 4 = .ok (.if_icmp .ge 21, 3) := by decide +kernel
theorem dX9_keepLine_7 : decode cX9_keepLine 7 = .ok (.aload_n 0, 1) := by decide +kernel
theorem dX9_keepLine_8 : decode cX9_keepLine 8 = .ok (.getfield 50, 3) := by decide +kernel
theorem dX9_keepLine_11 : decode cX9_keepLine 11 = .ok (.iload_n 2, 1) := by decide +kernel
theorem dX9_keepLine_12 : decode cX9_keepLine 12 = .ok (.aload_n 0, 1) := by decide +kernel
theorem dX9_keepLine_13 : decode cX9_keepLine 13 = .ok (.getfield 47, 3) := by decide +kernel
theorem dX9_keepLine_16 : decode cX9_keepLine 16 = .ok (.iload_n 2, 1) := by decide +kernel
theorem dX9_keepLine_17 : decode cX9_keepLine 17 = .ok (.iaload, 1) := by decide +kernel
theorem dX9_keepLine_18 : decode cX9_keepLine 18 = .ok (.iastore, 1) := by decide +kernel
theorem dX9_keepLine_19 : decode cX9_keepLine 19 = .ok (.iinc 2 1, 3) := by decide +kernel
theorem dX9_keepLine_22 : decode cX9_keepLine 22 = .ok (.goto (-20), 3) := by decide +kernel
theorem dX9_keepLine_25 : decode cX9_keepLine 25 = .ok (.return_, 1) := by decide +kernel
set_option maxRecDepth 20000 in
theorem w_X9_keepLine_b2 {w : zWd} {X : zX} {l0 : Launch} {r : Unit} {S1 : zMem} (C : zC LM w X l0 cX9_keepLine RX9 3 1 none) {k2 : Int32 → Int32 → zMem → Option (Unit × zMem)} (hc2 : ∀ (x1 : Int32) (x2 : Int32) (S : zMem) (ls : Array Slot), lv_has ls 3 [(0, .ref (w.2.2.1 0)), (1, .int x1), (2, .int x2)] → k2 x1 x2 S = some (r, S1) → zV LM w X none S1 S 2 ls []) {x1 : Int32} {x2 : Int32} {S : zMem} {ls : Array Slot} (hl : lv_has ls 3 [(0, .ref (w.2.2.1 0)), (1, .int x1), (2, .int x2)]) (h : X9_keepLine_b2 k2 x1 x2 S = some (r, S1)) : zV LM w X none S1 S 2 ls [] := by
  unfold X9_keepLine_b2 at h
  refine v_iload_n 2 C dX9_keepLine_2 rfl (lv_at hl 2 rfl) ?_
  refine v_iload_n 3 C dX9_keepLine_3 rfl (lv_at hl 1 rfl) ?_
  refine v_icmp_ge 4 25 C dX9_keepLine_4 (by decide) h (fun h => ?_) (fun h => ?_)
  · exact v_return 25 C dX9_keepLine_25 h
  · refine v_aload_n 7 C dX9_keepLine_7 rfl (lv_at hl 0 rfl) ?_
    refine v_getr 8 (13) C dX9_keepLine_8 fl_X9_50 rfl kM_0 rfl ?_
    refine v_iload_n 11 C dX9_keepLine_11 rfl (lv_at hl 2 rfl) ?_
    refine v_aload_n 12 C dX9_keepLine_12 rfl (lv_at hl 0 rfl) ?_
    refine v_getr 13 (12) C dX9_keepLine_13 fl_X9_47 rfl kM_0 rfl ?_
    refine v_iload_n 16 C dX9_keepLine_16 rfl (lv_at hl 2 rfl) ?_
    refine v_iald 17 C dX9_keepLine_17 kM_12 rfl h (fun v1 h => ?_)
    refine v_iast 18 C dX9_keepLine_18 kM_13 rfl h (fun S h => ?_)
    refine v_iinc 19 C (nn := (1 : Int32)) (fun v => [(2, .int v), (0, .ref (w.2.2.1 0)), (1, .int x1)]) dX9_keepLine_19 hl (k := 2) rfl (by decide) (by decide) (fun _ => rfl) h (fun v2 ls hl h => ?_)
    refine v_goto 22 2 C dX9_keepLine_22 (by decide) ?_
    exact hc2 _ _ _ _ (lv_sub hl [1, 2, 0] rfl) h
theorem w_X9_keepLine_l2 {w : zWd} {X : zX} {l0 : Launch} {r : Unit} {S1 : zMem} (C : zC LM w X l0 cX9_keepLine RX9 3 1 none) : ∀ (n : Nat) (x1 : Int32) (x2 : Int32) (S : zMem) (ls : Array Slot), lv_has ls 3 [(0, .ref (w.2.2.1 0)), (1, .int x1), (2, .int x2)] → X9_keepLine_l2 n x1 x2 S = some (r, S1) → zV LM w X none S1 S 2 ls [] := by
  intro n
  induction n with
  | zero =>
    intro x1 x2 S ls hl h
    cases (show (none : Option (Unit × zMem)) = some _ from h)
  | succ n ih =>
    intro x1 x2 S ls hl h
    exact w_X9_keepLine_b2 C ih hl h
set_option maxRecDepth 20000 in
theorem w_X9_keepLine_b0 {w : zWd} {X : zX} {l0 : Launch} {r : Unit} {S1 : zMem} (C : zC LM w X l0 cX9_keepLine RX9 3 1 none) {x1 : Int32} {S : zMem} {ls : Array Slot} (hl : lv_has ls 3 [(0, .ref (w.2.2.1 0)), (1, .int x1)]) (h : X9_keepLine_b0 x1 S = some (r, S1)) : zV LM w X none S1 S 0 ls [] := by
  unfold X9_keepLine_b0 at h
  refine v_iconst 0 C (v := (0 : Int32)) dX9_keepLine_0 (by decide) ?_
  refine v_istore_n 1 C [(2, .int (0 : Int32)), (0, .ref (w.2.2.1 0)), (1, .int x1)] dX9_keepLine_1 rfl hl (by decide) rfl (fun ls hl => ?_)
  exact w_X9_keepLine_l2 C zF _ _ _ _ (lv_sub hl [1, 2, 0] rfl) h
theorem c_X9_keepLine {w : zWd} {l0 : Launch} {x1 : Int32} {S S1 : zMem} {r : Unit} (h : f_X9_keepLine x1 S = some (r, S1)) : zMet LM w l0 yX9_keepLine cX9_keepLine 3 none 1 [.ref (w.2.2.1 0), .int x1] S none S1 :=
  zMet_of (by decide +kernel) (Nat.le_of_ble_eq_true rfl) (fun X ls C hl => w_X9_keepLine_b0 C hl h)
theorem dX9_nextLine_0 : decode cX9_nextLine 0 = .ok (.iload_n 1, 1) := by decide +kernel
theorem dX9_nextLine_1 : decode cX9_nextLine 1 = .ok (.iconst 1, 1) := by decide +kernel
theorem dX9_nextLine_2 : decode cX9_nextLine 2 = .ok (.isub, 1) := by decide +kernel
theorem dX9_nextLine_3 : decode cX9_nextLine 3 = .ok (.istore_n 2, 1) := by decide +kernel
theorem dX9_nextLine_4 : decode cX9_nextLine 4 = .ok (.iload_n 2, 1) := by decide +kernel
theorem dX9_nextLine_5 : decode cX9_nextLine 5 = .ok (.ifCond .lt 31, 3) := by decide +kernel
theorem dX9_nextLine_8 : decode cX9_nextLine 8 = .ok (.aload_n 0, 1) := by decide +kernel
theorem dX9_nextLine_9 : decode cX9_nextLine 9 = .ok (.getfield 47, 3) := by decide +kernel
theorem dX9_nextLine_12 : decode cX9_nextLine 12 = .ok (.iload_n 2, 1) := by decide +kernel
theorem dX9_nextLine_13 : decode cX9_nextLine 13 = .ok (.iaload, 1) := by decide +kernel
theorem dX9_nextLine_14 : decode cX9_nextLine 14 = .ok (.aload_n 0, 1) := by decide +kernel
theorem dX9_nextLine_15 : decode cX9_nextLine 15 = .ok (.getfield 152, 3) := by decide +kernel
theorem dX9_nextLine_18 : decode cX9_nextLine 18 = .ok (.iconst 1, 1) := by decide +kernel
theorem dX9_nextLine_19 : decode cX9_nextLine 19 = .ok (.isub, 1) := by decide +kernel
theorem dX9_nextLine_20 : decode cX9_nextLine 20 = .ok (.if_icmp .ne 16, 3) := by decide +kernel
theorem dX9_nextLine_23 : decode cX9_nextLine 23 = .ok (.aload_n 0, 1) := by decide +kernel
theorem dX9_nextLine_24 : decode cX9_nextLine 24 = .ok (.getfield 47, 3) := by decide +kernel
theorem dX9_nextLine_27 : decode cX9_nextLine 27 = .ok (.iload_n 2, 1) := by decide +kernel
theorem dX9_nextLine_28 : decode cX9_nextLine 28 = .ok (.iconst 0, 1) := by decide +kernel
theorem dX9_nextLine_29 : decode cX9_nextLine 29 = .ok (.iastore, 1) := by decide +kernel
theorem dX9_nextLine_30 : decode cX9_nextLine 30 = .ok (.iinc 2 (-1), 3) := by decide +kernel
theorem dX9_nextLine_33 : decode cX9_nextLine 33 = .ok (.goto (-29), 3) := by decide +kernel
theorem dX9_nextLine_36 : decode cX9_nextLine 36 = .ok (.iload_n 2, 1) := by decide +kernel
theorem dX9_nextLine_37 : decode cX9_nextLine 37 = .ok (.ifCond .lt 13, 3) := by decide +kernel
theorem dX9_nextLine_40 : decode cX9_nextLine 40 = .ok (.aload_n 0, 1) := by decide +kernel
theorem dX9_nextLine_41 : decode cX9_nextLine 41 = .ok (.getfield 47, 3) := by decide +kernel
theorem dX9_nextLine_44 : decode cX9_nextLine 44 = .ok (.iload_n 2, 1) := by decide +kernel
theorem dX9_nextLine_45 : decode cX9_nextLine 45 = .ok (.dup2, 1) := by decide +kernel
theorem dX9_nextLine_46 : decode cX9_nextLine 46 = .ok (.iaload, 1) := by decide +kernel
theorem dX9_nextLine_47 : decode cX9_nextLine 47 = .ok (.iconst 1, 1) := by decide +kernel
theorem dX9_nextLine_48 : decode cX9_nextLine 48 = .ok (.iadd, 1) := by decide +kernel
theorem dX9_nextLine_49 : decode cX9_nextLine 49 = .ok (.iastore, 1) := by decide +kernel
theorem dX9_nextLine_50 : decode cX9_nextLine 50 = .ok (.iload_n 2, 1) := by decide +kernel
theorem dX9_nextLine_51 : decode cX9_nextLine 51 = .ok (.ifCond .lt 7, 3) := by decide +kernel
theorem dX9_nextLine_54 : decode cX9_nextLine 54 = .ok (.iconst 1, 1) := by decide +kernel
theorem dX9_nextLine_55 : decode cX9_nextLine 55 = .ok (.goto 4, 3) := by decide +kernel
theorem dX9_nextLine_58 : decode cX9_nextLine 58 = .ok (.iconst 0, 1) := by decide +kernel
theorem dX9_nextLine_59 : decode cX9_nextLine 59 = .ok (.ireturn, 1) := by decide +kernel
set_option maxRecDepth 20000 in
theorem w_X9_nextLine_b59 {w : zWd} {X : zX} {l0 : Launch} {r : Int32} {S1 : zMem} (C : zC LM w X l0 cX9_nextLine RX9 3 1 (some .boolean)) {s0 : Int32} {S : zMem} {ls : Array Slot} (hl : lv_has ls 3 []) (h : X9_nextLine_b59 s0 S = some (r, S1)) : zV LM w X (some (.int r)) S1 S 59 ls [.int s0] := by
  unfold X9_nextLine_b59 at h
  exact v_zreturn 59 C dX9_nextLine_59 h
set_option maxRecDepth 20000 in
theorem w_X9_nextLine_b50 {w : zWd} {X : zX} {l0 : Launch} {r : Int32} {S1 : zMem} (C : zC LM w X l0 cX9_nextLine RX9 3 1 (some .boolean)) {x2 : Int32} {S : zMem} {ls : Array Slot} (hl : lv_has ls 3 [(2, .int x2)]) (h : X9_nextLine_b50 x2 S = some (r, S1)) : zV LM w X (some (.int r)) S1 S 50 ls [] := by
  unfold X9_nextLine_b50 at h
  refine v_iload_n 50 C dX9_nextLine_50 rfl (lv_at hl 0 rfl) ?_
  refine v_if_lt 51 58 C dX9_nextLine_51 (by decide) h (fun h => ?_) (fun h => ?_)
  · refine v_iconst 58 C (v := (0 : Int32)) dX9_nextLine_58 (by decide) ?_
    exact w_X9_nextLine_b59 C (lv_sub hl [] rfl) h
  · refine v_iconst 54 C (v := (1 : Int32)) dX9_nextLine_54 (by decide) ?_
    refine v_goto 55 59 C dX9_nextLine_55 (by decide) ?_
    exact w_X9_nextLine_b59 C (lv_sub hl [] rfl) h
set_option maxRecDepth 20000 in
theorem w_X9_nextLine_b36 {w : zWd} {X : zX} {l0 : Launch} {r : Int32} {S1 : zMem} (C : zC LM w X l0 cX9_nextLine RX9 3 1 (some .boolean)) {x2 : Int32} {S : zMem} {ls : Array Slot} (hl : lv_has ls 3 [(0, .ref (w.2.2.1 0)), (2, .int x2)]) (h : X9_nextLine_b36 x2 S = some (r, S1)) : zV LM w X (some (.int r)) S1 S 36 ls [] := by
  unfold X9_nextLine_b36 at h
  refine v_iload_n 36 C dX9_nextLine_36 rfl (lv_at hl 1 rfl) ?_
  refine v_if_lt 37 50 C dX9_nextLine_37 (by decide) h (fun h => ?_) (fun h => ?_)
  · exact w_X9_nextLine_b50 C (lv_sub hl [1] rfl) h
  · refine v_aload_n 40 C dX9_nextLine_40 rfl (lv_at hl 0 rfl) ?_
    refine v_getr 41 (12) C dX9_nextLine_41 fl_X9_47 rfl kM_0 rfl ?_
    refine v_iload_n 44 C dX9_nextLine_44 rfl (lv_at hl 1 rfl) ?_
    refine v_dup2 45 C dX9_nextLine_45 rfl rfl ?_
    refine v_iald 46 C dX9_nextLine_46 kM_12 rfl h (fun v1 h => ?_)
    refine v_iconst 47 C (v := (1 : Int32)) dX9_nextLine_47 (by decide) ?_
    refine v_iadd 48 C dX9_nextLine_48 h (fun v2 h => ?_)
    refine v_iast 49 C dX9_nextLine_49 kM_12 rfl h (fun S h => ?_)
    exact w_X9_nextLine_b50 C (lv_sub hl [1] rfl) h
set_option maxRecDepth 20000 in
theorem w_X9_nextLine_b4 {w : zWd} {X : zX} {l0 : Launch} {r : Int32} {S1 : zMem} (C : zC LM w X l0 cX9_nextLine RX9 3 1 (some .boolean)) {k4 : Int32 → zMem → Option (Int32 × zMem)} (hc4 : ∀ (x2 : Int32) (S : zMem) (ls : Array Slot), lv_has ls 3 [(0, .ref (w.2.2.1 0)), (2, .int x2)] → k4 x2 S = some (r, S1) → zV LM w X (some (.int r)) S1 S 4 ls []) {x2 : Int32} {S : zMem} {ls : Array Slot} (hl : lv_has ls 3 [(0, .ref (w.2.2.1 0)), (2, .int x2)]) (h : X9_nextLine_b4 k4 x2 S = some (r, S1)) : zV LM w X (some (.int r)) S1 S 4 ls [] := by
  unfold X9_nextLine_b4 at h
  refine v_iload_n 4 C dX9_nextLine_4 rfl (lv_at hl 1 rfl) ?_
  refine v_if_lt 5 36 C dX9_nextLine_5 (by decide) h (fun h => ?_) (fun h => ?_)
  · exact w_X9_nextLine_b36 C (lv_sub hl [0, 1] rfl) h
  · refine v_aload_n 8 C dX9_nextLine_8 rfl (lv_at hl 0 rfl) ?_
    refine v_getr 9 (12) C dX9_nextLine_9 fl_X9_47 rfl kM_0 rfl ?_
    refine v_iload_n 12 C dX9_nextLine_12 rfl (lv_at hl 1 rfl) ?_
    refine v_iald 13 C dX9_nextLine_13 kM_12 rfl h (fun v1 h => ?_)
    refine v_aload_n 14 C dX9_nextLine_14 rfl (lv_at hl 0 rfl) ?_
    refine v_geti 15 C dX9_nextLine_15 fl_X9_152 rfl kM_0 h (fun v2 h => ?_)
    refine v_iconst 18 C (v := (1 : Int32)) dX9_nextLine_18 (by decide) ?_
    refine v_isub 19 C dX9_nextLine_19 h (fun v3 h => ?_)
    refine v_icmp_ne 20 36 C dX9_nextLine_20 (by decide) h (fun h => ?_) (fun h => ?_)
    · exact w_X9_nextLine_b36 C (lv_sub hl [0, 1] rfl) h
    · refine v_aload_n 23 C dX9_nextLine_23 rfl (lv_at hl 0 rfl) ?_
      refine v_getr 24 (12) C dX9_nextLine_24 fl_X9_47 rfl kM_0 rfl ?_
      refine v_iload_n 27 C dX9_nextLine_27 rfl (lv_at hl 1 rfl) ?_
      refine v_iconst 28 C (v := (0 : Int32)) dX9_nextLine_28 (by decide) ?_
      refine v_iast 29 C dX9_nextLine_29 kM_12 rfl h (fun S h => ?_)
      refine v_iinc 30 C (nn := (-1 : Int32)) (fun v => [(2, .int v), (0, .ref (w.2.2.1 0))]) dX9_nextLine_30 hl (k := 1) rfl (by decide) (by decide) (fun _ => rfl) h (fun v4 ls hl h => ?_)
      refine v_goto 33 4 C dX9_nextLine_33 (by decide) ?_
      exact hc4 _ _ _ (lv_sub hl [1, 0] rfl) h
theorem w_X9_nextLine_l4 {w : zWd} {X : zX} {l0 : Launch} {r : Int32} {S1 : zMem} (C : zC LM w X l0 cX9_nextLine RX9 3 1 (some .boolean)) : ∀ (n : Nat) (x2 : Int32) (S : zMem) (ls : Array Slot), lv_has ls 3 [(0, .ref (w.2.2.1 0)), (2, .int x2)] → X9_nextLine_l4 n x2 S = some (r, S1) → zV LM w X (some (.int r)) S1 S 4 ls [] := by
  intro n
  induction n with
  | zero =>
    intro x2 S ls hl h
    cases (show (none : Option (Int32 × zMem)) = some _ from h)
  | succ n ih =>
    intro x2 S ls hl h
    exact w_X9_nextLine_b4 C ih hl h
set_option maxRecDepth 20000 in
theorem w_X9_nextLine_b0 {w : zWd} {X : zX} {l0 : Launch} {r : Int32} {S1 : zMem} (C : zC LM w X l0 cX9_nextLine RX9 3 1 (some .boolean)) {x1 : Int32} {S : zMem} {ls : Array Slot} (hl : lv_has ls 3 [(0, .ref (w.2.2.1 0)), (1, .int x1)]) (h : X9_nextLine_b0 x1 S = some (r, S1)) : zV LM w X (some (.int r)) S1 S 0 ls [] := by
  unfold X9_nextLine_b0 at h
  refine v_iload_n 0 C dX9_nextLine_0 rfl (lv_at hl 1 rfl) ?_
  refine v_iconst 1 C (v := (1 : Int32)) dX9_nextLine_1 (by decide) ?_
  refine v_isub 2 C dX9_nextLine_2 h (fun v1 h => ?_)
  refine v_istore_n 3 C [(2, .int v1), (0, .ref (w.2.2.1 0)), (1, .int x1)] dX9_nextLine_3 rfl hl (by decide) rfl (fun ls hl => ?_)
  exact w_X9_nextLine_l4 C zF _ _ _ (lv_sub hl [1, 0] rfl) h
theorem c_X9_nextLine {w : zWd} {l0 : Launch} {x1 : Int32} {S S1 : zMem} {r : Int32} (h : f_X9_nextLine x1 S = some (r, S1)) : zMet LM w l0 yX9_nextLine cX9_nextLine 3 (some .boolean) 1 [.ref (w.2.2.1 0), .int x1] S (some (.int r)) S1 :=
  zMet_of (by decide +kernel) (Nat.le_of_ble_eq_true rfl) (fun X ls C hl => w_X9_nextLine_b0 C hl h)
theorem dX9_tellLine_0 : decode cX9_tellLine 0 = .ok (.aload_n 0, 1) := by decide +kernel
theorem dX9_tellLine_1 : decode cX9_tellLine 1 = .ok (.iload_n 2, 1) := by decide +kernel
theorem dX9_tellLine_2 : decode cX9_tellLine 2 = .ok (.iload_n 1, 1) := by decide +kernel
theorem dX9_tellLine_3 : decode cX9_tellLine 3 = .ok (.invokevirtual 79, 3) := by decide +kernel
theorem dX9_tellLine_6 : decode cX9_tellLine 6 = .ok (.iconst 0, 1) := by decide +kernel
theorem dX9_tellLine_7 : decode cX9_tellLine 7 = .ok (.istore_n 3, 1) := by decide +kernel
theorem dX9_tellLine_8 : decode cX9_tellLine 8 = .ok (.iload_n 3, 1) := by decide +kernel
theorem dX9_tellLine_9 : decode cX9_tellLine 9 = .ok (.iload_n 1, 1) := by decide +kernel
theorem dX9_tellLine_10 : decode cX9_tellLine 10 = .ok (.if_icmp .ge 26, 3) := by decide +kernel
theorem dX9_tellLine_13 : decode cX9_tellLine 13 = .ok (.aload_n 0, 1) := by decide +kernel
theorem dX9_tellLine_14 : decode cX9_tellLine 14 = .ok (.getfield 25, 3) := by decide +kernel
theorem dX9_tellLine_17 : decode cX9_tellLine 17 = .ok (.bipush 40, 2) := by decide +kernel
theorem dX9_tellLine_19 : decode cX9_tellLine 19 = .ok (.iload_n 2, 1) := by decide +kernel
theorem dX9_tellLine_20 : decode cX9_tellLine 20 = .ok (.imul, 1) := by decide +kernel
theorem dX9_tellLine_21 : decode cX9_tellLine 21 = .ok (.iload_n 3, 1) := by decide +kernel
theorem dX9_tellLine_22 : decode cX9_tellLine 22 = .ok (.iadd, 1) := by decide +kernel
theorem dX9_tellLine_23 : decode cX9_tellLine 23 = .ok (.aload_n 0, 1) := by decide +kernel
theorem dX9_tellLine_24 : decode cX9_tellLine 24 = .ok (.getfield 50, 3) := by decide +kernel
theorem dX9_tellLine_27 : decode cX9_tellLine 27 = .ok (.iload_n 3, 1) := by decide +kernel
theorem dX9_tellLine_28 : decode cX9_tellLine 28 = .ok (.iaload, 1) := by decide +kernel
theorem dX9_tellLine_29 : decode cX9_tellLine 29 = .ok (.iastore, 1) := by decide +kernel
theorem dX9_tellLine_30 : decode cX9_tellLine 30 = .ok (.iinc 3 1, 3) := by decide +kernel
theorem dX9_tellLine_33 : decode cX9_tellLine 33 = .ok (.goto (-25), 3) := by decide +kernel
theorem dX9_tellLine_36 : decode cX9_tellLine 36 = .ok (.return_, 1) := by decide +kernel
set_option maxRecDepth 20000 in
theorem w_X9_tellLine_b8 {w : zWd} {X : zX} {l0 : Launch} {r : Unit} {S1 : zMem} (C : zC LM w X l0 cX9_tellLine RX9 4 2 none) {k8 : Int32 → Int32 → Int32 → zMem → Option (Unit × zMem)} (hc8 : ∀ (x1 : Int32) (x2 : Int32) (x3 : Int32) (S : zMem) (ls : Array Slot), lv_has ls 4 [(0, .ref (w.2.2.1 0)), (1, .int x1), (2, .int x2), (3, .int x3)] → k8 x1 x2 x3 S = some (r, S1) → zV LM w X none S1 S 8 ls []) {x1 : Int32} {x2 : Int32} {x3 : Int32} {S : zMem} {ls : Array Slot} (hl : lv_has ls 4 [(0, .ref (w.2.2.1 0)), (1, .int x1), (2, .int x2), (3, .int x3)]) (h : X9_tellLine_b8 k8 x1 x2 x3 S = some (r, S1)) : zV LM w X none S1 S 8 ls [] := by
  unfold X9_tellLine_b8 at h
  refine v_iload_n 8 C dX9_tellLine_8 rfl (lv_at hl 3 rfl) ?_
  refine v_iload_n 9 C dX9_tellLine_9 rfl (lv_at hl 1 rfl) ?_
  refine v_icmp_ge 10 36 C dX9_tellLine_10 (by decide) h (fun h => ?_) (fun h => ?_)
  · exact v_return 36 C dX9_tellLine_36 h
  · refine v_aload_n 13 C dX9_tellLine_13 rfl (lv_at hl 0 rfl) ?_
    refine v_getr 14 (6) C dX9_tellLine_14 fl_X9_25 rfl kM_0 rfl ?_
    refine v_bipush 17 C (v := (40 : Int32)) dX9_tellLine_17 (by decide) ?_
    refine v_iload_n 19 C dX9_tellLine_19 rfl (lv_at hl 2 rfl) ?_
    refine v_imul 20 C dX9_tellLine_20 h (fun v1 h => ?_)
    refine v_iload_n 21 C dX9_tellLine_21 rfl (lv_at hl 3 rfl) ?_
    refine v_iadd 22 C dX9_tellLine_22 h (fun v2 h => ?_)
    refine v_aload_n 23 C dX9_tellLine_23 rfl (lv_at hl 0 rfl) ?_
    refine v_getr 24 (13) C dX9_tellLine_24 fl_X9_50 rfl kM_0 rfl ?_
    refine v_iload_n 27 C dX9_tellLine_27 rfl (lv_at hl 3 rfl) ?_
    refine v_iald 28 C dX9_tellLine_28 kM_13 rfl h (fun v3 h => ?_)
    refine v_iast 29 C dX9_tellLine_29 kM_6 rfl h (fun S h => ?_)
    refine v_iinc 30 C (nn := (1 : Int32)) (fun v => [(3, .int v), (0, .ref (w.2.2.1 0)), (1, .int x1), (2, .int x2)]) dX9_tellLine_30 hl (k := 3) rfl (by decide) (by decide) (fun _ => rfl) h (fun v4 ls hl h => ?_)
    refine v_goto 33 8 C dX9_tellLine_33 (by decide) ?_
    exact hc8 _ _ _ _ _ (lv_sub hl [1, 2, 3, 0] rfl) h
theorem w_X9_tellLine_l8 {w : zWd} {X : zX} {l0 : Launch} {r : Unit} {S1 : zMem} (C : zC LM w X l0 cX9_tellLine RX9 4 2 none) : ∀ (n : Nat) (x1 : Int32) (x2 : Int32) (x3 : Int32) (S : zMem) (ls : Array Slot), lv_has ls 4 [(0, .ref (w.2.2.1 0)), (1, .int x1), (2, .int x2), (3, .int x3)] → X9_tellLine_l8 n x1 x2 x3 S = some (r, S1) → zV LM w X none S1 S 8 ls [] := by
  intro n
  induction n with
  | zero =>
    intro x1 x2 x3 S ls hl h
    cases (show (none : Option (Unit × zMem)) = some _ from h)
  | succ n ih =>
    intro x1 x2 x3 S ls hl h
    exact w_X9_tellLine_b8 C ih hl h
set_option maxRecDepth 20000 in
theorem w_X9_tellLine_b0 {w : zWd} {X : zX} {l0 : Launch} {r : Unit} {S1 : zMem} (C : zC LM w X l0 cX9_tellLine RX9 4 2 none) {x1 : Int32} {x2 : Int32} {S : zMem} {ls : Array Slot} (hl : lv_has ls 4 [(0, .ref (w.2.2.1 0)), (1, .int x1), (2, .int x2)]) (h : X9_tellLine_b0 x1 x2 S = some (r, S1)) : zV LM w X none S1 S 0 ls [] := by
  unfold X9_tellLine_b0 at h
  refine v_aload_n 0 C dX9_tellLine_0 rfl (lv_at hl 0 rfl) ?_
  refine v_iload_n 1 C dX9_tellLine_1 rfl (lv_at hl 2 rfl) ?_
  refine v_iload_n 2 C dX9_tellLine_2 rfl (lv_at hl 1 rfl) ?_
  obtain ⟨v1, S, hc, h⟩ := zb_e h
  refine v_callVv 3 C (ci := 8) [] dX9_tellLine_3 ml_X9_79 hy_X9_makeRow (c_X9_makeRow  hc) (by decide) rfl hl.1 kM_0 rfl (Nat.le_of_ble_eq_true rfl) rfl ?_
  refine v_iconst 6 C (v := (0 : Int32)) dX9_tellLine_6 (by decide) ?_
  refine v_istore_n 7 C [(3, .int (0 : Int32)), (0, .ref (w.2.2.1 0)), (1, .int x1), (2, .int x2)] dX9_tellLine_7 rfl hl (by decide) rfl (fun ls hl => ?_)
  exact w_X9_tellLine_l8 C zF _ _ _ _ _ (lv_sub hl [1, 2, 3, 0] rfl) h
theorem c_X9_tellLine {w : zWd} {l0 : Launch} {x1 : Int32} {x2 : Int32} {S S1 : zMem} {r : Unit} (h : f_X9_tellLine x1 x2 S = some (r, S1)) : zMet LM w l0 yX9_tellLine cX9_tellLine 4 none 2 [.ref (w.2.2.1 0), .int x1, .int x2] S none S1 :=
  zMet_of (by decide +kernel) (Nat.le_of_ble_eq_true rfl) (fun X ls C hl => w_X9_tellLine_b0 C hl h)
theorem ml_X9_224 : Cond.methodLink RX9 224 yX9_nextLine ∈ zT := zT_of (List.mem_of_getElem? (i := 1194) (by decide +kernel)) rfl
theorem hy_X9_nextLine : zYv yX9_nextLine cX9_nextLine 3 (some .boolean) 1 := ⟨⟨zT_of (List.mem_of_getElem? (i := 1197) (by decide +kernel)) rfl, zT_of (List.mem_of_getElem? (i := 78) (by decide +kernel)) rfl, by decide, by decide +kernel, by decide +kernel, by decide +kernel⟩, zT_of (List.mem_of_getElem? (i := 1196) (by decide +kernel)) rfl, zT_of (List.mem_of_getElem? (i := 50) (by decide +kernel)) rfl⟩
theorem ml_X9_221 : Cond.methodLink RX9 221 yX9_keepLine ∈ zT := zT_of (List.mem_of_getElem? (i := 1190) (by decide +kernel)) rfl
theorem hy_X9_keepLine : zYv yX9_keepLine cX9_keepLine 3 none 1 := ⟨⟨zT_of (List.mem_of_getElem? (i := 1193) (by decide +kernel)) rfl, zT_of (List.mem_of_getElem? (i := 78) (by decide +kernel)) rfl, by decide, by decide +kernel, by decide +kernel, by decide +kernel⟩, zT_of (List.mem_of_getElem? (i := 1192) (by decide +kernel)) rfl, zT_of (List.mem_of_getElem? (i := 49) (by decide +kernel)) rfl⟩
theorem ml_X9_227 : Cond.methodLink RX9 227 yX9_tellLine ∈ zT := zT_of (List.mem_of_getElem? (i := 1198) (by decide +kernel)) rfl
theorem hy_X9_tellLine : zYv yX9_tellLine cX9_tellLine 4 none 2 := ⟨⟨zT_of (List.mem_of_getElem? (i := 1201) (by decide +kernel)) rfl, zT_of (List.mem_of_getElem? (i := 78) (by decide +kernel)) rfl, by decide, by decide +kernel, by decide +kernel, by decide +kernel⟩, zT_of (List.mem_of_getElem? (i := 1200) (by decide +kernel)) rfl, zT_of (List.mem_of_getElem? (i := 51) (by decide +kernel)) rfl⟩
theorem ml_X9_215 : Cond.methodLink RX9 215 yX9_lettersOf ∈ zT := zT_of (List.mem_of_getElem? (i := 1182) (by decide +kernel)) rfl
theorem hy_X9_lettersOf : zYv yX9_lettersOf cX9_lettersOf 5 (some .int) 1 := ⟨⟨zT_of (List.mem_of_getElem? (i := 1185) (by decide +kernel)) rfl, zT_of (List.mem_of_getElem? (i := 78) (by decide +kernel)) rfl, by decide, by decide +kernel, by decide +kernel, by decide +kernel⟩, zT_of (List.mem_of_getElem? (i := 1184) (by decide +kernel)) rfl, zT_of (List.mem_of_getElem? (i := 47) (by decide +kernel)) rfl⟩
theorem ml_X9_218 : Cond.methodLink RX9 218 yX9_endTogether ∈ zT := zT_of (List.mem_of_getElem? (i := 1186) (by decide +kernel)) rfl
theorem hy_X9_endTogether : zYv yX9_endTogether cX9_endTogether 4 (some .int) 1 := ⟨⟨zT_of (List.mem_of_getElem? (i := 1189) (by decide +kernel)) rfl, zT_of (List.mem_of_getElem? (i := 78) (by decide +kernel)) rfl, by decide, by decide +kernel, by decide +kernel, by decide +kernel⟩, zT_of (List.mem_of_getElem? (i := 1188) (by decide +kernel)) rfl, zT_of (List.mem_of_getElem? (i := 48) (by decide +kernel)) rfl⟩
theorem ml_X9_212 : Cond.methodLink RX9 212 yX9_beginLine ∈ zT := zT_of (List.mem_of_getElem? (i := 1178) (by decide +kernel)) rfl
theorem hy_X9_beginLine : zYv yX9_beginLine cX9_beginLine 2 none 0 := ⟨⟨zT_of (List.mem_of_getElem? (i := 1181) (by decide +kernel)) rfl, zT_of (List.mem_of_getElem? (i := 78) (by decide +kernel)) rfl, by decide, by decide +kernel, by decide +kernel, by decide +kernel⟩, zT_of (List.mem_of_getElem? (i := 1180) (by decide +kernel)) rfl, zT_of (List.mem_of_getElem? (i := 46) (by decide +kernel)) rfl⟩
theorem dX9_round_0 : decode cX9_round 0 = .ok (.iload_n 1, 1) := by decide +kernel
theorem dX9_round_1 : decode cX9_round 1 = .ok (.i2l, 1) := by decide +kernel
theorem dX9_round_2 : decode cX9_round 2 = .ok (.lconst 0, 1) := by decide +kernel
theorem dX9_round_3 : decode cX9_round 3 = .ok (.iconst 1, 1) := by decide +kernel
theorem dX9_round_4 : decode cX9_round 4 = .ok (.aload_n 0, 1) := by decide +kernel
theorem dX9_round_5 : decode cX9_round 5 = .ok (.getfield 152, 3) := by decide +kernel
theorem dX9_round_8 : decode cX9_round 8 = .ok (.ishl, 1) := by decide +kernel
theorem dX9_round_9 : decode cX9_round 9 = .ok (.iconst 1, 1) := by decide +kernel
theorem dX9_round_10 : decode cX9_round 10 = .ok (.isub, 1) := by decide +kernel
theorem dX9_round_11 : decode cX9_round 11 = .ok (.i2l, 1) := by decide +kernel
theorem dX9_round_12 : decode cX9_round 12 = .ok (.invokestatic 65, 3) := by decide +kernel
theorem dX9_round_15 : decode cX9_round 15 = .ok (.ifCond .eq 10, 3) := by decide +kernel
theorem dX9_round_18 : decode cX9_round 18 = .ok (.iload_n 2, 1) := by decide +kernel
theorem dX9_round_19 : decode cX9_round 19 = .ok (.invokestatic 71, 3) := by decide +kernel
theorem dX9_round_22 : decode cX9_round 22 = .ok (.ifCond .ne 5, 3) := by decide +kernel
theorem dX9_round_25 : decode cX9_round 25 = .ok (.iconst (-1), 1) := by decide +kernel
theorem dX9_round_26 : decode cX9_round 26 = .ok (.ireturn, 1) := by decide +kernel
theorem dX9_round_27 : decode cX9_round 27 = .ok (.iload_n 1, 1) := by decide +kernel
theorem dX9_round_28 : decode cX9_round 28 = .ok (.aload_n 0, 1) := by decide +kernel
theorem dX9_round_29 : decode cX9_round 29 = .ok (.getfield 7, 3) := by decide +kernel
theorem dX9_round_32 : decode cX9_round 32 = .ok (.iconst 5, 1) := by decide +kernel
theorem dX9_round_33 : decode cX9_round 33 = .ok (.iaload, 1) := by decide +kernel
theorem dX9_round_34 : decode cX9_round 34 = .ok (.iand, 1) := by decide +kernel
theorem dX9_round_35 : decode cX9_round 35 = .ok (.ifCond .eq 6, 3) := by decide +kernel
theorem dX9_round_38 : decode cX9_round 38 = .ok (.bipush (-4), 2) := by decide +kernel
theorem dX9_round_40 : decode cX9_round 40 = .ok (.ireturn, 1) := by decide +kernel
theorem dX9_round_41 : decode cX9_round 41 = .ok (.iload_n 1, 1) := by decide +kernel
theorem dX9_round_42 : decode cX9_round 42 = .ok (.invokestatic 202, 3) := by decide +kernel
theorem dX9_round_45 : decode cX9_round 45 = .ok (.istore_n 3, 1) := by decide +kernel
theorem dX9_round_46 : decode cX9_round 46 = .ok (.iconst (-1), 1) := by decide +kernel
theorem dX9_round_47 : decode cX9_round 47 = .ok (.istore 4, 2) := by decide +kernel
theorem dX9_round_49 : decode cX9_round 49 = .ok (.iconst 1, 1) := by decide +kernel
theorem dX9_round_50 : decode cX9_round 50 = .ok (.istore 5, 2) := by decide +kernel
theorem dX9_round_52 : decode cX9_round 52 = .ok (.aload_n 0, 1) := by decide +kernel
theorem dX9_round_53 : decode cX9_round 53 = .ok (.invokevirtual 212, 3) := by decide +kernel
theorem dX9_round_56 : decode cX9_round 56 = .ok (.iload 5, 2) := by decide +kernel
theorem dX9_round_58 : decode cX9_round 58 = .ok (.ifCond .eq 49, 3) := by decide +kernel
theorem dX9_round_61 : decode cX9_round 61 = .ok (.aload_n 0, 1) := by decide +kernel
theorem dX9_round_62 : decode cX9_round 62 = .ok (.iload_n 3, 1) := by decide +kernel
theorem dX9_round_63 : decode cX9_round 63 = .ok (.invokevirtual 215, 3) := by decide +kernel
theorem dX9_round_66 : decode cX9_round 66 = .ok (.iload_n 1, 1) := by decide +kernel
theorem dX9_round_67 : decode cX9_round 67 = .ok (.if_icmp .ne 11, 3) := by decide +kernel
theorem dX9_round_70 : decode cX9_round 70 = .ok (.aload_n 0, 1) := by decide +kernel
theorem dX9_round_71 : decode cX9_round 71 = .ok (.iload_n 3, 1) := by decide +kernel
theorem dX9_round_72 : decode cX9_round 72 = .ok (.invokevirtual 218, 3) := by decide +kernel
theorem dX9_round_75 : decode cX9_round 75 = .ok (.goto 4, 3) := by decide +kernel
theorem dX9_round_78 : decode cX9_round 78 = .ok (.iconst (-1), 1) := by decide +kernel
theorem dX9_round_79 : decode cX9_round 79 = .ok (.istore 6, 2) := by decide +kernel
theorem dX9_round_81 : decode cX9_round 81 = .ok (.iload 6, 2) := by decide +kernel
theorem dX9_round_83 : decode cX9_round 83 = .ok (.iload 4, 2) := by decide +kernel
theorem dX9_round_85 : decode cX9_round 85 = .ok (.if_icmp .le 12, 3) := by decide +kernel
theorem dX9_round_88 : decode cX9_round 88 = .ok (.iload 6, 2) := by decide +kernel
theorem dX9_round_90 : decode cX9_round 90 = .ok (.istore 4, 2) := by decide +kernel
theorem dX9_round_92 : decode cX9_round 92 = .ok (.aload_n 0, 1) := by decide +kernel
theorem dX9_round_93 : decode cX9_round 93 = .ok (.iload_n 3, 1) := by decide +kernel
theorem dX9_round_94 : decode cX9_round 94 = .ok (.invokevirtual 221, 3) := by decide +kernel
theorem dX9_round_97 : decode cX9_round 97 = .ok (.aload_n 0, 1) := by decide +kernel
theorem dX9_round_98 : decode cX9_round 98 = .ok (.iload_n 3, 1) := by decide +kernel
theorem dX9_round_99 : decode cX9_round 99 = .ok (.invokevirtual 224, 3) := by decide +kernel
theorem dX9_round_102 : decode cX9_round 102 = .ok (.istore 5, 2) := by decide +kernel
theorem dX9_round_104 : decode cX9_round 104 = .ok (.goto (-48), 3) := by decide +kernel
theorem dX9_round_107 : decode cX9_round 107 = .ok (.aload_n 0, 1) := by decide +kernel
theorem dX9_round_108 : decode cX9_round 108 = .ok (.iload_n 3, 1) := by decide +kernel
theorem dX9_round_109 : decode cX9_round 109 = .ok (.iload_n 2, 1) := by decide +kernel
theorem dX9_round_110 : decode cX9_round 110 = .ok (.invokevirtual 227, 3) := by decide +kernel
theorem dX9_round_113 : decode cX9_round 113 = .ok (.iload 4, 2) := by decide +kernel
theorem dX9_round_115 : decode cX9_round 115 = .ok (.ireturn, 1) := by decide +kernel
set_option maxRecDepth 20000 in
theorem w_X9_round_b25 {w : zWd} {X : zX} {l0 : Launch} {r : Int32} {S1 : zMem} (C : zC LM w X l0 cX9_round RX9 7 4 (some .int)) {S : zMem} {ls : Array Slot} (hl : lv_has ls 7 []) (h : X9_round_b25  S = some (r, S1)) : zV LM w X (some (.int r)) S1 S 25 ls [] := by
  unfold X9_round_b25 at h
  refine v_iconst 25 C (v := (-1 : Int32)) dX9_round_25 (by decide) ?_
  exact v_ireturn 26 C dX9_round_26 h
set_option maxRecDepth 20000 in
theorem w_X9_round_b97 {w : zWd} {X : zX} {l0 : Launch} {r : Int32} {S1 : zMem} (C : zC LM w X l0 cX9_round RX9 7 4 (some .int)) {k56 : Int32 → Int32 → Int32 → Int32 → Int32 → zMem → Option (Int32 × zMem)} (hc56 : ∀ (x1 : Int32) (x2 : Int32) (x3 : Int32) (x4 : Int32) (x5 : Int32) (S : zMem) (ls : Array Slot), lv_has ls 7 [(0, .ref (w.2.2.1 0)), (1, .int x1), (2, .int x2), (3, .int x3), (4, .int x4), (5, .int x5)] → k56 x1 x2 x3 x4 x5 S = some (r, S1) → zV LM w X (some (.int r)) S1 S 56 ls []) {x1 : Int32} {x2 : Int32} {x3 : Int32} {x4 : Int32} {S : zMem} {ls : Array Slot} (hl : lv_has ls 7 [(0, .ref (w.2.2.1 0)), (1, .int x1), (2, .int x2), (3, .int x3), (4, .int x4)]) (h : X9_round_b97 k56 x1 x2 x3 x4 S = some (r, S1)) : zV LM w X (some (.int r)) S1 S 97 ls [] := by
  unfold X9_round_b97 at h
  refine v_aload_n 97 C dX9_round_97 rfl (lv_at hl 0 rfl) ?_
  refine v_iload_n 98 C dX9_round_98 rfl (lv_at hl 3 rfl) ?_
  obtain ⟨v1, S, hc, h⟩ := zb_e h
  refine v_callVi 99 C (ci := 8) [] dX9_round_99 ml_X9_224 hy_X9_nextLine (c_X9_nextLine  hc) (by decide) rfl hl.1 kM_0 rfl (Nat.le_of_ble_eq_true rfl) rfl ?_
  refine v_istore 102 C [(5, .int v1), (0, .ref (w.2.2.1 0)), (1, .int x1), (2, .int x2), (3, .int x3), (4, .int x4)] dX9_round_102 hl (by decide) rfl (fun ls hl => ?_)
  refine v_goto 104 56 C dX9_round_104 (by decide) ?_
  exact hc56 _ _ _ _ _ _ _ (lv_sub hl [1, 2, 3, 4, 5, 0] rfl) h
set_option maxRecDepth 20000 in
theorem w_X9_round_b79 {w : zWd} {X : zX} {l0 : Launch} {r : Int32} {S1 : zMem} (C : zC LM w X l0 cX9_round RX9 7 4 (some .int)) {k56 : Int32 → Int32 → Int32 → Int32 → Int32 → zMem → Option (Int32 × zMem)} (hc56 : ∀ (x1 : Int32) (x2 : Int32) (x3 : Int32) (x4 : Int32) (x5 : Int32) (S : zMem) (ls : Array Slot), lv_has ls 7 [(0, .ref (w.2.2.1 0)), (1, .int x1), (2, .int x2), (3, .int x3), (4, .int x4), (5, .int x5)] → k56 x1 x2 x3 x4 x5 S = some (r, S1) → zV LM w X (some (.int r)) S1 S 56 ls []) {x1 : Int32} {x2 : Int32} {x3 : Int32} {x4 : Int32} {s0 : Int32} {S : zMem} {ls : Array Slot} (hl : lv_has ls 7 [(0, .ref (w.2.2.1 0)), (1, .int x1), (2, .int x2), (3, .int x3), (4, .int x4)]) (h : X9_round_b79 k56 x1 x2 x3 x4 s0 S = some (r, S1)) : zV LM w X (some (.int r)) S1 S 79 ls [.int s0] := by
  unfold X9_round_b79 at h
  refine v_istore 79 C [(6, .int s0), (0, .ref (w.2.2.1 0)), (1, .int x1), (2, .int x2), (3, .int x3), (4, .int x4)] dX9_round_79 hl (by decide) rfl (fun ls hl => ?_)
  refine v_iload 81 C dX9_round_81 (lv_at hl 0 rfl) ?_
  refine v_iload 83 C dX9_round_83 (lv_at hl 5 rfl) ?_
  refine v_icmp_le 85 97 C dX9_round_85 (by decide) h (fun h => ?_) (fun h => ?_)
  · exact w_X9_round_b97 C hc56 (lv_sub hl [1, 2, 3, 4, 5] rfl) h
  · refine v_iload 88 C dX9_round_88 (lv_at hl 0 rfl) ?_
    refine v_istore 90 C [(4, .int s0), (6, .int s0), (0, .ref (w.2.2.1 0)), (1, .int x1), (2, .int x2), (3, .int x3)] dX9_round_90 hl (by decide) rfl (fun ls hl => ?_)
    refine v_aload_n 92 C dX9_round_92 rfl (lv_at hl 2 rfl) ?_
    refine v_iload_n 93 C dX9_round_93 rfl (lv_at hl 5 rfl) ?_
    obtain ⟨v1, S, hc, h⟩ := zb_e h
    refine v_callVv 94 C (ci := 8) [] dX9_round_94 ml_X9_221 hy_X9_keepLine (c_X9_keepLine  hc) (by decide) rfl hl.1 kM_0 rfl (Nat.le_of_ble_eq_true rfl) rfl ?_
    exact w_X9_round_b97 C hc56 (lv_sub hl [2, 3, 4, 5, 0] rfl) h
set_option maxRecDepth 20000 in
theorem w_X9_round_b56 {w : zWd} {X : zX} {l0 : Launch} {r : Int32} {S1 : zMem} (C : zC LM w X l0 cX9_round RX9 7 4 (some .int)) {k56 : Int32 → Int32 → Int32 → Int32 → Int32 → zMem → Option (Int32 × zMem)} (hc56 : ∀ (x1 : Int32) (x2 : Int32) (x3 : Int32) (x4 : Int32) (x5 : Int32) (S : zMem) (ls : Array Slot), lv_has ls 7 [(0, .ref (w.2.2.1 0)), (1, .int x1), (2, .int x2), (3, .int x3), (4, .int x4), (5, .int x5)] → k56 x1 x2 x3 x4 x5 S = some (r, S1) → zV LM w X (some (.int r)) S1 S 56 ls []) {x1 : Int32} {x2 : Int32} {x3 : Int32} {x4 : Int32} {x5 : Int32} {S : zMem} {ls : Array Slot} (hl : lv_has ls 7 [(0, .ref (w.2.2.1 0)), (1, .int x1), (2, .int x2), (3, .int x3), (4, .int x4), (5, .int x5)]) (h : X9_round_b56 k56 x1 x2 x3 x4 x5 S = some (r, S1)) : zV LM w X (some (.int r)) S1 S 56 ls [] := by
  unfold X9_round_b56 at h
  refine v_iload 56 C dX9_round_56 (lv_at hl 5 rfl) ?_
  refine v_if_eq 58 107 C dX9_round_58 (by decide) h (fun h => ?_) (fun h => ?_)
  · refine v_aload_n 107 C dX9_round_107 rfl (lv_at hl 0 rfl) ?_
    refine v_iload_n 108 C dX9_round_108 rfl (lv_at hl 3 rfl) ?_
    refine v_iload_n 109 C dX9_round_109 rfl (lv_at hl 2 rfl) ?_
    obtain ⟨v1, S, hc, h⟩ := zb_e h
    refine v_callVv 110 C (ci := 8) [] dX9_round_110 ml_X9_227 hy_X9_tellLine (c_X9_tellLine  hc) (by decide) rfl hl.1 kM_0 rfl (Nat.le_of_ble_eq_true rfl) rfl ?_
    refine v_iload 113 C dX9_round_113 (lv_at hl 4 rfl) ?_
    exact v_ireturn 115 C dX9_round_115 h
  · refine v_aload_n 61 C dX9_round_61 rfl (lv_at hl 0 rfl) ?_
    refine v_iload_n 62 C dX9_round_62 rfl (lv_at hl 3 rfl) ?_
    obtain ⟨v2, S, hc, h⟩ := zb_e h
    refine v_callVi 63 C (ci := 8) [] dX9_round_63 ml_X9_215 hy_X9_lettersOf (c_X9_lettersOf  hc) (by decide) rfl hl.1 kM_0 rfl (Nat.le_of_ble_eq_true rfl) rfl ?_
    refine v_iload_n 66 C dX9_round_66 rfl (lv_at hl 1 rfl) ?_
    refine v_icmp_ne 67 78 C dX9_round_67 (by decide) h (fun h => ?_) (fun h => ?_)
    · refine v_iconst 78 C (v := (-1 : Int32)) dX9_round_78 (by decide) ?_
      exact w_X9_round_b79 C hc56 (lv_sub hl [0, 1, 2, 3, 4] rfl) h
    · refine v_aload_n 70 C dX9_round_70 rfl (lv_at hl 0 rfl) ?_
      refine v_iload_n 71 C dX9_round_71 rfl (lv_at hl 3 rfl) ?_
      obtain ⟨v3, S, hc, h⟩ := zb_e h
      refine v_callVi 72 C (ci := 8) [] dX9_round_72 ml_X9_218 hy_X9_endTogether (c_X9_endTogether  hc) (by decide) rfl hl.1 kM_0 rfl (Nat.le_of_ble_eq_true rfl) rfl ?_
      refine v_goto 75 79 C dX9_round_75 (by decide) ?_
      exact w_X9_round_b79 C hc56 (lv_sub hl [0, 1, 2, 3, 4] rfl) h
theorem w_X9_round_l56 {w : zWd} {X : zX} {l0 : Launch} {r : Int32} {S1 : zMem} (C : zC LM w X l0 cX9_round RX9 7 4 (some .int)) : ∀ (n : Nat) (x1 : Int32) (x2 : Int32) (x3 : Int32) (x4 : Int32) (x5 : Int32) (S : zMem) (ls : Array Slot), lv_has ls 7 [(0, .ref (w.2.2.1 0)), (1, .int x1), (2, .int x2), (3, .int x3), (4, .int x4), (5, .int x5)] → X9_round_l56 n x1 x2 x3 x4 x5 S = some (r, S1) → zV LM w X (some (.int r)) S1 S 56 ls [] := by
  intro n
  induction n with
  | zero =>
    intro x1 x2 x3 x4 x5 S ls hl h
    cases (show (none : Option (Int32 × zMem)) = some _ from h)
  | succ n ih =>
    intro x1 x2 x3 x4 x5 S ls hl h
    exact w_X9_round_b56 C ih hl h
set_option maxRecDepth 20000 in
theorem w_X9_round_b0 {w : zWd} {X : zX} {l0 : Launch} {r : Int32} {S1 : zMem} (C : zC LM w X l0 cX9_round RX9 7 4 (some .int)) {x1 : Int32} {x2 : Int32} {S : zMem} {ls : Array Slot} (hl : lv_has ls 7 [(0, .ref (w.2.2.1 0)), (1, .int x1), (2, .int x2)]) (h : X9_round_b0 x1 x2 S = some (r, S1)) : zV LM w X (some (.int r)) S1 S 0 ls [] := by
  unfold X9_round_b0 at h
  refine v_iload_n 0 C dX9_round_0 rfl (lv_at hl 1 rfl) ?_
  refine v_i2l 1 C dX9_round_1 h (fun v1 h => ?_)
  refine v_lconst 2 C (v := 0) dX9_round_2 (by decide) ?_
  refine v_iconst 3 C (v := (1 : Int32)) dX9_round_3 (by decide) ?_
  refine v_aload_n 4 C dX9_round_4 rfl (lv_at hl 0 rfl) ?_
  refine v_geti 5 C dX9_round_5 fl_X9_152 rfl kM_0 h (fun v2 h => ?_)
  refine v_ishl 8 C dX9_round_8 h (fun v3 h => ?_)
  refine v_iconst 9 C (v := (1 : Int32)) dX9_round_9 (by decide) ?_
  refine v_isub 10 C dX9_round_10 h (fun v4 h => ?_)
  refine v_i2l 11 C dX9_round_11 h (fun v5 h => ?_)
  obtain ⟨v6, S, hc, h⟩ := zb_e h
  refine v_callSi 12 C [] dX9_round_12 ml_X9_65 hy_X9_in (c_X9_in  hc) (by decide) rfl hl.1 (Nat.le_of_ble_eq_true rfl) rfl ?_
  refine v_if_eq 15 25 C dX9_round_15 (by decide) h (fun h => ?_) (fun h => ?_)
  · exact w_X9_round_b25 C (lv_sub hl [] rfl) h
  · refine v_iload_n 18 C dX9_round_18 rfl (lv_at hl 2 rfl) ?_
    obtain ⟨v7, S, hc, h⟩ := zb_e h
    refine v_callSi 19 C [] dX9_round_19 ml_X9_71 hy_X9_isRow (c_X9_isRow  hc) (by decide) rfl hl.1 (Nat.le_of_ble_eq_true rfl) rfl ?_
    refine v_if_ne 22 27 C dX9_round_22 (by decide) h (fun h => ?_) (fun h => ?_)
    · refine v_iload_n 27 C dX9_round_27 rfl (lv_at hl 1 rfl) ?_
      refine v_aload_n 28 C dX9_round_28 rfl (lv_at hl 0 rfl) ?_
      refine v_getr 29 (1) C dX9_round_29 fl_X9_7 rfl kM_0 rfl ?_
      refine v_iconst 32 C (v := (5 : Int32)) dX9_round_32 (by decide) ?_
      refine v_iald 33 C dX9_round_33 kM_1 rfl h (fun v8 h => ?_)
      refine v_iand 34 C dX9_round_34 h (fun v9 h => ?_)
      refine v_if_eq 35 41 C dX9_round_35 (by decide) h (fun h => ?_) (fun h => ?_)
      · refine v_iload_n 41 C dX9_round_41 rfl (lv_at hl 1 rfl) ?_
        obtain ⟨v10, S, hc, h⟩ := zb_e h
        refine v_callSi 42 C [] dX9_round_42 ml_X9_202 hy_X9_bits (c_X9_bits  hc) (by decide) rfl hl.1 (Nat.le_of_ble_eq_true rfl) rfl ?_
        refine v_istore_n 45 C [(3, .int v10), (0, .ref (w.2.2.1 0)), (1, .int x1), (2, .int x2)] dX9_round_45 rfl hl (by decide) rfl (fun ls hl => ?_)
        refine v_iconst 46 C (v := (-1 : Int32)) dX9_round_46 (by decide) ?_
        refine v_istore 47 C [(4, .int (-1 : Int32)), (3, .int v10), (0, .ref (w.2.2.1 0)), (1, .int x1), (2, .int x2)] dX9_round_47 hl (by decide) rfl (fun ls hl => ?_)
        refine v_iconst 49 C (v := (1 : Int32)) dX9_round_49 (by decide) ?_
        refine v_istore 50 C [(5, .int (1 : Int32)), (4, .int (-1 : Int32)), (3, .int v10), (0, .ref (w.2.2.1 0)), (1, .int x1), (2, .int x2)] dX9_round_50 hl (by decide) rfl (fun ls hl => ?_)
        refine v_aload_n 52 C dX9_round_52 rfl (lv_at hl 3 rfl) ?_
        obtain ⟨v11, S, hc, h⟩ := zb_e h
        refine v_callVv 53 C (ci := 8) [] dX9_round_53 ml_X9_212 hy_X9_beginLine (c_X9_beginLine  hc) (by decide) rfl hl.1 kM_0 rfl (Nat.le_of_ble_eq_true rfl) rfl ?_
        exact w_X9_round_l56 C zF _ _ _ _ _ _ _ (lv_sub hl [3, 4, 5, 2, 1, 0] rfl) h
      · refine v_bipush 38 C (v := (-4 : Int32)) dX9_round_38 (by decide) ?_
        exact v_ireturn 40 C dX9_round_40 h
    · exact w_X9_round_b25 C (lv_sub hl [] rfl) h
theorem c_X9_round {w : zWd} {l0 : Launch} {x1 : Int32} {x2 : Int32} {S S1 : zMem} {r : Int32} (h : f_X9_round x1 x2 S = some (r, S1)) : zMet LM w l0 yX9_round cX9_round 7 (some .int) 4 [.ref (w.2.2.1 0), .int x1, .int x2] S (some (.int r)) S1 :=
  zMet_of (by decide +kernel) (Nat.le_of_ble_eq_true rfl) (fun X ls C hl => w_X9_round_b0 C hl h)
theorem co_X9_230 : Cond.constantLong RX9 230 20 ∈ zT := zT_of (List.mem_of_getElem? (i := 1206) (by decide +kernel)) rfl
theorem dX9_plan_0 : decode cX9_plan 0 = .ok (.aload_n 0, 1) := by decide +kernel
theorem dX9_plan_1 : decode cX9_plan 1 = .ok (.iload_n 1, 1) := by decide +kernel
theorem dX9_plan_2 : decode cX9_plan 2 = .ok (.invokevirtual 168, 3) := by decide +kernel
theorem dX9_plan_5 : decode cX9_plan 5 = .ok (.ifCond .eq 22, 3) := by decide +kernel
theorem dX9_plan_8 : decode cX9_plan 8 = .ok (.iload_n 2, 1) := by decide +kernel
theorem dX9_plan_9 : decode cX9_plan 9 = .ok (.i2l, 1) := by decide +kernel
theorem dX9_plan_10 : decode cX9_plan 10 = .ok (.lconst 0, 1) := by decide +kernel
theorem dX9_plan_11 : decode cX9_plan 11 = .ok (.ldc2_w 230, 3) := by decide +kernel
theorem dX9_plan_14 : decode cX9_plan 14 = .ok (.invokestatic 65, 3) := by decide +kernel
theorem dX9_plan_17 : decode cX9_plan 17 = .ok (.ifCond .eq 10, 3) := by decide +kernel
theorem dX9_plan_20 : decode cX9_plan 20 = .ok (.iload_n 3, 1) := by decide +kernel
theorem dX9_plan_21 : decode cX9_plan 21 = .ok (.invokestatic 71, 3) := by decide +kernel
theorem dX9_plan_24 : decode cX9_plan 24 = .ok (.ifCond .ne 5, 3) := by decide +kernel
theorem dX9_plan_27 : decode cX9_plan 27 = .ok (.iconst (-1), 1) := by decide +kernel
theorem dX9_plan_28 : decode cX9_plan 28 = .ok (.ireturn, 1) := by decide +kernel
theorem dX9_plan_29 : decode cX9_plan 29 = .ok (.iconst 0, 1) := by decide +kernel
theorem dX9_plan_30 : decode cX9_plan 30 = .ok (.istore 4, 2) := by decide +kernel
theorem dX9_plan_32 : decode cX9_plan 32 = .ok (.iload 4, 2) := by decide +kernel
theorem dX9_plan_34 : decode cX9_plan 34 = .ok (.aload_n 0, 1) := by decide +kernel
theorem dX9_plan_35 : decode cX9_plan 35 = .ok (.getfield 152, 3) := by decide +kernel
theorem dX9_plan_38 : decode cX9_plan 38 = .ok (.if_icmp .gt 78, 3) := by decide +kernel
theorem dX9_plan_41 : decode cX9_plan 41 = .ok (.iconst 1, 1) := by decide +kernel
theorem dX9_plan_42 : decode cX9_plan 42 = .ok (.istore 5, 2) := by decide +kernel
theorem dX9_plan_44 : decode cX9_plan 44 = .ok (.aload_n 0, 1) := by decide +kernel
theorem dX9_plan_45 : decode cX9_plan 45 = .ok (.invokevirtual 212, 3) := by decide +kernel
theorem dX9_plan_48 : decode cX9_plan 48 = .ok (.iload 5, 2) := by decide +kernel
theorem dX9_plan_50 : decode cX9_plan 50 = .ok (.ifCond .eq 60, 3) := by decide +kernel
theorem dX9_plan_53 : decode cX9_plan 53 = .ok (.aload_n 0, 1) := by decide +kernel
theorem dX9_plan_54 : decode cX9_plan 54 = .ok (.iload 4, 2) := by decide +kernel
theorem dX9_plan_56 : decode cX9_plan 56 = .ok (.invokevirtual 215, 3) := by decide +kernel
theorem dX9_plan_59 : decode cX9_plan 59 = .ok (.ifCond .lt 40, 3) := by decide +kernel
theorem dX9_plan_62 : decode cX9_plan 62 = .ok (.aload_n 0, 1) := by decide +kernel
theorem dX9_plan_63 : decode cX9_plan 63 = .ok (.iload 4, 2) := by decide +kernel
theorem dX9_plan_65 : decode cX9_plan 65 = .ok (.invokevirtual 218, 3) := by decide +kernel
theorem dX9_plan_68 : decode cX9_plan 68 = .ok (.pop, 1) := by decide +kernel
theorem dX9_plan_69 : decode cX9_plan 69 = .ok (.aload_n 0, 1) := by decide +kernel
theorem dX9_plan_70 : decode cX9_plan 70 = .ok (.getfield 7, 3) := by decide +kernel
theorem dX9_plan_73 : decode cX9_plan 73 = .ok (.sipush 2798, 3) := by decide +kernel
theorem dX9_plan_76 : decode cX9_plan 76 = .ok (.iload_n 1, 1) := by decide +kernel
theorem dX9_plan_77 : decode cX9_plan 77 = .ok (.iadd, 1) := by decide +kernel
theorem dX9_plan_78 : decode cX9_plan 78 = .ok (.iaload, 1) := by decide +kernel
theorem dX9_plan_79 : decode cX9_plan 79 = .ok (.iload_n 2, 1) := by decide +kernel
theorem dX9_plan_80 : decode cX9_plan 80 = .ok (.if_icmp .lt 19, 3) := by decide +kernel
theorem dX9_plan_83 : decode cX9_plan 83 = .ok (.aload_n 0, 1) := by decide +kernel
theorem dX9_plan_84 : decode cX9_plan 84 = .ok (.iload 4, 2) := by decide +kernel
theorem dX9_plan_86 : decode cX9_plan 86 = .ok (.invokevirtual 221, 3) := by decide +kernel
theorem dX9_plan_89 : decode cX9_plan 89 = .ok (.aload_n 0, 1) := by decide +kernel
theorem dX9_plan_90 : decode cX9_plan 90 = .ok (.iload 4, 2) := by decide +kernel
theorem dX9_plan_92 : decode cX9_plan 92 = .ok (.iload_n 3, 1) := by decide +kernel
theorem dX9_plan_93 : decode cX9_plan 93 = .ok (.invokevirtual 227, 3) := by decide +kernel
theorem dX9_plan_96 : decode cX9_plan 96 = .ok (.iload 4, 2) := by decide +kernel
theorem dX9_plan_98 : decode cX9_plan 98 = .ok (.ireturn, 1) := by decide +kernel
theorem dX9_plan_99 : decode cX9_plan 99 = .ok (.aload_n 0, 1) := by decide +kernel
theorem dX9_plan_100 : decode cX9_plan 100 = .ok (.iload 4, 2) := by decide +kernel
theorem dX9_plan_102 : decode cX9_plan 102 = .ok (.invokevirtual 224, 3) := by decide +kernel
theorem dX9_plan_105 : decode cX9_plan 105 = .ok (.istore 5, 2) := by decide +kernel
theorem dX9_plan_107 : decode cX9_plan 107 = .ok (.goto (-59), 3) := by decide +kernel
theorem dX9_plan_110 : decode cX9_plan 110 = .ok (.iinc 4 1, 3) := by decide +kernel
theorem dX9_plan_113 : decode cX9_plan 113 = .ok (.goto (-81), 3) := by decide +kernel
theorem dX9_plan_116 : decode cX9_plan 116 = .ok (.bipush (-9), 2) := by decide +kernel
theorem dX9_plan_118 : decode cX9_plan 118 = .ok (.ireturn, 1) := by decide +kernel
set_option maxRecDepth 20000 in
theorem w_X9_plan_b27 {w : zWd} {X : zX} {l0 : Launch} {r : Int32} {S1 : zMem} (C : zC LM w X l0 cX9_plan RX9 6 4 (some .int)) {S : zMem} {ls : Array Slot} (hl : lv_has ls 6 []) (h : X9_plan_b27  S = some (r, S1)) : zV LM w X (some (.int r)) S1 S 27 ls [] := by
  unfold X9_plan_b27 at h
  refine v_iconst 27 C (v := (-1 : Int32)) dX9_plan_27 (by decide) ?_
  exact v_ireturn 28 C dX9_plan_28 h
set_option maxRecDepth 20000 in
theorem w_X9_plan_b99 {w : zWd} {X : zX} {l0 : Launch} {r : Int32} {S1 : zMem} (C : zC LM w X l0 cX9_plan RX9 6 4 (some .int)) {k32 : Int32 → Int32 → Int32 → Int32 → zMem → Option (Int32 × zMem)} {k48 : Int32 → Int32 → Int32 → Int32 → Int32 → zMem → Option (Int32 × zMem)} (hc32 : ∀ (x1 : Int32) (x2 : Int32) (x3 : Int32) (x4 : Int32) (S : zMem) (ls : Array Slot), lv_has ls 6 [(0, .ref (w.2.2.1 0)), (1, .int x1), (2, .int x2), (3, .int x3), (4, .int x4)] → k32 x1 x2 x3 x4 S = some (r, S1) → zV LM w X (some (.int r)) S1 S 32 ls []) (hc48 : ∀ (x1 : Int32) (x2 : Int32) (x3 : Int32) (x4 : Int32) (x5 : Int32) (S : zMem) (ls : Array Slot), lv_has ls 6 [(0, .ref (w.2.2.1 0)), (1, .int x1), (2, .int x2), (3, .int x3), (4, .int x4), (5, .int x5)] → k48 x1 x2 x3 x4 x5 S = some (r, S1) → zV LM w X (some (.int r)) S1 S 48 ls []) {x1 : Int32} {x2 : Int32} {x3 : Int32} {x4 : Int32} {S : zMem} {ls : Array Slot} (hl : lv_has ls 6 [(0, .ref (w.2.2.1 0)), (1, .int x1), (2, .int x2), (3, .int x3), (4, .int x4)]) (h : X9_plan_b99 k32 k48 x1 x2 x3 x4 S = some (r, S1)) : zV LM w X (some (.int r)) S1 S 99 ls [] := by
  unfold X9_plan_b99 at h
  refine v_aload_n 99 C dX9_plan_99 rfl (lv_at hl 0 rfl) ?_
  refine v_iload 100 C dX9_plan_100 (lv_at hl 4 rfl) ?_
  obtain ⟨v1, S, hc, h⟩ := zb_e h
  refine v_callVi 102 C (ci := 8) [] dX9_plan_102 ml_X9_224 hy_X9_nextLine (c_X9_nextLine  hc) (by decide) rfl hl.1 kM_0 rfl (Nat.le_of_ble_eq_true rfl) rfl ?_
  refine v_istore 105 C [(5, .int v1), (0, .ref (w.2.2.1 0)), (1, .int x1), (2, .int x2), (3, .int x3), (4, .int x4)] dX9_plan_105 hl (by decide) rfl (fun ls hl => ?_)
  refine v_goto 107 48 C dX9_plan_107 (by decide) ?_
  exact hc48 _ _ _ _ _ _ _ (lv_sub hl [1, 2, 3, 4, 5, 0] rfl) h
set_option maxRecDepth 20000 in
theorem w_X9_plan_b48 {w : zWd} {X : zX} {l0 : Launch} {r : Int32} {S1 : zMem} (C : zC LM w X l0 cX9_plan RX9 6 4 (some .int)) {k32 : Int32 → Int32 → Int32 → Int32 → zMem → Option (Int32 × zMem)} {k48 : Int32 → Int32 → Int32 → Int32 → Int32 → zMem → Option (Int32 × zMem)} (hc32 : ∀ (x1 : Int32) (x2 : Int32) (x3 : Int32) (x4 : Int32) (S : zMem) (ls : Array Slot), lv_has ls 6 [(0, .ref (w.2.2.1 0)), (1, .int x1), (2, .int x2), (3, .int x3), (4, .int x4)] → k32 x1 x2 x3 x4 S = some (r, S1) → zV LM w X (some (.int r)) S1 S 32 ls []) (hc48 : ∀ (x1 : Int32) (x2 : Int32) (x3 : Int32) (x4 : Int32) (x5 : Int32) (S : zMem) (ls : Array Slot), lv_has ls 6 [(0, .ref (w.2.2.1 0)), (1, .int x1), (2, .int x2), (3, .int x3), (4, .int x4), (5, .int x5)] → k48 x1 x2 x3 x4 x5 S = some (r, S1) → zV LM w X (some (.int r)) S1 S 48 ls []) {x1 : Int32} {x2 : Int32} {x3 : Int32} {x4 : Int32} {x5 : Int32} {S : zMem} {ls : Array Slot} (hl : lv_has ls 6 [(0, .ref (w.2.2.1 0)), (1, .int x1), (2, .int x2), (3, .int x3), (4, .int x4), (5, .int x5)]) (h : X9_plan_b48 k32 k48 x1 x2 x3 x4 x5 S = some (r, S1)) : zV LM w X (some (.int r)) S1 S 48 ls [] := by
  unfold X9_plan_b48 at h
  refine v_iload 48 C dX9_plan_48 (lv_at hl 5 rfl) ?_
  refine v_if_eq 50 110 C dX9_plan_50 (by decide) h (fun h => ?_) (fun h => ?_)
  · refine v_iinc 110 C (nn := (1 : Int32)) (fun v => [(4, .int v), (0, .ref (w.2.2.1 0)), (1, .int x1), (2, .int x2), (3, .int x3), (5, .int x5)]) dX9_plan_110 hl (k := 4) rfl (by decide) (by decide) (fun _ => rfl) h (fun v1 ls hl h => ?_)
    refine v_goto 113 32 C dX9_plan_113 (by decide) ?_
    exact hc32 _ _ _ _ _ _ (lv_sub hl [1, 2, 3, 4, 0] rfl) h
  · refine v_aload_n 53 C dX9_plan_53 rfl (lv_at hl 0 rfl) ?_
    refine v_iload 54 C dX9_plan_54 (lv_at hl 4 rfl) ?_
    obtain ⟨v2, S, hc, h⟩ := zb_e h
    refine v_callVi 56 C (ci := 8) [] dX9_plan_56 ml_X9_215 hy_X9_lettersOf (c_X9_lettersOf  hc) (by decide) rfl hl.1 kM_0 rfl (Nat.le_of_ble_eq_true rfl) rfl ?_
    refine v_if_lt 59 99 C dX9_plan_59 (by decide) h (fun h => ?_) (fun h => ?_)
    · exact w_X9_plan_b99 C hc32 hc48 (lv_sub hl [0, 1, 2, 3, 4] rfl) h
    · refine v_aload_n 62 C dX9_plan_62 rfl (lv_at hl 0 rfl) ?_
      refine v_iload 63 C dX9_plan_63 (lv_at hl 4 rfl) ?_
      obtain ⟨v3, S, hc, h⟩ := zb_e h
      refine v_callVi 65 C (ci := 8) [] dX9_plan_65 ml_X9_218 hy_X9_endTogether (c_X9_endTogether  hc) (by decide) rfl hl.1 kM_0 rfl (Nat.le_of_ble_eq_true rfl) rfl ?_
      refine v_pop 68 C dX9_plan_68 rfl ?_
      refine v_aload_n 69 C dX9_plan_69 rfl (lv_at hl 0 rfl) ?_
      refine v_getr 70 (1) C dX9_plan_70 fl_X9_7 rfl kM_0 rfl ?_
      refine v_sipush 73 C (v := (2798 : Int32)) dX9_plan_73 (by decide) ?_
      refine v_iload_n 76 C dX9_plan_76 rfl (lv_at hl 1 rfl) ?_
      refine v_iadd 77 C dX9_plan_77 h (fun v4 h => ?_)
      refine v_iald 78 C dX9_plan_78 kM_1 rfl h (fun v5 h => ?_)
      refine v_iload_n 79 C dX9_plan_79 rfl (lv_at hl 2 rfl) ?_
      refine v_icmp_lt 80 99 C dX9_plan_80 (by decide) h (fun h => ?_) (fun h => ?_)
      · exact w_X9_plan_b99 C hc32 hc48 (lv_sub hl [0, 1, 2, 3, 4] rfl) h
      · refine v_aload_n 83 C dX9_plan_83 rfl (lv_at hl 0 rfl) ?_
        refine v_iload 84 C dX9_plan_84 (lv_at hl 4 rfl) ?_
        obtain ⟨v6, S, hc, h⟩ := zb_e h
        refine v_callVv 86 C (ci := 8) [] dX9_plan_86 ml_X9_221 hy_X9_keepLine (c_X9_keepLine  hc) (by decide) rfl hl.1 kM_0 rfl (Nat.le_of_ble_eq_true rfl) rfl ?_
        refine v_aload_n 89 C dX9_plan_89 rfl (lv_at hl 0 rfl) ?_
        refine v_iload 90 C dX9_plan_90 (lv_at hl 4 rfl) ?_
        refine v_iload_n 92 C dX9_plan_92 rfl (lv_at hl 3 rfl) ?_
        obtain ⟨v7, S, hc, h⟩ := zb_e h
        refine v_callVv 93 C (ci := 8) [] dX9_plan_93 ml_X9_227 hy_X9_tellLine (c_X9_tellLine  hc) (by decide) rfl hl.1 kM_0 rfl (Nat.le_of_ble_eq_true rfl) rfl ?_
        refine v_iload 96 C dX9_plan_96 (lv_at hl 4 rfl) ?_
        exact v_ireturn 98 C dX9_plan_98 h
theorem w_X9_plan_l48 {w : zWd} {X : zX} {l0 : Launch} {r : Int32} {S1 : zMem} (C : zC LM w X l0 cX9_plan RX9 6 4 (some .int)) {k32 : Int32 → Int32 → Int32 → Int32 → zMem → Option (Int32 × zMem)} (hc32 : ∀ (x1 : Int32) (x2 : Int32) (x3 : Int32) (x4 : Int32) (S : zMem) (ls : Array Slot), lv_has ls 6 [(0, .ref (w.2.2.1 0)), (1, .int x1), (2, .int x2), (3, .int x3), (4, .int x4)] → k32 x1 x2 x3 x4 S = some (r, S1) → zV LM w X (some (.int r)) S1 S 32 ls []) : ∀ (n : Nat) (x1 : Int32) (x2 : Int32) (x3 : Int32) (x4 : Int32) (x5 : Int32) (S : zMem) (ls : Array Slot), lv_has ls 6 [(0, .ref (w.2.2.1 0)), (1, .int x1), (2, .int x2), (3, .int x3), (4, .int x4), (5, .int x5)] → X9_plan_l48 k32 n x1 x2 x3 x4 x5 S = some (r, S1) → zV LM w X (some (.int r)) S1 S 48 ls [] := by
  intro n
  induction n with
  | zero =>
    intro x1 x2 x3 x4 x5 S ls hl h
    cases (show (none : Option (Int32 × zMem)) = some _ from h)
  | succ n ih =>
    intro x1 x2 x3 x4 x5 S ls hl h
    exact w_X9_plan_b48 C hc32 ih hl h
set_option maxRecDepth 20000 in
theorem w_X9_plan_b32 {w : zWd} {X : zX} {l0 : Launch} {r : Int32} {S1 : zMem} (C : zC LM w X l0 cX9_plan RX9 6 4 (some .int)) {k32 : Int32 → Int32 → Int32 → Int32 → zMem → Option (Int32 × zMem)} (hc32 : ∀ (x1 : Int32) (x2 : Int32) (x3 : Int32) (x4 : Int32) (S : zMem) (ls : Array Slot), lv_has ls 6 [(0, .ref (w.2.2.1 0)), (1, .int x1), (2, .int x2), (3, .int x3), (4, .int x4)] → k32 x1 x2 x3 x4 S = some (r, S1) → zV LM w X (some (.int r)) S1 S 32 ls []) {x1 : Int32} {x2 : Int32} {x3 : Int32} {x4 : Int32} {S : zMem} {ls : Array Slot} (hl : lv_has ls 6 [(0, .ref (w.2.2.1 0)), (1, .int x1), (2, .int x2), (3, .int x3), (4, .int x4)]) (h : X9_plan_b32 k32 x1 x2 x3 x4 S = some (r, S1)) : zV LM w X (some (.int r)) S1 S 32 ls [] := by
  unfold X9_plan_b32 at h
  refine v_iload 32 C dX9_plan_32 (lv_at hl 4 rfl) ?_
  refine v_aload_n 34 C dX9_plan_34 rfl (lv_at hl 0 rfl) ?_
  refine v_geti 35 C dX9_plan_35 fl_X9_152 rfl kM_0 h (fun v1 h => ?_)
  refine v_icmp_gt 38 116 C dX9_plan_38 (by decide) h (fun h => ?_) (fun h => ?_)
  · refine v_bipush 116 C (v := (-9 : Int32)) dX9_plan_116 (by decide) ?_
    exact v_ireturn 118 C dX9_plan_118 h
  · refine v_iconst 41 C (v := (1 : Int32)) dX9_plan_41 (by decide) ?_
    refine v_istore 42 C [(5, .int (1 : Int32)), (0, .ref (w.2.2.1 0)), (1, .int x1), (2, .int x2), (3, .int x3), (4, .int x4)] dX9_plan_42 hl (by decide) rfl (fun ls hl => ?_)
    refine v_aload_n 44 C dX9_plan_44 rfl (lv_at hl 1 rfl) ?_
    obtain ⟨v2, S, hc, h⟩ := zb_e h
    refine v_callVv 45 C (ci := 8) [] dX9_plan_45 ml_X9_212 hy_X9_beginLine (c_X9_beginLine  hc) (by decide) rfl hl.1 kM_0 rfl (Nat.le_of_ble_eq_true rfl) rfl ?_
    exact w_X9_plan_l48 C hc32 zF _ _ _ _ _ _ _ (lv_sub hl [1, 2, 3, 4, 5, 0] rfl) h
theorem w_X9_plan_l32 {w : zWd} {X : zX} {l0 : Launch} {r : Int32} {S1 : zMem} (C : zC LM w X l0 cX9_plan RX9 6 4 (some .int)) : ∀ (n : Nat) (x1 : Int32) (x2 : Int32) (x3 : Int32) (x4 : Int32) (S : zMem) (ls : Array Slot), lv_has ls 6 [(0, .ref (w.2.2.1 0)), (1, .int x1), (2, .int x2), (3, .int x3), (4, .int x4)] → X9_plan_l32 n x1 x2 x3 x4 S = some (r, S1) → zV LM w X (some (.int r)) S1 S 32 ls [] := by
  intro n
  induction n with
  | zero =>
    intro x1 x2 x3 x4 S ls hl h
    cases (show (none : Option (Int32 × zMem)) = some _ from h)
  | succ n ih =>
    intro x1 x2 x3 x4 S ls hl h
    exact w_X9_plan_b32 C ih hl h
set_option maxRecDepth 20000 in
theorem w_X9_plan_b0 {w : zWd} {X : zX} {l0 : Launch} {r : Int32} {S1 : zMem} (C : zC LM w X l0 cX9_plan RX9 6 4 (some .int)) {x1 : Int32} {x2 : Int32} {x3 : Int32} {S : zMem} {ls : Array Slot} (hl : lv_has ls 6 [(0, .ref (w.2.2.1 0)), (1, .int x1), (2, .int x2), (3, .int x3)]) (h : X9_plan_b0 x1 x2 x3 S = some (r, S1)) : zV LM w X (some (.int r)) S1 S 0 ls [] := by
  unfold X9_plan_b0 at h
  refine v_aload_n 0 C dX9_plan_0 rfl (lv_at hl 0 rfl) ?_
  refine v_iload_n 1 C dX9_plan_1 rfl (lv_at hl 1 rfl) ?_
  obtain ⟨v1, S, hc, h⟩ := zb_e h
  refine v_callVi 2 C (ci := 8) [] dX9_plan_2 ml_X9_168 hy_X9_isHouse (c_X9_isHouse  hc) (by decide) rfl hl.1 kM_0 rfl (Nat.le_of_ble_eq_true rfl) rfl ?_
  refine v_if_eq 5 27 C dX9_plan_5 (by decide) h (fun h => ?_) (fun h => ?_)
  · exact w_X9_plan_b27 C (lv_sub hl [] rfl) h
  · refine v_iload_n 8 C dX9_plan_8 rfl (lv_at hl 2 rfl) ?_
    refine v_i2l 9 C dX9_plan_9 h (fun v2 h => ?_)
    refine v_lconst 10 C (v := 0) dX9_plan_10 (by decide) ?_
    refine v_ldc2 11 C (v := 20) dX9_plan_11 co_X9_230 ?_
    obtain ⟨v3, S, hc, h⟩ := zb_e h
    refine v_callSi 14 C [] dX9_plan_14 ml_X9_65 hy_X9_in (c_X9_in  hc) (by decide) rfl hl.1 (Nat.le_of_ble_eq_true rfl) rfl ?_
    refine v_if_eq 17 27 C dX9_plan_17 (by decide) h (fun h => ?_) (fun h => ?_)
    · exact w_X9_plan_b27 C (lv_sub hl [] rfl) h
    · refine v_iload_n 20 C dX9_plan_20 rfl (lv_at hl 3 rfl) ?_
      obtain ⟨v4, S, hc, h⟩ := zb_e h
      refine v_callSi 21 C [] dX9_plan_21 ml_X9_71 hy_X9_isRow (c_X9_isRow  hc) (by decide) rfl hl.1 (Nat.le_of_ble_eq_true rfl) rfl ?_
      refine v_if_ne 24 29 C dX9_plan_24 (by decide) h (fun h => ?_) (fun h => ?_)
      · refine v_iconst 29 C (v := (0 : Int32)) dX9_plan_29 (by decide) ?_
        refine v_istore 30 C [(4, .int (0 : Int32)), (0, .ref (w.2.2.1 0)), (1, .int x1), (2, .int x2), (3, .int x3)] dX9_plan_30 hl (by decide) rfl (fun ls hl => ?_)
        exact w_X9_plan_l32 C zF _ _ _ _ _ _ (lv_sub hl [1, 2, 3, 4, 0] rfl) h
      · exact w_X9_plan_b27 C (lv_sub hl [] rfl) h
theorem c_X9_plan {w : zWd} {l0 : Launch} {x1 : Int32} {x2 : Int32} {x3 : Int32} {S S1 : zMem} {r : Int32} (h : f_X9_plan x1 x2 x3 S = some (r, S1)) : zMet LM w l0 yX9_plan cX9_plan 6 (some .int) 4 [.ref (w.2.2.1 0), .int x1, .int x2, .int x3] S (some (.int r)) S1 :=
  zMet_of (by decide +kernel) (Nat.le_of_ble_eq_true rfl) (fun X ls C hl => w_X9_plan_b0 C hl h)
theorem dX9_noLetters_0 : decode cX9_noLetters 0 = .ok (.aload_n 0, 1) := by decide +kernel
theorem dX9_noLetters_1 : decode cX9_noLetters 1 = .ok (.getfield 22, 3) := by decide +kernel
theorem dX9_noLetters_4 : decode cX9_noLetters 4 = .ok (.iload_n 1, 1) := by decide +kernel
theorem dX9_noLetters_5 : decode cX9_noLetters 5 = .ok (.iaload, 1) := by decide +kernel
theorem dX9_noLetters_6 : decode cX9_noLetters 6 = .ok (.ifCond .ge 9, 3) := by decide +kernel
theorem dX9_noLetters_9 : decode cX9_noLetters 9 = .ok (.aload_n 0, 1) := by decide +kernel
theorem dX9_noLetters_10 : decode cX9_noLetters 10 = .ok (.iconst 1, 1) := by decide +kernel
theorem dX9_noLetters_11 : decode cX9_noLetters 11 = .ok (.invokevirtual 75, 3) := by decide +kernel
theorem dX9_noLetters_14 : decode cX9_noLetters 14 = .ok (.ireturn, 1) := by decide +kernel
theorem dX9_noLetters_15 : decode cX9_noLetters 15 = .ok (.aload_n 0, 1) := by decide +kernel
theorem dX9_noLetters_16 : decode cX9_noLetters 16 = .ok (.getfield 22, 3) := by decide +kernel
theorem dX9_noLetters_19 : decode cX9_noLetters 19 = .ok (.iload_n 1, 1) := by decide +kernel
theorem dX9_noLetters_20 : decode cX9_noLetters 20 = .ok (.iaload, 1) := by decide +kernel
theorem dX9_noLetters_21 : decode cX9_noLetters 21 = .ok (.bipush 6, 2) := by decide +kernel
theorem dX9_noLetters_23 : decode cX9_noLetters 23 = .ok (.if_icmp .le 9, 3) := by decide +kernel
theorem dX9_noLetters_26 : decode cX9_noLetters 26 = .ok (.aload_n 0, 1) := by decide +kernel
theorem dX9_noLetters_27 : decode cX9_noLetters 27 = .ok (.iconst 5, 1) := by decide +kernel
theorem dX9_noLetters_28 : decode cX9_noLetters 28 = .ok (.invokevirtual 75, 3) := by decide +kernel
theorem dX9_noLetters_31 : decode cX9_noLetters 31 = .ok (.ireturn, 1) := by decide +kernel
theorem dX9_noLetters_32 : decode cX9_noLetters 32 = .ok (.iload_n 2, 1) := by decide +kernel
theorem dX9_noLetters_33 : decode cX9_noLetters 33 = .ok (.istore_n 3, 1) := by decide +kernel
theorem dX9_noLetters_34 : decode cX9_noLetters 34 = .ok (.iconst 1, 1) := by decide +kernel
theorem dX9_noLetters_35 : decode cX9_noLetters 35 = .ok (.istore 4, 2) := by decide +kernel
theorem dX9_noLetters_37 : decode cX9_noLetters 37 = .ok (.iconst 0, 1) := by decide +kernel
theorem dX9_noLetters_38 : decode cX9_noLetters 38 = .ok (.istore 5, 2) := by decide +kernel
theorem dX9_noLetters_40 : decode cX9_noLetters 40 = .ok (.iload 5, 2) := by decide +kernel
theorem dX9_noLetters_42 : decode cX9_noLetters 42 = .ok (.aload_n 0, 1) := by decide +kernel
theorem dX9_noLetters_43 : decode cX9_noLetters 43 = .ok (.getfield 22, 3) := by decide +kernel
theorem dX9_noLetters_46 : decode cX9_noLetters 46 = .ok (.iload_n 1, 1) := by decide +kernel
theorem dX9_noLetters_47 : decode cX9_noLetters 47 = .ok (.iaload, 1) := by decide +kernel
theorem dX9_noLetters_48 : decode cX9_noLetters 48 = .ok (.if_icmp .ge 69, 3) := by decide +kernel
theorem dX9_noLetters_51 : decode cX9_noLetters 51 = .ok (.iload 4, 2) := by decide +kernel
theorem dX9_noLetters_53 : decode cX9_noLetters 53 = .ok (.ifCond .eq 64, 3) := by decide +kernel
theorem dX9_noLetters_56 : decode cX9_noLetters 56 = .ok (.aload_n 0, 1) := by decide +kernel
theorem dX9_noLetters_57 : decode cX9_noLetters 57 = .ok (.getfield 25, 3) := by decide +kernel
theorem dX9_noLetters_60 : decode cX9_noLetters 60 = .ok (.bipush 40, 2) := by decide +kernel
theorem dX9_noLetters_62 : decode cX9_noLetters 62 = .ok (.iload_n 1, 1) := by decide +kernel
theorem dX9_noLetters_63 : decode cX9_noLetters 63 = .ok (.imul, 1) := by decide +kernel
theorem dX9_noLetters_64 : decode cX9_noLetters 64 = .ok (.iload 5, 2) := by decide +kernel
theorem dX9_noLetters_66 : decode cX9_noLetters 66 = .ok (.iadd, 1) := by decide +kernel
theorem dX9_noLetters_67 : decode cX9_noLetters 67 = .ok (.iaload, 1) := by decide +kernel
theorem dX9_noLetters_68 : decode cX9_noLetters 68 = .ok (.istore 6, 2) := by decide +kernel
theorem dX9_noLetters_70 : decode cX9_noLetters 70 = .ok (.aload_n 0, 1) := by decide +kernel
theorem dX9_noLetters_71 : decode cX9_noLetters 71 = .ok (.iload 6, 2) := by decide +kernel
theorem dX9_noLetters_73 : decode cX9_noLetters 73 = .ok (.invokevirtual 186, 3) := by decide +kernel
theorem dX9_noLetters_76 : decode cX9_noLetters 76 = .ok (.ifCond .eq 16, 3) := by decide +kernel
theorem dX9_noLetters_79 : decode cX9_noLetters 79 = .ok (.iload_n 3, 1) := by decide +kernel
theorem dX9_noLetters_80 : decode cX9_noLetters 80 = .ok (.iload 6, 2) := by decide +kernel
theorem dX9_noLetters_82 : decode cX9_noLetters 82 = .ok (.invokestatic 176, 3) := by decide +kernel
theorem dX9_noLetters_85 : decode cX9_noLetters 85 = .ok (.ifCond .ne 7, 3) := by decide +kernel
theorem dX9_noLetters_88 : decode cX9_noLetters 88 = .ok (.iconst 1, 1) := by decide +kernel
theorem dX9_noLetters_89 : decode cX9_noLetters 89 = .ok (.goto 4, 3) := by decide +kernel
theorem dX9_noLetters_92 : decode cX9_noLetters 92 = .ok (.iconst 0, 1) := by decide +kernel
theorem dX9_noLetters_93 : decode cX9_noLetters 93 = .ok (.istore 4, 2) := by decide +kernel
theorem dX9_noLetters_95 : decode cX9_noLetters 95 = .ok (.iload_n 3, 1) := by decide +kernel
theorem dX9_noLetters_96 : decode cX9_noLetters 96 = .ok (.iload 4, 2) := by decide +kernel
theorem dX9_noLetters_98 : decode cX9_noLetters 98 = .ok (.ifCond .eq 10, 3) := by decide +kernel
theorem dX9_noLetters_101 : decode cX9_noLetters 101 = .ok (.iconst 1, 1) := by decide +kernel
theorem dX9_noLetters_102 : decode cX9_noLetters 102 = .ok (.iload 6, 2) := by decide +kernel
theorem dX9_noLetters_104 : decode cX9_noLetters 104 = .ok (.ishl, 1) := by decide +kernel
theorem dX9_noLetters_105 : decode cX9_noLetters 105 = .ok (.goto 4, 3) := by decide +kernel
theorem dX9_noLetters_108 : decode cX9_noLetters 108 = .ok (.iconst 0, 1) := by decide +kernel
theorem dX9_noLetters_109 : decode cX9_noLetters 109 = .ok (.ior, 1) := by decide +kernel
theorem dX9_noLetters_110 : decode cX9_noLetters 110 = .ok (.istore_n 3, 1) := by decide +kernel
theorem dX9_noLetters_111 : decode cX9_noLetters 111 = .ok (.iinc 5 1, 3) := by decide +kernel
theorem dX9_noLetters_114 : decode cX9_noLetters 114 = .ok (.goto (-74), 3) := by decide +kernel
theorem dX9_noLetters_117 : decode cX9_noLetters 117 = .ok (.iload 4, 2) := by decide +kernel
theorem dX9_noLetters_119 : decode cX9_noLetters 119 = .ok (.ifCond .eq 7, 3) := by decide +kernel
theorem dX9_noLetters_122 : decode cX9_noLetters 122 = .ok (.iconst 0, 1) := by decide +kernel
theorem dX9_noLetters_123 : decode cX9_noLetters 123 = .ok (.goto 8, 3) := by decide +kernel
theorem dX9_noLetters_126 : decode cX9_noLetters 126 = .ok (.aload_n 0, 1) := by decide +kernel
theorem dX9_noLetters_127 : decode cX9_noLetters 127 = .ok (.iconst 3, 1) := by decide +kernel
theorem dX9_noLetters_128 : decode cX9_noLetters 128 = .ok (.invokevirtual 75, 3) := by decide +kernel
theorem dX9_noLetters_131 : decode cX9_noLetters 131 = .ok (.ireturn, 1) := by decide +kernel
set_option maxRecDepth 20000 in
theorem w_X9_noLetters_b109 {w : zWd} {X : zX} {l0 : Launch} {r : Int32} {S1 : zMem} (C : zC LM w X l0 cX9_noLetters RX9 7 3 (some .int)) {k40 : Int32 → Int32 → Int32 → Int32 → zMem → Option (Int32 × zMem)} (hc40 : ∀ (x1 : Int32) (x3 : Int32) (x4 : Int32) (x5 : Int32) (S : zMem) (ls : Array Slot), lv_has ls 7 [(0, .ref (w.2.2.1 0)), (1, .int x1), (3, .int x3), (4, .int x4), (5, .int x5)] → k40 x1 x3 x4 x5 S = some (r, S1) → zV LM w X (some (.int r)) S1 S 40 ls []) {x1 : Int32} {x4 : Int32} {x5 : Int32} {s0 : Int32} {s1 : Int32} {S : zMem} {ls : Array Slot} (hl : lv_has ls 7 [(0, .ref (w.2.2.1 0)), (1, .int x1), (4, .int x4), (5, .int x5)]) (h : X9_noLetters_b109 k40 x1 x4 x5 s0 s1 S = some (r, S1)) : zV LM w X (some (.int r)) S1 S 109 ls [.int s1, .int s0] := by
  unfold X9_noLetters_b109 at h
  refine v_ior 109 C dX9_noLetters_109 h (fun v1 h => ?_)
  refine v_istore_n 110 C [(3, .int v1), (0, .ref (w.2.2.1 0)), (1, .int x1), (4, .int x4), (5, .int x5)] dX9_noLetters_110 rfl hl (by decide) rfl (fun ls hl => ?_)
  refine v_iinc 111 C (nn := (1 : Int32)) (fun v => [(5, .int v), (3, .int v1), (0, .ref (w.2.2.1 0)), (1, .int x1), (4, .int x4)]) dX9_noLetters_111 hl (k := 4) rfl (by decide) (by decide) (fun _ => rfl) h (fun v2 ls hl h => ?_)
  refine v_goto 114 40 C dX9_noLetters_114 (by decide) ?_
  exact hc40 _ _ _ _ _ _ (lv_sub hl [2, 3, 1, 4, 0] rfl) h
set_option maxRecDepth 20000 in
theorem w_X9_noLetters_b93 {w : zWd} {X : zX} {l0 : Launch} {r : Int32} {S1 : zMem} (C : zC LM w X l0 cX9_noLetters RX9 7 3 (some .int)) {k40 : Int32 → Int32 → Int32 → Int32 → zMem → Option (Int32 × zMem)} (hc40 : ∀ (x1 : Int32) (x3 : Int32) (x4 : Int32) (x5 : Int32) (S : zMem) (ls : Array Slot), lv_has ls 7 [(0, .ref (w.2.2.1 0)), (1, .int x1), (3, .int x3), (4, .int x4), (5, .int x5)] → k40 x1 x3 x4 x5 S = some (r, S1) → zV LM w X (some (.int r)) S1 S 40 ls []) {x1 : Int32} {x3 : Int32} {x5 : Int32} {x6 : Int32} {s0 : Int32} {S : zMem} {ls : Array Slot} (hl : lv_has ls 7 [(0, .ref (w.2.2.1 0)), (1, .int x1), (3, .int x3), (5, .int x5), (6, .int x6)]) (h : X9_noLetters_b93 k40 x1 x3 x5 x6 s0 S = some (r, S1)) : zV LM w X (some (.int r)) S1 S 93 ls [.int s0] := by
  unfold X9_noLetters_b93 at h
  refine v_istore 93 C [(4, .int s0), (0, .ref (w.2.2.1 0)), (1, .int x1), (3, .int x3), (5, .int x5), (6, .int x6)] dX9_noLetters_93 hl (by decide) rfl (fun ls hl => ?_)
  refine v_iload_n 95 C dX9_noLetters_95 rfl (lv_at hl 3 rfl) ?_
  refine v_iload 96 C dX9_noLetters_96 (lv_at hl 0 rfl) ?_
  refine v_if_eq 98 108 C dX9_noLetters_98 (by decide) h (fun h => ?_) (fun h => ?_)
  · refine v_iconst 108 C (v := (0 : Int32)) dX9_noLetters_108 (by decide) ?_
    exact w_X9_noLetters_b109 C hc40 (lv_sub hl [1, 2, 0, 4] rfl) h
  · refine v_iconst 101 C (v := (1 : Int32)) dX9_noLetters_101 (by decide) ?_
    refine v_iload 102 C dX9_noLetters_102 (lv_at hl 5 rfl) ?_
    refine v_ishl 104 C dX9_noLetters_104 h (fun v1 h => ?_)
    refine v_goto 105 109 C dX9_noLetters_105 (by decide) ?_
    exact w_X9_noLetters_b109 C hc40 (lv_sub hl [1, 2, 0, 4] rfl) h
set_option maxRecDepth 20000 in
theorem w_X9_noLetters_b92 {w : zWd} {X : zX} {l0 : Launch} {r : Int32} {S1 : zMem} (C : zC LM w X l0 cX9_noLetters RX9 7 3 (some .int)) {k40 : Int32 → Int32 → Int32 → Int32 → zMem → Option (Int32 × zMem)} (hc40 : ∀ (x1 : Int32) (x3 : Int32) (x4 : Int32) (x5 : Int32) (S : zMem) (ls : Array Slot), lv_has ls 7 [(0, .ref (w.2.2.1 0)), (1, .int x1), (3, .int x3), (4, .int x4), (5, .int x5)] → k40 x1 x3 x4 x5 S = some (r, S1) → zV LM w X (some (.int r)) S1 S 40 ls []) {x1 : Int32} {x3 : Int32} {x5 : Int32} {x6 : Int32} {S : zMem} {ls : Array Slot} (hl : lv_has ls 7 [(0, .ref (w.2.2.1 0)), (1, .int x1), (3, .int x3), (5, .int x5), (6, .int x6)]) (h : X9_noLetters_b92 k40 x1 x3 x5 x6 S = some (r, S1)) : zV LM w X (some (.int r)) S1 S 92 ls [] := by
  unfold X9_noLetters_b92 at h
  refine v_iconst 92 C (v := (0 : Int32)) dX9_noLetters_92 (by decide) ?_
  exact w_X9_noLetters_b93 C hc40 (lv_sub hl [0, 1, 2, 3, 4] rfl) h
set_option maxRecDepth 20000 in
theorem w_X9_noLetters_b131 {w : zWd} {X : zX} {l0 : Launch} {r : Int32} {S1 : zMem} (C : zC LM w X l0 cX9_noLetters RX9 7 3 (some .int)) {s0 : Int32} {S : zMem} {ls : Array Slot} (hl : lv_has ls 7 []) (h : X9_noLetters_b131 s0 S = some (r, S1)) : zV LM w X (some (.int r)) S1 S 131 ls [.int s0] := by
  unfold X9_noLetters_b131 at h
  exact v_ireturn 131 C dX9_noLetters_131 h
set_option maxRecDepth 20000 in
theorem w_X9_noLetters_b117 {w : zWd} {X : zX} {l0 : Launch} {r : Int32} {S1 : zMem} (C : zC LM w X l0 cX9_noLetters RX9 7 3 (some .int)) {x4 : Int32} {S : zMem} {ls : Array Slot} (hl : lv_has ls 7 [(0, .ref (w.2.2.1 0)), (4, .int x4)]) (h : X9_noLetters_b117 x4 S = some (r, S1)) : zV LM w X (some (.int r)) S1 S 117 ls [] := by
  unfold X9_noLetters_b117 at h
  refine v_iload 117 C dX9_noLetters_117 (lv_at hl 1 rfl) ?_
  refine v_if_eq 119 126 C dX9_noLetters_119 (by decide) h (fun h => ?_) (fun h => ?_)
  · refine v_aload_n 126 C dX9_noLetters_126 rfl (lv_at hl 0 rfl) ?_
    refine v_iconst 127 C (v := (3 : Int32)) dX9_noLetters_127 (by decide) ?_
    obtain ⟨v1, S, hc, h⟩ := zb_e h
    refine v_callVi 128 C (ci := 8) [] dX9_noLetters_128 ml_X9_75 hy_X9_find (c_X9_find  hc) (by decide) rfl hl.1 kM_0 rfl (Nat.le_of_ble_eq_true rfl) rfl ?_
    exact w_X9_noLetters_b131 C (lv_sub hl [] rfl) h
  · refine v_iconst 122 C (v := (0 : Int32)) dX9_noLetters_122 (by decide) ?_
    refine v_goto 123 131 C dX9_noLetters_123 (by decide) ?_
    exact w_X9_noLetters_b131 C (lv_sub hl [] rfl) h
set_option maxRecDepth 20000 in
theorem w_X9_noLetters_b40 {w : zWd} {X : zX} {l0 : Launch} {r : Int32} {S1 : zMem} (C : zC LM w X l0 cX9_noLetters RX9 7 3 (some .int)) {k40 : Int32 → Int32 → Int32 → Int32 → zMem → Option (Int32 × zMem)} (hc40 : ∀ (x1 : Int32) (x3 : Int32) (x4 : Int32) (x5 : Int32) (S : zMem) (ls : Array Slot), lv_has ls 7 [(0, .ref (w.2.2.1 0)), (1, .int x1), (3, .int x3), (4, .int x4), (5, .int x5)] → k40 x1 x3 x4 x5 S = some (r, S1) → zV LM w X (some (.int r)) S1 S 40 ls []) {x1 : Int32} {x3 : Int32} {x4 : Int32} {x5 : Int32} {S : zMem} {ls : Array Slot} (hl : lv_has ls 7 [(0, .ref (w.2.2.1 0)), (1, .int x1), (3, .int x3), (4, .int x4), (5, .int x5)]) (h : X9_noLetters_b40 k40 x1 x3 x4 x5 S = some (r, S1)) : zV LM w X (some (.int r)) S1 S 40 ls [] := by
  unfold X9_noLetters_b40 at h
  refine v_iload 40 C dX9_noLetters_40 (lv_at hl 4 rfl) ?_
  refine v_aload_n 42 C dX9_noLetters_42 rfl (lv_at hl 0 rfl) ?_
  refine v_getr 43 (5) C dX9_noLetters_43 fl_X9_22 rfl kM_0 rfl ?_
  refine v_iload_n 46 C dX9_noLetters_46 rfl (lv_at hl 1 rfl) ?_
  refine v_iald 47 C dX9_noLetters_47 kM_5 rfl h (fun v1 h => ?_)
  refine v_icmp_ge 48 117 C dX9_noLetters_48 (by decide) h (fun h => ?_) (fun h => ?_)
  · exact w_X9_noLetters_b117 C (lv_sub hl [0, 3] rfl) h
  · refine v_iload 51 C dX9_noLetters_51 (lv_at hl 3 rfl) ?_
    refine v_if_eq 53 117 C dX9_noLetters_53 (by decide) h (fun h => ?_) (fun h => ?_)
    · exact w_X9_noLetters_b117 C (lv_sub hl [0, 3] rfl) h
    · refine v_aload_n 56 C dX9_noLetters_56 rfl (lv_at hl 0 rfl) ?_
      refine v_getr 57 (6) C dX9_noLetters_57 fl_X9_25 rfl kM_0 rfl ?_
      refine v_bipush 60 C (v := (40 : Int32)) dX9_noLetters_60 (by decide) ?_
      refine v_iload_n 62 C dX9_noLetters_62 rfl (lv_at hl 1 rfl) ?_
      refine v_imul 63 C dX9_noLetters_63 h (fun v2 h => ?_)
      refine v_iload 64 C dX9_noLetters_64 (lv_at hl 4 rfl) ?_
      refine v_iadd 66 C dX9_noLetters_66 h (fun v3 h => ?_)
      refine v_iald 67 C dX9_noLetters_67 kM_6 rfl h (fun v4 h => ?_)
      refine v_istore 68 C [(6, .int v4), (0, .ref (w.2.2.1 0)), (1, .int x1), (3, .int x3), (4, .int x4), (5, .int x5)] dX9_noLetters_68 hl (by decide) rfl (fun ls hl => ?_)
      refine v_aload_n 70 C dX9_noLetters_70 rfl (lv_at hl 1 rfl) ?_
      refine v_iload 71 C dX9_noLetters_71 (lv_at hl 0 rfl) ?_
      obtain ⟨v5, S, hc, h⟩ := zb_e h
      refine v_callVi 73 C (ci := 8) [] dX9_noLetters_73 ml_X9_186 hy_X9_isLetter (c_X9_isLetter  hc) (by decide) rfl hl.1 kM_0 rfl (Nat.le_of_ble_eq_true rfl) rfl ?_
      refine v_if_eq 76 92 C dX9_noLetters_76 (by decide) h (fun h => ?_) (fun h => ?_)
      · exact w_X9_noLetters_b92 C hc40 (lv_sub hl [1, 2, 3, 5, 0] rfl) h
      · refine v_iload_n 79 C dX9_noLetters_79 rfl (lv_at hl 3 rfl) ?_
        refine v_iload 80 C dX9_noLetters_80 (lv_at hl 0 rfl) ?_
        obtain ⟨v6, S, hc, h⟩ := zb_e h
        refine v_callSi 82 C [] dX9_noLetters_82 ml_X9_176 hy_X9_has (c_X9_has  hc) (by decide) rfl hl.1 (Nat.le_of_ble_eq_true rfl) rfl ?_
        refine v_if_ne 85 92 C dX9_noLetters_85 (by decide) h (fun h => ?_) (fun h => ?_)
        · exact w_X9_noLetters_b92 C hc40 (lv_sub hl [1, 2, 3, 5, 0] rfl) h
        · refine v_iconst 88 C (v := (1 : Int32)) dX9_noLetters_88 (by decide) ?_
          refine v_goto 89 93 C dX9_noLetters_89 (by decide) ?_
          exact w_X9_noLetters_b93 C hc40 (lv_sub hl [1, 2, 3, 5, 0] rfl) h
theorem w_X9_noLetters_l40 {w : zWd} {X : zX} {l0 : Launch} {r : Int32} {S1 : zMem} (C : zC LM w X l0 cX9_noLetters RX9 7 3 (some .int)) : ∀ (n : Nat) (x1 : Int32) (x3 : Int32) (x4 : Int32) (x5 : Int32) (S : zMem) (ls : Array Slot), lv_has ls 7 [(0, .ref (w.2.2.1 0)), (1, .int x1), (3, .int x3), (4, .int x4), (5, .int x5)] → X9_noLetters_l40 n x1 x3 x4 x5 S = some (r, S1) → zV LM w X (some (.int r)) S1 S 40 ls [] := by
  intro n
  induction n with
  | zero =>
    intro x1 x3 x4 x5 S ls hl h
    cases (show (none : Option (Int32 × zMem)) = some _ from h)
  | succ n ih =>
    intro x1 x3 x4 x5 S ls hl h
    exact w_X9_noLetters_b40 C ih hl h
set_option maxRecDepth 20000 in
theorem w_X9_noLetters_b0 {w : zWd} {X : zX} {l0 : Launch} {r : Int32} {S1 : zMem} (C : zC LM w X l0 cX9_noLetters RX9 7 3 (some .int)) {x1 : Int32} {x2 : Int32} {S : zMem} {ls : Array Slot} (hl : lv_has ls 7 [(0, .ref (w.2.2.1 0)), (1, .int x1), (2, .int x2)]) (h : X9_noLetters_b0 x1 x2 S = some (r, S1)) : zV LM w X (some (.int r)) S1 S 0 ls [] := by
  unfold X9_noLetters_b0 at h
  refine v_aload_n 0 C dX9_noLetters_0 rfl (lv_at hl 0 rfl) ?_
  refine v_getr 1 (5) C dX9_noLetters_1 fl_X9_22 rfl kM_0 rfl ?_
  refine v_iload_n 4 C dX9_noLetters_4 rfl (lv_at hl 1 rfl) ?_
  refine v_iald 5 C dX9_noLetters_5 kM_5 rfl h (fun v1 h => ?_)
  refine v_if_ge 6 15 C dX9_noLetters_6 (by decide) h (fun h => ?_) (fun h => ?_)
  · refine v_aload_n 15 C dX9_noLetters_15 rfl (lv_at hl 0 rfl) ?_
    refine v_getr 16 (5) C dX9_noLetters_16 fl_X9_22 rfl kM_0 rfl ?_
    refine v_iload_n 19 C dX9_noLetters_19 rfl (lv_at hl 1 rfl) ?_
    refine v_iald 20 C dX9_noLetters_20 kM_5 rfl h (fun v2 h => ?_)
    refine v_bipush 21 C (v := (6 : Int32)) dX9_noLetters_21 (by decide) ?_
    refine v_icmp_le 23 32 C dX9_noLetters_23 (by decide) h (fun h => ?_) (fun h => ?_)
    · refine v_iload_n 32 C dX9_noLetters_32 rfl (lv_at hl 2 rfl) ?_
      refine v_istore_n 33 C [(3, .int x2), (0, .ref (w.2.2.1 0)), (1, .int x1), (2, .int x2)] dX9_noLetters_33 rfl hl (by decide) rfl (fun ls hl => ?_)
      refine v_iconst 34 C (v := (1 : Int32)) dX9_noLetters_34 (by decide) ?_
      refine v_istore 35 C [(4, .int (1 : Int32)), (3, .int x2), (0, .ref (w.2.2.1 0)), (1, .int x1), (2, .int x2)] dX9_noLetters_35 hl (by decide) rfl (fun ls hl => ?_)
      refine v_iconst 37 C (v := (0 : Int32)) dX9_noLetters_37 (by decide) ?_
      refine v_istore 38 C [(5, .int (0 : Int32)), (4, .int (1 : Int32)), (3, .int x2), (0, .ref (w.2.2.1 0)), (1, .int x1), (2, .int x2)] dX9_noLetters_38 hl (by decide) rfl (fun ls hl => ?_)
      exact w_X9_noLetters_l40 C zF _ _ _ _ _ _ (lv_sub hl [3, 4, 2, 1, 0] rfl) h
    · refine v_aload_n 26 C dX9_noLetters_26 rfl (lv_at hl 0 rfl) ?_
      refine v_iconst 27 C (v := (5 : Int32)) dX9_noLetters_27 (by decide) ?_
      obtain ⟨v3, S, hc, h⟩ := zb_e h
      refine v_callVi 28 C (ci := 8) [] dX9_noLetters_28 ml_X9_75 hy_X9_find (c_X9_find  hc) (by decide) rfl hl.1 kM_0 rfl (Nat.le_of_ble_eq_true rfl) rfl ?_
      exact v_ireturn 31 C dX9_noLetters_31 h
  · refine v_aload_n 9 C dX9_noLetters_9 rfl (lv_at hl 0 rfl) ?_
    refine v_iconst 10 C (v := (1 : Int32)) dX9_noLetters_10 (by decide) ?_
    obtain ⟨v4, S, hc, h⟩ := zb_e h
    refine v_callVi 11 C (ci := 8) [] dX9_noLetters_11 ml_X9_75 hy_X9_find (c_X9_find  hc) (by decide) rfl hl.1 kM_0 rfl (Nat.le_of_ble_eq_true rfl) rfl ?_
    exact v_ireturn 14 C dX9_noLetters_14 h
theorem c_X9_noLetters {w : zWd} {l0 : Launch} {x1 : Int32} {x2 : Int32} {S S1 : zMem} {r : Int32} (h : f_X9_noLetters x1 x2 S = some (r, S1)) : zMet LM w l0 yX9_noLetters cX9_noLetters 7 (some .int) 3 [.ref (w.2.2.1 0), .int x1, .int x2] S (some (.int r)) S1 :=
  zMet_of (by decide +kernel) (Nat.le_of_ble_eq_true rfl) (fun X ls C hl => w_X9_noLetters_b0 C hl h)
theorem ml_X9_232 : Cond.methodLink RX9 232 yX9_noLetters ∈ zT := zT_of (List.mem_of_getElem? (i := 1211) (by decide +kernel)) rfl
theorem hy_X9_noLetters : zYv yX9_noLetters cX9_noLetters 7 (some .int) 2 := ⟨⟨zT_of (List.mem_of_getElem? (i := 1214) (by decide +kernel)) rfl, zT_of (List.mem_of_getElem? (i := 78) (by decide +kernel)) rfl, by decide, by decide +kernel, by decide +kernel, by decide +kernel⟩, zT_of (List.mem_of_getElem? (i := 1213) (by decide +kernel)) rfl, zT_of (List.mem_of_getElem? (i := 52) (by decide +kernel)) rfl⟩
theorem dX9_rest_0 : decode cX9_rest 0 = .ok (.aload_n 0, 1) := by decide +kernel
theorem dX9_rest_1 : decode cX9_rest 1 = .ok (.iload_n 1, 1) := by decide +kernel
theorem dX9_rest_2 : decode cX9_rest 2 = .ok (.invokevirtual 168, 3) := by decide +kernel
theorem dX9_rest_5 : decode cX9_rest 5 = .ok (.ifCond .eq 22, 3) := by decide +kernel
theorem dX9_rest_8 : decode cX9_rest 8 = .ok (.iload_n 2, 1) := by decide +kernel
theorem dX9_rest_9 : decode cX9_rest 9 = .ok (.i2l, 1) := by decide +kernel
theorem dX9_rest_10 : decode cX9_rest 10 = .ok (.lconst 0, 1) := by decide +kernel
theorem dX9_rest_11 : decode cX9_rest 11 = .ok (.ldc2_w 230, 3) := by decide +kernel
theorem dX9_rest_14 : decode cX9_rest 14 = .ok (.invokestatic 65, 3) := by decide +kernel
theorem dX9_rest_17 : decode cX9_rest 17 = .ok (.ifCond .eq 10, 3) := by decide +kernel
theorem dX9_rest_20 : decode cX9_rest 20 = .ok (.iload_n 3, 1) := by decide +kernel
theorem dX9_rest_21 : decode cX9_rest 21 = .ok (.invokestatic 71, 3) := by decide +kernel
theorem dX9_rest_24 : decode cX9_rest 24 = .ok (.ifCond .ne 5, 3) := by decide +kernel
theorem dX9_rest_27 : decode cX9_rest 27 = .ok (.iconst (-1), 1) := by decide +kernel
theorem dX9_rest_28 : decode cX9_rest 28 = .ok (.ireturn, 1) := by decide +kernel
theorem dX9_rest_29 : decode cX9_rest 29 = .ok (.aload_n 0, 1) := by decide +kernel
theorem dX9_rest_30 : decode cX9_rest 30 = .ok (.iload_n 3, 1) := by decide +kernel
theorem dX9_rest_31 : decode cX9_rest 31 = .ok (.iconst 0, 1) := by decide +kernel
theorem dX9_rest_32 : decode cX9_rest 32 = .ok (.invokevirtual 232, 3) := by decide +kernel
theorem dX9_rest_35 : decode cX9_rest 35 = .ok (.istore 4, 2) := by decide +kernel
theorem dX9_rest_37 : decode cX9_rest 37 = .ok (.iload 4, 2) := by decide +kernel
theorem dX9_rest_39 : decode cX9_rest 39 = .ok (.ifCond .eq 6, 3) := by decide +kernel
theorem dX9_rest_42 : decode cX9_rest 42 = .ok (.iload 4, 2) := by decide +kernel
theorem dX9_rest_44 : decode cX9_rest 44 = .ok (.ireturn, 1) := by decide +kernel
theorem dX9_rest_45 : decode cX9_rest 45 = .ok (.aload_n 0, 1) := by decide +kernel
theorem dX9_rest_46 : decode cX9_rest 46 = .ok (.invokevirtual 180, 3) := by decide +kernel
theorem dX9_rest_49 : decode cX9_rest 49 = .ok (.iconst 0, 1) := by decide +kernel
theorem dX9_rest_50 : decode cX9_rest 50 = .ok (.istore 5, 2) := by decide +kernel
theorem dX9_rest_52 : decode cX9_rest 52 = .ok (.iload 5, 2) := by decide +kernel
theorem dX9_rest_54 : decode cX9_rest 54 = .ok (.iload_n 2, 1) := by decide +kernel
theorem dX9_rest_55 : decode cX9_rest 55 = .ok (.if_icmp .ge 56, 3) := by decide +kernel
theorem dX9_rest_58 : decode cX9_rest 58 = .ok (.aload_n 0, 1) := by decide +kernel
theorem dX9_rest_59 : decode cX9_rest 59 = .ok (.sipush 2792, 3) := by decide +kernel
theorem dX9_rest_62 : decode cX9_rest 62 = .ok (.invokevirtual 205, 3) := by decide +kernel
theorem dX9_rest_65 : decode cX9_rest 65 = .ok (.iconst 0, 1) := by decide +kernel
theorem dX9_rest_66 : decode cX9_rest 66 = .ok (.istore 6, 2) := by decide +kernel
theorem dX9_rest_68 : decode cX9_rest 68 = .ok (.iload 6, 2) := by decide +kernel
theorem dX9_rest_70 : decode cX9_rest 70 = .ok (.aload_n 0, 1) := by decide +kernel
theorem dX9_rest_71 : decode cX9_rest 71 = .ok (.getfield 22, 3) := by decide +kernel
theorem dX9_rest_74 : decode cX9_rest 74 = .ok (.iload_n 3, 1) := by decide +kernel
theorem dX9_rest_75 : decode cX9_rest 75 = .ok (.iaload, 1) := by decide +kernel
theorem dX9_rest_76 : decode cX9_rest 76 = .ok (.if_icmp .ge 29, 3) := by decide +kernel
theorem dX9_rest_79 : decode cX9_rest 79 = .ok (.aload_n 0, 1) := by decide +kernel
theorem dX9_rest_80 : decode cX9_rest 80 = .ok (.sipush 2792, 3) := by decide +kernel
theorem dX9_rest_83 : decode cX9_rest 83 = .ok (.aload_n 0, 1) := by decide +kernel
theorem dX9_rest_84 : decode cX9_rest 84 = .ok (.getfield 25, 3) := by decide +kernel
theorem dX9_rest_87 : decode cX9_rest 87 = .ok (.bipush 40, 2) := by decide +kernel
theorem dX9_rest_89 : decode cX9_rest 89 = .ok (.iload_n 3, 1) := by decide +kernel
theorem dX9_rest_90 : decode cX9_rest 90 = .ok (.imul, 1) := by decide +kernel
theorem dX9_rest_91 : decode cX9_rest 91 = .ok (.iload 6, 2) := by decide +kernel
theorem dX9_rest_93 : decode cX9_rest 93 = .ok (.iadd, 1) := by decide +kernel
theorem dX9_rest_94 : decode cX9_rest 94 = .ok (.iaload, 1) := by decide +kernel
theorem dX9_rest_95 : decode cX9_rest 95 = .ok (.invokevirtual 183, 3) := by decide +kernel
theorem dX9_rest_98 : decode cX9_rest 98 = .ok (.pop, 1) := by decide +kernel
theorem dX9_rest_99 : decode cX9_rest 99 = .ok (.iinc 6 1, 3) := by decide +kernel
theorem dX9_rest_102 : decode cX9_rest 102 = .ok (.goto (-34), 3) := by decide +kernel
theorem dX9_rest_105 : decode cX9_rest 105 = .ok (.iinc 5 1, 3) := by decide +kernel
theorem dX9_rest_108 : decode cX9_rest 108 = .ok (.goto (-56), 3) := by decide +kernel
theorem dX9_rest_111 : decode cX9_rest 111 = .ok (.aload_n 0, 1) := by decide +kernel
theorem dX9_rest_112 : decode cX9_rest 112 = .ok (.getfield 7, 3) := by decide +kernel
theorem dX9_rest_115 : decode cX9_rest 115 = .ok (.sipush 2798, 3) := by decide +kernel
theorem dX9_rest_118 : decode cX9_rest 118 = .ok (.iload_n 1, 1) := by decide +kernel
theorem dX9_rest_119 : decode cX9_rest 119 = .ok (.iadd, 1) := by decide +kernel
theorem dX9_rest_120 : decode cX9_rest 120 = .ok (.iaload, 1) := by decide +kernel
theorem dX9_rest_121 : decode cX9_rest 121 = .ok (.ireturn, 1) := by decide +kernel
set_option maxRecDepth 20000 in
theorem w_X9_rest_b27 {w : zWd} {X : zX} {l0 : Launch} {r : Int32} {S1 : zMem} (C : zC LM w X l0 cX9_rest RX9 7 4 (some .int)) {S : zMem} {ls : Array Slot} (hl : lv_has ls 7 []) (h : X9_rest_b27  S = some (r, S1)) : zV LM w X (some (.int r)) S1 S 27 ls [] := by
  unfold X9_rest_b27 at h
  refine v_iconst 27 C (v := (-1 : Int32)) dX9_rest_27 (by decide) ?_
  exact v_ireturn 28 C dX9_rest_28 h
set_option maxRecDepth 20000 in
theorem w_X9_rest_b68 {w : zWd} {X : zX} {l0 : Launch} {r : Int32} {S1 : zMem} (C : zC LM w X l0 cX9_rest RX9 7 4 (some .int)) {k52 : Int32 → Int32 → Int32 → Int32 → zMem → Option (Int32 × zMem)} {k68 : Int32 → Int32 → Int32 → Int32 → Int32 → zMem → Option (Int32 × zMem)} (hc52 : ∀ (x1 : Int32) (x2 : Int32) (x3 : Int32) (x5 : Int32) (S : zMem) (ls : Array Slot), lv_has ls 7 [(0, .ref (w.2.2.1 0)), (1, .int x1), (2, .int x2), (3, .int x3), (5, .int x5)] → k52 x1 x2 x3 x5 S = some (r, S1) → zV LM w X (some (.int r)) S1 S 52 ls []) (hc68 : ∀ (x1 : Int32) (x2 : Int32) (x3 : Int32) (x5 : Int32) (x6 : Int32) (S : zMem) (ls : Array Slot), lv_has ls 7 [(0, .ref (w.2.2.1 0)), (1, .int x1), (2, .int x2), (3, .int x3), (5, .int x5), (6, .int x6)] → k68 x1 x2 x3 x5 x6 S = some (r, S1) → zV LM w X (some (.int r)) S1 S 68 ls []) {x1 : Int32} {x2 : Int32} {x3 : Int32} {x5 : Int32} {x6 : Int32} {S : zMem} {ls : Array Slot} (hl : lv_has ls 7 [(0, .ref (w.2.2.1 0)), (1, .int x1), (2, .int x2), (3, .int x3), (5, .int x5), (6, .int x6)]) (h : X9_rest_b68 k52 k68 x1 x2 x3 x5 x6 S = some (r, S1)) : zV LM w X (some (.int r)) S1 S 68 ls [] := by
  unfold X9_rest_b68 at h
  refine v_iload 68 C dX9_rest_68 (lv_at hl 5 rfl) ?_
  refine v_aload_n 70 C dX9_rest_70 rfl (lv_at hl 0 rfl) ?_
  refine v_getr 71 (5) C dX9_rest_71 fl_X9_22 rfl kM_0 rfl ?_
  refine v_iload_n 74 C dX9_rest_74 rfl (lv_at hl 3 rfl) ?_
  refine v_iald 75 C dX9_rest_75 kM_5 rfl h (fun v1 h => ?_)
  refine v_icmp_ge 76 105 C dX9_rest_76 (by decide) h (fun h => ?_) (fun h => ?_)
  · refine v_iinc 105 C (nn := (1 : Int32)) (fun v => [(5, .int v), (0, .ref (w.2.2.1 0)), (1, .int x1), (2, .int x2), (3, .int x3), (6, .int x6)]) dX9_rest_105 hl (k := 4) rfl (by decide) (by decide) (fun _ => rfl) h (fun v2 ls hl h => ?_)
    refine v_goto 108 52 C dX9_rest_108 (by decide) ?_
    exact hc52 _ _ _ _ _ _ (lv_sub hl [1, 2, 3, 4, 0] rfl) h
  · refine v_aload_n 79 C dX9_rest_79 rfl (lv_at hl 0 rfl) ?_
    refine v_sipush 80 C (v := (2792 : Int32)) dX9_rest_80 (by decide) ?_
    refine v_aload_n 83 C dX9_rest_83 rfl (lv_at hl 0 rfl) ?_
    refine v_getr 84 (6) C dX9_rest_84 fl_X9_25 rfl kM_0 rfl ?_
    refine v_bipush 87 C (v := (40 : Int32)) dX9_rest_87 (by decide) ?_
    refine v_iload_n 89 C dX9_rest_89 rfl (lv_at hl 3 rfl) ?_
    refine v_imul 90 C dX9_rest_90 h (fun v3 h => ?_)
    refine v_iload 91 C dX9_rest_91 (lv_at hl 5 rfl) ?_
    refine v_iadd 93 C dX9_rest_93 h (fun v4 h => ?_)
    refine v_iald 94 C dX9_rest_94 kM_6 rfl h (fun v5 h => ?_)
    obtain ⟨v6, S, hc, h⟩ := zb_e h
    refine v_callVi 95 C (ci := 8) [] dX9_rest_95 ml_X9_183 hy_X9_carries (c_X9_carries  hc) (by decide) rfl hl.1 kM_0 rfl (Nat.le_of_ble_eq_true rfl) rfl ?_
    refine v_pop 98 C dX9_rest_98 rfl ?_
    refine v_iinc 99 C (nn := (1 : Int32)) (fun v => [(6, .int v), (0, .ref (w.2.2.1 0)), (1, .int x1), (2, .int x2), (3, .int x3), (5, .int x5)]) dX9_rest_99 hl (k := 5) rfl (by decide) (by decide) (fun _ => rfl) h (fun v7 ls hl h => ?_)
    refine v_goto 102 68 C dX9_rest_102 (by decide) ?_
    exact hc68 _ _ _ _ _ _ _ (lv_sub hl [1, 2, 3, 4, 5, 0] rfl) h
theorem w_X9_rest_l68 {w : zWd} {X : zX} {l0 : Launch} {r : Int32} {S1 : zMem} (C : zC LM w X l0 cX9_rest RX9 7 4 (some .int)) {k52 : Int32 → Int32 → Int32 → Int32 → zMem → Option (Int32 × zMem)} (hc52 : ∀ (x1 : Int32) (x2 : Int32) (x3 : Int32) (x5 : Int32) (S : zMem) (ls : Array Slot), lv_has ls 7 [(0, .ref (w.2.2.1 0)), (1, .int x1), (2, .int x2), (3, .int x3), (5, .int x5)] → k52 x1 x2 x3 x5 S = some (r, S1) → zV LM w X (some (.int r)) S1 S 52 ls []) : ∀ (n : Nat) (x1 : Int32) (x2 : Int32) (x3 : Int32) (x5 : Int32) (x6 : Int32) (S : zMem) (ls : Array Slot), lv_has ls 7 [(0, .ref (w.2.2.1 0)), (1, .int x1), (2, .int x2), (3, .int x3), (5, .int x5), (6, .int x6)] → X9_rest_l68 k52 n x1 x2 x3 x5 x6 S = some (r, S1) → zV LM w X (some (.int r)) S1 S 68 ls [] := by
  intro n
  induction n with
  | zero =>
    intro x1 x2 x3 x5 x6 S ls hl h
    cases (show (none : Option (Int32 × zMem)) = some _ from h)
  | succ n ih =>
    intro x1 x2 x3 x5 x6 S ls hl h
    exact w_X9_rest_b68 C hc52 ih hl h
set_option maxRecDepth 20000 in
theorem w_X9_rest_b52 {w : zWd} {X : zX} {l0 : Launch} {r : Int32} {S1 : zMem} (C : zC LM w X l0 cX9_rest RX9 7 4 (some .int)) {k52 : Int32 → Int32 → Int32 → Int32 → zMem → Option (Int32 × zMem)} (hc52 : ∀ (x1 : Int32) (x2 : Int32) (x3 : Int32) (x5 : Int32) (S : zMem) (ls : Array Slot), lv_has ls 7 [(0, .ref (w.2.2.1 0)), (1, .int x1), (2, .int x2), (3, .int x3), (5, .int x5)] → k52 x1 x2 x3 x5 S = some (r, S1) → zV LM w X (some (.int r)) S1 S 52 ls []) {x1 : Int32} {x2 : Int32} {x3 : Int32} {x5 : Int32} {S : zMem} {ls : Array Slot} (hl : lv_has ls 7 [(0, .ref (w.2.2.1 0)), (1, .int x1), (2, .int x2), (3, .int x3), (5, .int x5)]) (h : X9_rest_b52 k52 x1 x2 x3 x5 S = some (r, S1)) : zV LM w X (some (.int r)) S1 S 52 ls [] := by
  unfold X9_rest_b52 at h
  refine v_iload 52 C dX9_rest_52 (lv_at hl 4 rfl) ?_
  refine v_iload_n 54 C dX9_rest_54 rfl (lv_at hl 2 rfl) ?_
  refine v_icmp_ge 55 111 C dX9_rest_55 (by decide) h (fun h => ?_) (fun h => ?_)
  · refine v_aload_n 111 C dX9_rest_111 rfl (lv_at hl 0 rfl) ?_
    refine v_getr 112 (1) C dX9_rest_112 fl_X9_7 rfl kM_0 rfl ?_
    refine v_sipush 115 C (v := (2798 : Int32)) dX9_rest_115 (by decide) ?_
    refine v_iload_n 118 C dX9_rest_118 rfl (lv_at hl 1 rfl) ?_
    refine v_iadd 119 C dX9_rest_119 h (fun v1 h => ?_)
    refine v_iald 120 C dX9_rest_120 kM_1 rfl h (fun v2 h => ?_)
    exact v_ireturn 121 C dX9_rest_121 h
  · refine v_aload_n 58 C dX9_rest_58 rfl (lv_at hl 0 rfl) ?_
    refine v_sipush 59 C (v := (2792 : Int32)) dX9_rest_59 (by decide) ?_
    obtain ⟨v3, S, hc, h⟩ := zb_e h
    refine v_callVv 62 C (ci := 8) [] dX9_rest_62 ml_X9_205 hy_X9_beginDay (c_X9_beginDay  hc) (by decide) rfl hl.1 kM_0 rfl (Nat.le_of_ble_eq_true rfl) rfl ?_
    refine v_iconst 65 C (v := (0 : Int32)) dX9_rest_65 (by decide) ?_
    refine v_istore 66 C [(6, .int (0 : Int32)), (0, .ref (w.2.2.1 0)), (1, .int x1), (2, .int x2), (3, .int x3), (5, .int x5)] dX9_rest_66 hl (by decide) rfl (fun ls hl => ?_)
    exact w_X9_rest_l68 C hc52 zF _ _ _ _ _ _ _ (lv_sub hl [1, 2, 3, 4, 5, 0] rfl) h
theorem w_X9_rest_l52 {w : zWd} {X : zX} {l0 : Launch} {r : Int32} {S1 : zMem} (C : zC LM w X l0 cX9_rest RX9 7 4 (some .int)) : ∀ (n : Nat) (x1 : Int32) (x2 : Int32) (x3 : Int32) (x5 : Int32) (S : zMem) (ls : Array Slot), lv_has ls 7 [(0, .ref (w.2.2.1 0)), (1, .int x1), (2, .int x2), (3, .int x3), (5, .int x5)] → X9_rest_l52 n x1 x2 x3 x5 S = some (r, S1) → zV LM w X (some (.int r)) S1 S 52 ls [] := by
  intro n
  induction n with
  | zero =>
    intro x1 x2 x3 x5 S ls hl h
    cases (show (none : Option (Int32 × zMem)) = some _ from h)
  | succ n ih =>
    intro x1 x2 x3 x5 S ls hl h
    exact w_X9_rest_b52 C ih hl h
set_option maxRecDepth 20000 in
theorem w_X9_rest_b0 {w : zWd} {X : zX} {l0 : Launch} {r : Int32} {S1 : zMem} (C : zC LM w X l0 cX9_rest RX9 7 4 (some .int)) {x1 : Int32} {x2 : Int32} {x3 : Int32} {S : zMem} {ls : Array Slot} (hl : lv_has ls 7 [(0, .ref (w.2.2.1 0)), (1, .int x1), (2, .int x2), (3, .int x3)]) (h : X9_rest_b0 x1 x2 x3 S = some (r, S1)) : zV LM w X (some (.int r)) S1 S 0 ls [] := by
  unfold X9_rest_b0 at h
  refine v_aload_n 0 C dX9_rest_0 rfl (lv_at hl 0 rfl) ?_
  refine v_iload_n 1 C dX9_rest_1 rfl (lv_at hl 1 rfl) ?_
  obtain ⟨v1, S, hc, h⟩ := zb_e h
  refine v_callVi 2 C (ci := 8) [] dX9_rest_2 ml_X9_168 hy_X9_isHouse (c_X9_isHouse  hc) (by decide) rfl hl.1 kM_0 rfl (Nat.le_of_ble_eq_true rfl) rfl ?_
  refine v_if_eq 5 27 C dX9_rest_5 (by decide) h (fun h => ?_) (fun h => ?_)
  · exact w_X9_rest_b27 C (lv_sub hl [] rfl) h
  · refine v_iload_n 8 C dX9_rest_8 rfl (lv_at hl 2 rfl) ?_
    refine v_i2l 9 C dX9_rest_9 h (fun v2 h => ?_)
    refine v_lconst 10 C (v := 0) dX9_rest_10 (by decide) ?_
    refine v_ldc2 11 C (v := 20) dX9_rest_11 co_X9_230 ?_
    obtain ⟨v3, S, hc, h⟩ := zb_e h
    refine v_callSi 14 C [] dX9_rest_14 ml_X9_65 hy_X9_in (c_X9_in  hc) (by decide) rfl hl.1 (Nat.le_of_ble_eq_true rfl) rfl ?_
    refine v_if_eq 17 27 C dX9_rest_17 (by decide) h (fun h => ?_) (fun h => ?_)
    · exact w_X9_rest_b27 C (lv_sub hl [] rfl) h
    · refine v_iload_n 20 C dX9_rest_20 rfl (lv_at hl 3 rfl) ?_
      obtain ⟨v4, S, hc, h⟩ := zb_e h
      refine v_callSi 21 C [] dX9_rest_21 ml_X9_71 hy_X9_isRow (c_X9_isRow  hc) (by decide) rfl hl.1 (Nat.le_of_ble_eq_true rfl) rfl ?_
      refine v_if_ne 24 29 C dX9_rest_24 (by decide) h (fun h => ?_) (fun h => ?_)
      · refine v_aload_n 29 C dX9_rest_29 rfl (lv_at hl 0 rfl) ?_
        refine v_iload_n 30 C dX9_rest_30 rfl (lv_at hl 3 rfl) ?_
        refine v_iconst 31 C (v := (0 : Int32)) dX9_rest_31 (by decide) ?_
        obtain ⟨v5, S, hc, h⟩ := zb_e h
        refine v_callVi 32 C (ci := 8) [] dX9_rest_32 ml_X9_232 hy_X9_noLetters (c_X9_noLetters  hc) (by decide) rfl hl.1 kM_0 rfl (Nat.le_of_ble_eq_true rfl) rfl ?_
        refine v_istore 35 C [(4, .int v5), (0, .ref (w.2.2.1 0)), (1, .int x1), (2, .int x2), (3, .int x3)] dX9_rest_35 hl (by decide) rfl (fun ls hl => ?_)
        refine v_iload 37 C dX9_rest_37 (lv_at hl 0 rfl) ?_
        refine v_if_eq 39 45 C dX9_rest_39 (by decide) h (fun h => ?_) (fun h => ?_)
        · refine v_aload_n 45 C dX9_rest_45 rfl (lv_at hl 1 rfl) ?_
          obtain ⟨v6, S, hc, h⟩ := zb_e h
          refine v_callVv 46 C (ci := 8) [] dX9_rest_46 ml_X9_180 hy_X9_layTried (c_X9_layTried  hc) (by decide) rfl hl.1 kM_0 rfl (Nat.le_of_ble_eq_true rfl) rfl ?_
          refine v_iconst 49 C (v := (0 : Int32)) dX9_rest_49 (by decide) ?_
          refine v_istore 50 C [(5, .int (0 : Int32)), (4, .int v5), (0, .ref (w.2.2.1 0)), (1, .int x1), (2, .int x2), (3, .int x3)] dX9_rest_50 hl (by decide) rfl (fun ls hl => ?_)
          exact w_X9_rest_l52 C zF _ _ _ _ _ _ (lv_sub hl [2, 3, 4, 5, 0] rfl) h
        · refine v_iload 42 C dX9_rest_42 (lv_at hl 0 rfl) ?_
          exact v_ireturn 44 C dX9_rest_44 h
      · exact w_X9_rest_b27 C (lv_sub hl [] rfl) h
theorem c_X9_rest {w : zWd} {l0 : Launch} {x1 : Int32} {x2 : Int32} {x3 : Int32} {S S1 : zMem} {r : Int32} (h : f_X9_rest x1 x2 x3 S = some (r, S1)) : zMet LM w l0 yX9_rest cX9_rest 7 (some .int) 4 [.ref (w.2.2.1 0), .int x1, .int x2, .int x3] S (some (.int r)) S1 :=
  zMet_of (by decide +kernel) (Nat.le_of_ble_eq_true rfl) (fun X ls C hl => w_X9_rest_b0 C hl h)
theorem dX9_noPairs_0 : decode cX9_noPairs 0 = .ok (.aload_n 0, 1) := by decide +kernel
theorem dX9_noPairs_1 : decode cX9_noPairs 1 = .ok (.getfield 22, 3) := by decide +kernel
theorem dX9_noPairs_4 : decode cX9_noPairs 4 = .ok (.iload_n 1, 1) := by decide +kernel
theorem dX9_noPairs_5 : decode cX9_noPairs 5 = .ok (.iaload, 1) := by decide +kernel
theorem dX9_noPairs_6 : decode cX9_noPairs 6 = .ok (.ifCond .ge 9, 3) := by decide +kernel
theorem dX9_noPairs_9 : decode cX9_noPairs 9 = .ok (.aload_n 0, 1) := by decide +kernel
theorem dX9_noPairs_10 : decode cX9_noPairs 10 = .ok (.iconst 1, 1) := by decide +kernel
theorem dX9_noPairs_11 : decode cX9_noPairs 11 = .ok (.invokevirtual 75, 3) := by decide +kernel
theorem dX9_noPairs_14 : decode cX9_noPairs 14 = .ok (.ireturn, 1) := by decide +kernel
theorem dX9_noPairs_15 : decode cX9_noPairs 15 = .ok (.aload_n 0, 1) := by decide +kernel
theorem dX9_noPairs_16 : decode cX9_noPairs 16 = .ok (.getfield 22, 3) := by decide +kernel
theorem dX9_noPairs_19 : decode cX9_noPairs 19 = .ok (.iload_n 1, 1) := by decide +kernel
theorem dX9_noPairs_20 : decode cX9_noPairs 20 = .ok (.iaload, 1) := by decide +kernel
theorem dX9_noPairs_21 : decode cX9_noPairs 21 = .ok (.bipush 16, 2) := by decide +kernel
theorem dX9_noPairs_23 : decode cX9_noPairs 23 = .ok (.if_icmp .gt 15, 3) := by decide +kernel
theorem dX9_noPairs_26 : decode cX9_noPairs 26 = .ok (.aload_n 0, 1) := by decide +kernel
theorem dX9_noPairs_27 : decode cX9_noPairs 27 = .ok (.getfield 22, 3) := by decide +kernel
theorem dX9_noPairs_30 : decode cX9_noPairs 30 = .ok (.iload_n 1, 1) := by decide +kernel
theorem dX9_noPairs_31 : decode cX9_noPairs 31 = .ok (.iaload, 1) := by decide +kernel
theorem dX9_noPairs_32 : decode cX9_noPairs 32 = .ok (.iconst 2, 1) := by decide +kernel
theorem dX9_noPairs_33 : decode cX9_noPairs 33 = .ok (.irem, 1) := by decide +kernel
theorem dX9_noPairs_34 : decode cX9_noPairs 34 = .ok (.iconst 1, 1) := by decide +kernel
theorem dX9_noPairs_35 : decode cX9_noPairs 35 = .ok (.if_icmp .ne 9, 3) := by decide +kernel
theorem dX9_noPairs_38 : decode cX9_noPairs 38 = .ok (.aload_n 0, 1) := by decide +kernel
theorem dX9_noPairs_39 : decode cX9_noPairs 39 = .ok (.iconst 5, 1) := by decide +kernel
theorem dX9_noPairs_40 : decode cX9_noPairs 40 = .ok (.invokevirtual 75, 3) := by decide +kernel
theorem dX9_noPairs_43 : decode cX9_noPairs 43 = .ok (.ireturn, 1) := by decide +kernel
theorem dX9_noPairs_44 : decode cX9_noPairs 44 = .ok (.iconst 1, 1) := by decide +kernel
theorem dX9_noPairs_45 : decode cX9_noPairs 45 = .ok (.istore_n 2, 1) := by decide +kernel
theorem dX9_noPairs_46 : decode cX9_noPairs 46 = .ok (.iconst 0, 1) := by decide +kernel
theorem dX9_noPairs_47 : decode cX9_noPairs 47 = .ok (.istore_n 3, 1) := by decide +kernel
theorem dX9_noPairs_48 : decode cX9_noPairs 48 = .ok (.iload_n 3, 1) := by decide +kernel
theorem dX9_noPairs_49 : decode cX9_noPairs 49 = .ok (.aload_n 0, 1) := by decide +kernel
theorem dX9_noPairs_50 : decode cX9_noPairs 50 = .ok (.getfield 22, 3) := by decide +kernel
theorem dX9_noPairs_53 : decode cX9_noPairs 53 = .ok (.iload_n 1, 1) := by decide +kernel
theorem dX9_noPairs_54 : decode cX9_noPairs 54 = .ok (.iaload, 1) := by decide +kernel
theorem dX9_noPairs_55 : decode cX9_noPairs 55 = .ok (.if_icmp .ge 41, 3) := by decide +kernel
theorem dX9_noPairs_58 : decode cX9_noPairs 58 = .ok (.iload_n 2, 1) := by decide +kernel
theorem dX9_noPairs_59 : decode cX9_noPairs 59 = .ok (.ifCond .eq 29, 3) := by decide +kernel
theorem dX9_noPairs_62 : decode cX9_noPairs 62 = .ok (.aload_n 0, 1) := by decide +kernel
theorem dX9_noPairs_63 : decode cX9_noPairs 63 = .ok (.getfield 25, 3) := by decide +kernel
theorem dX9_noPairs_66 : decode cX9_noPairs 66 = .ok (.bipush 40, 2) := by decide +kernel
theorem dX9_noPairs_68 : decode cX9_noPairs 68 = .ok (.iload_n 1, 1) := by decide +kernel
theorem dX9_noPairs_69 : decode cX9_noPairs 69 = .ok (.imul, 1) := by decide +kernel
theorem dX9_noPairs_70 : decode cX9_noPairs 70 = .ok (.iload_n 3, 1) := by decide +kernel
theorem dX9_noPairs_71 : decode cX9_noPairs 71 = .ok (.iadd, 1) := by decide +kernel
theorem dX9_noPairs_72 : decode cX9_noPairs 72 = .ok (.iaload, 1) := by decide +kernel
theorem dX9_noPairs_73 : decode cX9_noPairs 73 = .ok (.i2l, 1) := by decide +kernel
theorem dX9_noPairs_74 : decode cX9_noPairs 74 = .ok (.lconst 0, 1) := by decide +kernel
theorem dX9_noPairs_75 : decode cX9_noPairs 75 = .ok (.ldc2_w 200, 3) := by decide +kernel
theorem dX9_noPairs_78 : decode cX9_noPairs 78 = .ok (.invokestatic 65, 3) := by decide +kernel
theorem dX9_noPairs_81 : decode cX9_noPairs 81 = .ok (.ifCond .eq 7, 3) := by decide +kernel
theorem dX9_noPairs_84 : decode cX9_noPairs 84 = .ok (.iconst 1, 1) := by decide +kernel
theorem dX9_noPairs_85 : decode cX9_noPairs 85 = .ok (.goto 4, 3) := by decide +kernel
theorem dX9_noPairs_88 : decode cX9_noPairs 88 = .ok (.iconst 0, 1) := by decide +kernel
theorem dX9_noPairs_89 : decode cX9_noPairs 89 = .ok (.istore_n 2, 1) := by decide +kernel
theorem dX9_noPairs_90 : decode cX9_noPairs 90 = .ok (.iinc 3 1, 3) := by decide +kernel
theorem dX9_noPairs_93 : decode cX9_noPairs 93 = .ok (.goto (-45), 3) := by decide +kernel
theorem dX9_noPairs_96 : decode cX9_noPairs 96 = .ok (.iload_n 2, 1) := by decide +kernel
theorem dX9_noPairs_97 : decode cX9_noPairs 97 = .ok (.ifCond .eq 7, 3) := by decide +kernel
theorem dX9_noPairs_100 : decode cX9_noPairs 100 = .ok (.iconst 0, 1) := by decide +kernel
theorem dX9_noPairs_101 : decode cX9_noPairs 101 = .ok (.goto 8, 3) := by decide +kernel
theorem dX9_noPairs_104 : decode cX9_noPairs 104 = .ok (.aload_n 0, 1) := by decide +kernel
theorem dX9_noPairs_105 : decode cX9_noPairs 105 = .ok (.iconst 3, 1) := by decide +kernel
theorem dX9_noPairs_106 : decode cX9_noPairs 106 = .ok (.invokevirtual 75, 3) := by decide +kernel
theorem dX9_noPairs_109 : decode cX9_noPairs 109 = .ok (.ireturn, 1) := by decide +kernel
set_option maxRecDepth 20000 in
theorem w_X9_noPairs_b38 {w : zWd} {X : zX} {l0 : Launch} {r : Int32} {S1 : zMem} (C : zC LM w X l0 cX9_noPairs RX9 4 2 (some .int)) {S : zMem} {ls : Array Slot} (hl : lv_has ls 4 [(0, .ref (w.2.2.1 0))]) (h : X9_noPairs_b38  S = some (r, S1)) : zV LM w X (some (.int r)) S1 S 38 ls [] := by
  unfold X9_noPairs_b38 at h
  refine v_aload_n 38 C dX9_noPairs_38 rfl (lv_at hl 0 rfl) ?_
  refine v_iconst 39 C (v := (5 : Int32)) dX9_noPairs_39 (by decide) ?_
  obtain ⟨v1, S, hc, h⟩ := zb_e h
  refine v_callVi 40 C (ci := 8) [] dX9_noPairs_40 ml_X9_75 hy_X9_find (c_X9_find  hc) (by decide) rfl hl.1 kM_0 rfl (Nat.le_of_ble_eq_true rfl) rfl ?_
  exact v_ireturn 43 C dX9_noPairs_43 h
set_option maxRecDepth 20000 in
theorem w_X9_noPairs_b89 {w : zWd} {X : zX} {l0 : Launch} {r : Int32} {S1 : zMem} (C : zC LM w X l0 cX9_noPairs RX9 4 2 (some .int)) {k48 : Int32 → Int32 → Int32 → zMem → Option (Int32 × zMem)} (hc48 : ∀ (x1 : Int32) (x2 : Int32) (x3 : Int32) (S : zMem) (ls : Array Slot), lv_has ls 4 [(0, .ref (w.2.2.1 0)), (1, .int x1), (2, .int x2), (3, .int x3)] → k48 x1 x2 x3 S = some (r, S1) → zV LM w X (some (.int r)) S1 S 48 ls []) {x1 : Int32} {x3 : Int32} {s0 : Int32} {S : zMem} {ls : Array Slot} (hl : lv_has ls 4 [(0, .ref (w.2.2.1 0)), (1, .int x1), (3, .int x3)]) (h : X9_noPairs_b89 k48 x1 x3 s0 S = some (r, S1)) : zV LM w X (some (.int r)) S1 S 89 ls [.int s0] := by
  unfold X9_noPairs_b89 at h
  refine v_istore_n 89 C [(2, .int s0), (0, .ref (w.2.2.1 0)), (1, .int x1), (3, .int x3)] dX9_noPairs_89 rfl hl (by decide) rfl (fun ls hl => ?_)
  refine v_iinc 90 C (nn := (1 : Int32)) (fun v => [(3, .int v), (2, .int s0), (0, .ref (w.2.2.1 0)), (1, .int x1)]) dX9_noPairs_90 hl (k := 3) rfl (by decide) (by decide) (fun _ => rfl) h (fun v1 ls hl h => ?_)
  refine v_goto 93 48 C dX9_noPairs_93 (by decide) ?_
  exact hc48 _ _ _ _ _ (lv_sub hl [2, 3, 1, 0] rfl) h
set_option maxRecDepth 20000 in
theorem w_X9_noPairs_b88 {w : zWd} {X : zX} {l0 : Launch} {r : Int32} {S1 : zMem} (C : zC LM w X l0 cX9_noPairs RX9 4 2 (some .int)) {k48 : Int32 → Int32 → Int32 → zMem → Option (Int32 × zMem)} (hc48 : ∀ (x1 : Int32) (x2 : Int32) (x3 : Int32) (S : zMem) (ls : Array Slot), lv_has ls 4 [(0, .ref (w.2.2.1 0)), (1, .int x1), (2, .int x2), (3, .int x3)] → k48 x1 x2 x3 S = some (r, S1) → zV LM w X (some (.int r)) S1 S 48 ls []) {x1 : Int32} {x3 : Int32} {S : zMem} {ls : Array Slot} (hl : lv_has ls 4 [(0, .ref (w.2.2.1 0)), (1, .int x1), (3, .int x3)]) (h : X9_noPairs_b88 k48 x1 x3 S = some (r, S1)) : zV LM w X (some (.int r)) S1 S 88 ls [] := by
  unfold X9_noPairs_b88 at h
  refine v_iconst 88 C (v := (0 : Int32)) dX9_noPairs_88 (by decide) ?_
  exact w_X9_noPairs_b89 C hc48 (lv_sub hl [0, 1, 2] rfl) h
set_option maxRecDepth 20000 in
theorem w_X9_noPairs_b109 {w : zWd} {X : zX} {l0 : Launch} {r : Int32} {S1 : zMem} (C : zC LM w X l0 cX9_noPairs RX9 4 2 (some .int)) {s0 : Int32} {S : zMem} {ls : Array Slot} (hl : lv_has ls 4 []) (h : X9_noPairs_b109 s0 S = some (r, S1)) : zV LM w X (some (.int r)) S1 S 109 ls [.int s0] := by
  unfold X9_noPairs_b109 at h
  exact v_ireturn 109 C dX9_noPairs_109 h
set_option maxRecDepth 20000 in
theorem w_X9_noPairs_b48 {w : zWd} {X : zX} {l0 : Launch} {r : Int32} {S1 : zMem} (C : zC LM w X l0 cX9_noPairs RX9 4 2 (some .int)) {k48 : Int32 → Int32 → Int32 → zMem → Option (Int32 × zMem)} (hc48 : ∀ (x1 : Int32) (x2 : Int32) (x3 : Int32) (S : zMem) (ls : Array Slot), lv_has ls 4 [(0, .ref (w.2.2.1 0)), (1, .int x1), (2, .int x2), (3, .int x3)] → k48 x1 x2 x3 S = some (r, S1) → zV LM w X (some (.int r)) S1 S 48 ls []) {x1 : Int32} {x2 : Int32} {x3 : Int32} {S : zMem} {ls : Array Slot} (hl : lv_has ls 4 [(0, .ref (w.2.2.1 0)), (1, .int x1), (2, .int x2), (3, .int x3)]) (h : X9_noPairs_b48 k48 x1 x2 x3 S = some (r, S1)) : zV LM w X (some (.int r)) S1 S 48 ls [] := by
  unfold X9_noPairs_b48 at h
  refine v_iload_n 48 C dX9_noPairs_48 rfl (lv_at hl 3 rfl) ?_
  refine v_aload_n 49 C dX9_noPairs_49 rfl (lv_at hl 0 rfl) ?_
  refine v_getr 50 (5) C dX9_noPairs_50 fl_X9_22 rfl kM_0 rfl ?_
  refine v_iload_n 53 C dX9_noPairs_53 rfl (lv_at hl 1 rfl) ?_
  refine v_iald 54 C dX9_noPairs_54 kM_5 rfl h (fun v1 h => ?_)
  refine v_icmp_ge 55 96 C dX9_noPairs_55 (by decide) h (fun h => ?_) (fun h => ?_)
  · refine v_iload_n 96 C dX9_noPairs_96 rfl (lv_at hl 2 rfl) ?_
    refine v_if_eq 97 104 C dX9_noPairs_97 (by decide) h (fun h => ?_) (fun h => ?_)
    · refine v_aload_n 104 C dX9_noPairs_104 rfl (lv_at hl 0 rfl) ?_
      refine v_iconst 105 C (v := (3 : Int32)) dX9_noPairs_105 (by decide) ?_
      obtain ⟨v2, S, hc, h⟩ := zb_e h
      refine v_callVi 106 C (ci := 8) [] dX9_noPairs_106 ml_X9_75 hy_X9_find (c_X9_find  hc) (by decide) rfl hl.1 kM_0 rfl (Nat.le_of_ble_eq_true rfl) rfl ?_
      exact w_X9_noPairs_b109 C (lv_sub hl [] rfl) h
    · refine v_iconst 100 C (v := (0 : Int32)) dX9_noPairs_100 (by decide) ?_
      refine v_goto 101 109 C dX9_noPairs_101 (by decide) ?_
      exact w_X9_noPairs_b109 C (lv_sub hl [] rfl) h
  · refine v_iload_n 58 C dX9_noPairs_58 rfl (lv_at hl 2 rfl) ?_
    refine v_if_eq 59 88 C dX9_noPairs_59 (by decide) h (fun h => ?_) (fun h => ?_)
    · exact w_X9_noPairs_b88 C hc48 (lv_sub hl [0, 1, 3] rfl) h
    · refine v_aload_n 62 C dX9_noPairs_62 rfl (lv_at hl 0 rfl) ?_
      refine v_getr 63 (6) C dX9_noPairs_63 fl_X9_25 rfl kM_0 rfl ?_
      refine v_bipush 66 C (v := (40 : Int32)) dX9_noPairs_66 (by decide) ?_
      refine v_iload_n 68 C dX9_noPairs_68 rfl (lv_at hl 1 rfl) ?_
      refine v_imul 69 C dX9_noPairs_69 h (fun v3 h => ?_)
      refine v_iload_n 70 C dX9_noPairs_70 rfl (lv_at hl 3 rfl) ?_
      refine v_iadd 71 C dX9_noPairs_71 h (fun v4 h => ?_)
      refine v_iald 72 C dX9_noPairs_72 kM_6 rfl h (fun v5 h => ?_)
      refine v_i2l 73 C dX9_noPairs_73 h (fun v6 h => ?_)
      refine v_lconst 74 C (v := 0) dX9_noPairs_74 (by decide) ?_
      refine v_ldc2 75 C (v := 9) dX9_noPairs_75 co_X9_200 ?_
      obtain ⟨v7, S, hc, h⟩ := zb_e h
      refine v_callSi 78 C [] dX9_noPairs_78 ml_X9_65 hy_X9_in (c_X9_in  hc) (by decide) rfl hl.1 (Nat.le_of_ble_eq_true rfl) rfl ?_
      refine v_if_eq 81 88 C dX9_noPairs_81 (by decide) h (fun h => ?_) (fun h => ?_)
      · exact w_X9_noPairs_b88 C hc48 (lv_sub hl [0, 1, 3] rfl) h
      · refine v_iconst 84 C (v := (1 : Int32)) dX9_noPairs_84 (by decide) ?_
        refine v_goto 85 89 C dX9_noPairs_85 (by decide) ?_
        exact w_X9_noPairs_b89 C hc48 (lv_sub hl [0, 1, 3] rfl) h
theorem w_X9_noPairs_l48 {w : zWd} {X : zX} {l0 : Launch} {r : Int32} {S1 : zMem} (C : zC LM w X l0 cX9_noPairs RX9 4 2 (some .int)) : ∀ (n : Nat) (x1 : Int32) (x2 : Int32) (x3 : Int32) (S : zMem) (ls : Array Slot), lv_has ls 4 [(0, .ref (w.2.2.1 0)), (1, .int x1), (2, .int x2), (3, .int x3)] → X9_noPairs_l48 n x1 x2 x3 S = some (r, S1) → zV LM w X (some (.int r)) S1 S 48 ls [] := by
  intro n
  induction n with
  | zero =>
    intro x1 x2 x3 S ls hl h
    cases (show (none : Option (Int32 × zMem)) = some _ from h)
  | succ n ih =>
    intro x1 x2 x3 S ls hl h
    exact w_X9_noPairs_b48 C ih hl h
set_option maxRecDepth 20000 in
theorem w_X9_noPairs_b0 {w : zWd} {X : zX} {l0 : Launch} {r : Int32} {S1 : zMem} (C : zC LM w X l0 cX9_noPairs RX9 4 2 (some .int)) {x1 : Int32} {S : zMem} {ls : Array Slot} (hl : lv_has ls 4 [(0, .ref (w.2.2.1 0)), (1, .int x1)]) (h : X9_noPairs_b0 x1 S = some (r, S1)) : zV LM w X (some (.int r)) S1 S 0 ls [] := by
  unfold X9_noPairs_b0 at h
  refine v_aload_n 0 C dX9_noPairs_0 rfl (lv_at hl 0 rfl) ?_
  refine v_getr 1 (5) C dX9_noPairs_1 fl_X9_22 rfl kM_0 rfl ?_
  refine v_iload_n 4 C dX9_noPairs_4 rfl (lv_at hl 1 rfl) ?_
  refine v_iald 5 C dX9_noPairs_5 kM_5 rfl h (fun v1 h => ?_)
  refine v_if_ge 6 15 C dX9_noPairs_6 (by decide) h (fun h => ?_) (fun h => ?_)
  · refine v_aload_n 15 C dX9_noPairs_15 rfl (lv_at hl 0 rfl) ?_
    refine v_getr 16 (5) C dX9_noPairs_16 fl_X9_22 rfl kM_0 rfl ?_
    refine v_iload_n 19 C dX9_noPairs_19 rfl (lv_at hl 1 rfl) ?_
    refine v_iald 20 C dX9_noPairs_20 kM_5 rfl h (fun v2 h => ?_)
    refine v_bipush 21 C (v := (16 : Int32)) dX9_noPairs_21 (by decide) ?_
    refine v_icmp_gt 23 38 C dX9_noPairs_23 (by decide) h (fun h => ?_) (fun h => ?_)
    · exact w_X9_noPairs_b38 C (lv_sub hl [0] rfl) h
    · refine v_aload_n 26 C dX9_noPairs_26 rfl (lv_at hl 0 rfl) ?_
      refine v_getr 27 (5) C dX9_noPairs_27 fl_X9_22 rfl kM_0 rfl ?_
      refine v_iload_n 30 C dX9_noPairs_30 rfl (lv_at hl 1 rfl) ?_
      refine v_iald 31 C dX9_noPairs_31 kM_5 rfl h (fun v3 h => ?_)
      refine v_iconst 32 C (v := (2 : Int32)) dX9_noPairs_32 (by decide) ?_
      refine v_irem 33 C dX9_noPairs_33 (by decide) h (fun v4 h => ?_)
      refine v_iconst 34 C (v := (1 : Int32)) dX9_noPairs_34 (by decide) ?_
      refine v_icmp_ne 35 44 C dX9_noPairs_35 (by decide) h (fun h => ?_) (fun h => ?_)
      · refine v_iconst 44 C (v := (1 : Int32)) dX9_noPairs_44 (by decide) ?_
        refine v_istore_n 45 C [(2, .int (1 : Int32)), (0, .ref (w.2.2.1 0)), (1, .int x1)] dX9_noPairs_45 rfl hl (by decide) rfl (fun ls hl => ?_)
        refine v_iconst 46 C (v := (0 : Int32)) dX9_noPairs_46 (by decide) ?_
        refine v_istore_n 47 C [(3, .int (0 : Int32)), (2, .int (1 : Int32)), (0, .ref (w.2.2.1 0)), (1, .int x1)] dX9_noPairs_47 rfl hl (by decide) rfl (fun ls hl => ?_)
        exact w_X9_noPairs_l48 C zF _ _ _ _ _ (lv_sub hl [2, 3, 1, 0] rfl) h
      · exact w_X9_noPairs_b38 C (lv_sub hl [0] rfl) h
  · refine v_aload_n 9 C dX9_noPairs_9 rfl (lv_at hl 0 rfl) ?_
    refine v_iconst 10 C (v := (1 : Int32)) dX9_noPairs_10 (by decide) ?_
    obtain ⟨v5, S, hc, h⟩ := zb_e h
    refine v_callVi 11 C (ci := 8) [] dX9_noPairs_11 ml_X9_75 hy_X9_find (c_X9_find  hc) (by decide) rfl hl.1 kM_0 rfl (Nat.le_of_ble_eq_true rfl) rfl ?_
    exact v_ireturn 14 C dX9_noPairs_14 h
theorem c_X9_noPairs {w : zWd} {l0 : Launch} {x1 : Int32} {S S1 : zMem} {r : Int32} (h : f_X9_noPairs x1 S = some (r, S1)) : zMet LM w l0 yX9_noPairs cX9_noPairs 4 (some .int) 2 [.ref (w.2.2.1 0), .int x1] S (some (.int r)) S1 :=
  zMet_of (by decide +kernel) (Nat.le_of_ble_eq_true rfl) (fun X ls C hl => w_X9_noPairs_b0 C hl h)
theorem dX9_isSo_0 : decode cX9_isSo 0 = .ok (.iconst 1, 1) := by decide +kernel
theorem dX9_isSo_1 : decode cX9_isSo 1 = .ok (.istore 4, 2) := by decide +kernel
theorem dX9_isSo_3 : decode cX9_isSo 3 = .ok (.iconst 0, 1) := by decide +kernel
theorem dX9_isSo_4 : decode cX9_isSo 4 = .ok (.istore 5, 2) := by decide +kernel
theorem dX9_isSo_6 : decode cX9_isSo 6 = .ok (.iload 5, 2) := by decide +kernel
theorem dX9_isSo_8 : decode cX9_isSo 8 = .ok (.aload_n 0, 1) := by decide +kernel
theorem dX9_isSo_9 : decode cX9_isSo 9 = .ok (.getfield 22, 3) := by decide +kernel
theorem dX9_isSo_12 : decode cX9_isSo 12 = .ok (.iload_n 3, 1) := by decide +kernel
theorem dX9_isSo_13 : decode cX9_isSo 13 = .ok (.iaload, 1) := by decide +kernel
theorem dX9_isSo_14 : decode cX9_isSo 14 = .ok (.if_icmp .ge 55, 3) := by decide +kernel
theorem dX9_isSo_17 : decode cX9_isSo 17 = .ok (.iload 4, 2) := by decide +kernel
theorem dX9_isSo_19 : decode cX9_isSo 19 = .ok (.ifCond .eq 41, 3) := by decide +kernel
theorem dX9_isSo_22 : decode cX9_isSo 22 = .ok (.iload_n 1, 1) := by decide +kernel
theorem dX9_isSo_23 : decode cX9_isSo 23 = .ok (.iload_n 2, 1) := by decide +kernel
theorem dX9_isSo_24 : decode cX9_isSo 24 = .ok (.aload_n 0, 1) := by decide +kernel
theorem dX9_isSo_25 : decode cX9_isSo 25 = .ok (.getfield 25, 3) := by decide +kernel
theorem dX9_isSo_28 : decode cX9_isSo 28 = .ok (.bipush 40, 2) := by decide +kernel
theorem dX9_isSo_30 : decode cX9_isSo 30 = .ok (.iload_n 3, 1) := by decide +kernel
theorem dX9_isSo_31 : decode cX9_isSo 31 = .ok (.imul, 1) := by decide +kernel
theorem dX9_isSo_32 : decode cX9_isSo 32 = .ok (.iload 5, 2) := by decide +kernel
theorem dX9_isSo_34 : decode cX9_isSo 34 = .ok (.iadd, 1) := by decide +kernel
theorem dX9_isSo_35 : decode cX9_isSo 35 = .ok (.iaload, 1) := by decide +kernel
theorem dX9_isSo_36 : decode cX9_isSo 36 = .ok (.invokestatic 161, 3) := by decide +kernel
theorem dX9_isSo_39 : decode cX9_isSo 39 = .ok (.aload_n 0, 1) := by decide +kernel
theorem dX9_isSo_40 : decode cX9_isSo 40 = .ok (.getfield 25, 3) := by decide +kernel
theorem dX9_isSo_43 : decode cX9_isSo 43 = .ok (.bipush 40, 2) := by decide +kernel
theorem dX9_isSo_45 : decode cX9_isSo 45 = .ok (.iload_n 3, 1) := by decide +kernel
theorem dX9_isSo_46 : decode cX9_isSo 46 = .ok (.imul, 1) := by decide +kernel
theorem dX9_isSo_47 : decode cX9_isSo 47 = .ok (.iload 5, 2) := by decide +kernel
theorem dX9_isSo_49 : decode cX9_isSo 49 = .ok (.iadd, 1) := by decide +kernel
theorem dX9_isSo_50 : decode cX9_isSo 50 = .ok (.iconst 1, 1) := by decide +kernel
theorem dX9_isSo_51 : decode cX9_isSo 51 = .ok (.iadd, 1) := by decide +kernel
theorem dX9_isSo_52 : decode cX9_isSo 52 = .ok (.iaload, 1) := by decide +kernel
theorem dX9_isSo_53 : decode cX9_isSo 53 = .ok (.if_icmp .ne 7, 3) := by decide +kernel
theorem dX9_isSo_56 : decode cX9_isSo 56 = .ok (.iconst 1, 1) := by decide +kernel
theorem dX9_isSo_57 : decode cX9_isSo 57 = .ok (.goto 4, 3) := by decide +kernel
theorem dX9_isSo_60 : decode cX9_isSo 60 = .ok (.iconst 0, 1) := by decide +kernel
theorem dX9_isSo_61 : decode cX9_isSo 61 = .ok (.istore 4, 2) := by decide +kernel
theorem dX9_isSo_63 : decode cX9_isSo 63 = .ok (.iinc 5 2, 3) := by decide +kernel
theorem dX9_isSo_66 : decode cX9_isSo 66 = .ok (.goto (-60), 3) := by decide +kernel
theorem dX9_isSo_69 : decode cX9_isSo 69 = .ok (.iload 4, 2) := by decide +kernel
theorem dX9_isSo_71 : decode cX9_isSo 71 = .ok (.ireturn, 1) := by decide +kernel
set_option maxRecDepth 20000 in
theorem w_X9_isSo_b61 {w : zWd} {X : zX} {l0 : Launch} {r : Int32} {S1 : zMem} (C : zC LM w X l0 cX9_isSo RX9 6 2 (some .boolean)) {k6 : Int32 → Int32 → Int32 → Int32 → Int32 → zMem → Option (Int32 × zMem)} (hc6 : ∀ (x1 : Int32) (x2 : Int32) (x3 : Int32) (x4 : Int32) (x5 : Int32) (S : zMem) (ls : Array Slot), lv_has ls 6 [(0, .ref (w.2.2.1 0)), (1, .int x1), (2, .int x2), (3, .int x3), (4, .int x4), (5, .int x5)] → k6 x1 x2 x3 x4 x5 S = some (r, S1) → zV LM w X (some (.int r)) S1 S 6 ls []) {x1 : Int32} {x2 : Int32} {x3 : Int32} {x5 : Int32} {s0 : Int32} {S : zMem} {ls : Array Slot} (hl : lv_has ls 6 [(0, .ref (w.2.2.1 0)), (1, .int x1), (2, .int x2), (3, .int x3), (5, .int x5)]) (h : X9_isSo_b61 k6 x1 x2 x3 x5 s0 S = some (r, S1)) : zV LM w X (some (.int r)) S1 S 61 ls [.int s0] := by
  unfold X9_isSo_b61 at h
  refine v_istore 61 C [(4, .int s0), (0, .ref (w.2.2.1 0)), (1, .int x1), (2, .int x2), (3, .int x3), (5, .int x5)] dX9_isSo_61 hl (by decide) rfl (fun ls hl => ?_)
  refine v_iinc 63 C (nn := (2 : Int32)) (fun v => [(5, .int v), (4, .int s0), (0, .ref (w.2.2.1 0)), (1, .int x1), (2, .int x2), (3, .int x3)]) dX9_isSo_63 hl (k := 5) rfl (by decide) (by decide) (fun _ => rfl) h (fun v1 ls hl h => ?_)
  refine v_goto 66 6 C dX9_isSo_66 (by decide) ?_
  exact hc6 _ _ _ _ _ _ _ (lv_sub hl [2, 3, 4, 5, 1, 0] rfl) h
set_option maxRecDepth 20000 in
theorem w_X9_isSo_b60 {w : zWd} {X : zX} {l0 : Launch} {r : Int32} {S1 : zMem} (C : zC LM w X l0 cX9_isSo RX9 6 2 (some .boolean)) {k6 : Int32 → Int32 → Int32 → Int32 → Int32 → zMem → Option (Int32 × zMem)} (hc6 : ∀ (x1 : Int32) (x2 : Int32) (x3 : Int32) (x4 : Int32) (x5 : Int32) (S : zMem) (ls : Array Slot), lv_has ls 6 [(0, .ref (w.2.2.1 0)), (1, .int x1), (2, .int x2), (3, .int x3), (4, .int x4), (5, .int x5)] → k6 x1 x2 x3 x4 x5 S = some (r, S1) → zV LM w X (some (.int r)) S1 S 6 ls []) {x1 : Int32} {x2 : Int32} {x3 : Int32} {x5 : Int32} {S : zMem} {ls : Array Slot} (hl : lv_has ls 6 [(0, .ref (w.2.2.1 0)), (1, .int x1), (2, .int x2), (3, .int x3), (5, .int x5)]) (h : X9_isSo_b60 k6 x1 x2 x3 x5 S = some (r, S1)) : zV LM w X (some (.int r)) S1 S 60 ls [] := by
  unfold X9_isSo_b60 at h
  refine v_iconst 60 C (v := (0 : Int32)) dX9_isSo_60 (by decide) ?_
  exact w_X9_isSo_b61 C hc6 (lv_sub hl [0, 1, 2, 3, 4] rfl) h
set_option maxRecDepth 20000 in
theorem w_X9_isSo_b6 {w : zWd} {X : zX} {l0 : Launch} {r : Int32} {S1 : zMem} (C : zC LM w X l0 cX9_isSo RX9 6 2 (some .boolean)) {k6 : Int32 → Int32 → Int32 → Int32 → Int32 → zMem → Option (Int32 × zMem)} (hc6 : ∀ (x1 : Int32) (x2 : Int32) (x3 : Int32) (x4 : Int32) (x5 : Int32) (S : zMem) (ls : Array Slot), lv_has ls 6 [(0, .ref (w.2.2.1 0)), (1, .int x1), (2, .int x2), (3, .int x3), (4, .int x4), (5, .int x5)] → k6 x1 x2 x3 x4 x5 S = some (r, S1) → zV LM w X (some (.int r)) S1 S 6 ls []) {x1 : Int32} {x2 : Int32} {x3 : Int32} {x4 : Int32} {x5 : Int32} {S : zMem} {ls : Array Slot} (hl : lv_has ls 6 [(0, .ref (w.2.2.1 0)), (1, .int x1), (2, .int x2), (3, .int x3), (4, .int x4), (5, .int x5)]) (h : X9_isSo_b6 k6 x1 x2 x3 x4 x5 S = some (r, S1)) : zV LM w X (some (.int r)) S1 S 6 ls [] := by
  unfold X9_isSo_b6 at h
  refine v_iload 6 C dX9_isSo_6 (lv_at hl 5 rfl) ?_
  refine v_aload_n 8 C dX9_isSo_8 rfl (lv_at hl 0 rfl) ?_
  refine v_getr 9 (5) C dX9_isSo_9 fl_X9_22 rfl kM_0 rfl ?_
  refine v_iload_n 12 C dX9_isSo_12 rfl (lv_at hl 3 rfl) ?_
  refine v_iald 13 C dX9_isSo_13 kM_5 rfl h (fun v1 h => ?_)
  refine v_icmp_ge 14 69 C dX9_isSo_14 (by decide) h (fun h => ?_) (fun h => ?_)
  · refine v_iload 69 C dX9_isSo_69 (lv_at hl 4 rfl) ?_
    exact v_zreturn 71 C dX9_isSo_71 h
  · refine v_iload 17 C dX9_isSo_17 (lv_at hl 4 rfl) ?_
    refine v_if_eq 19 60 C dX9_isSo_19 (by decide) h (fun h => ?_) (fun h => ?_)
    · exact w_X9_isSo_b60 C hc6 (lv_sub hl [0, 1, 2, 3, 5] rfl) h
    · refine v_iload_n 22 C dX9_isSo_22 rfl (lv_at hl 1 rfl) ?_
      refine v_iload_n 23 C dX9_isSo_23 rfl (lv_at hl 2 rfl) ?_
      refine v_aload_n 24 C dX9_isSo_24 rfl (lv_at hl 0 rfl) ?_
      refine v_getr 25 (6) C dX9_isSo_25 fl_X9_25 rfl kM_0 rfl ?_
      refine v_bipush 28 C (v := (40 : Int32)) dX9_isSo_28 (by decide) ?_
      refine v_iload_n 30 C dX9_isSo_30 rfl (lv_at hl 3 rfl) ?_
      refine v_imul 31 C dX9_isSo_31 h (fun v2 h => ?_)
      refine v_iload 32 C dX9_isSo_32 (lv_at hl 5 rfl) ?_
      refine v_iadd 34 C dX9_isSo_34 h (fun v3 h => ?_)
      refine v_iald 35 C dX9_isSo_35 kM_6 rfl h (fun v4 h => ?_)
      obtain ⟨v5, S, hc, h⟩ := zb_e h
      refine v_callSi 36 C [] dX9_isSo_36 ml_X9_161 hy_X9_endsBy (c_X9_endsBy  hc) (by decide) rfl hl.1 (Nat.le_of_ble_eq_true rfl) rfl ?_
      refine v_aload_n 39 C dX9_isSo_39 rfl (lv_at hl 0 rfl) ?_
      refine v_getr 40 (6) C dX9_isSo_40 fl_X9_25 rfl kM_0 rfl ?_
      refine v_bipush 43 C (v := (40 : Int32)) dX9_isSo_43 (by decide) ?_
      refine v_iload_n 45 C dX9_isSo_45 rfl (lv_at hl 3 rfl) ?_
      refine v_imul 46 C dX9_isSo_46 h (fun v6 h => ?_)
      refine v_iload 47 C dX9_isSo_47 (lv_at hl 5 rfl) ?_
      refine v_iadd 49 C dX9_isSo_49 h (fun v7 h => ?_)
      refine v_iconst 50 C (v := (1 : Int32)) dX9_isSo_50 (by decide) ?_
      refine v_iadd 51 C dX9_isSo_51 h (fun v8 h => ?_)
      refine v_iald 52 C dX9_isSo_52 kM_6 rfl h (fun v9 h => ?_)
      refine v_icmp_ne 53 60 C dX9_isSo_53 (by decide) h (fun h => ?_) (fun h => ?_)
      · exact w_X9_isSo_b60 C hc6 (lv_sub hl [0, 1, 2, 3, 5] rfl) h
      · refine v_iconst 56 C (v := (1 : Int32)) dX9_isSo_56 (by decide) ?_
        refine v_goto 57 61 C dX9_isSo_57 (by decide) ?_
        exact w_X9_isSo_b61 C hc6 (lv_sub hl [0, 1, 2, 3, 5] rfl) h
theorem w_X9_isSo_l6 {w : zWd} {X : zX} {l0 : Launch} {r : Int32} {S1 : zMem} (C : zC LM w X l0 cX9_isSo RX9 6 2 (some .boolean)) : ∀ (n : Nat) (x1 : Int32) (x2 : Int32) (x3 : Int32) (x4 : Int32) (x5 : Int32) (S : zMem) (ls : Array Slot), lv_has ls 6 [(0, .ref (w.2.2.1 0)), (1, .int x1), (2, .int x2), (3, .int x3), (4, .int x4), (5, .int x5)] → X9_isSo_l6 n x1 x2 x3 x4 x5 S = some (r, S1) → zV LM w X (some (.int r)) S1 S 6 ls [] := by
  intro n
  induction n with
  | zero =>
    intro x1 x2 x3 x4 x5 S ls hl h
    cases (show (none : Option (Int32 × zMem)) = some _ from h)
  | succ n ih =>
    intro x1 x2 x3 x4 x5 S ls hl h
    exact w_X9_isSo_b6 C ih hl h
set_option maxRecDepth 20000 in
theorem w_X9_isSo_b0 {w : zWd} {X : zX} {l0 : Launch} {r : Int32} {S1 : zMem} (C : zC LM w X l0 cX9_isSo RX9 6 2 (some .boolean)) {x1 : Int32} {x2 : Int32} {x3 : Int32} {S : zMem} {ls : Array Slot} (hl : lv_has ls 6 [(0, .ref (w.2.2.1 0)), (1, .int x1), (2, .int x2), (3, .int x3)]) (h : X9_isSo_b0 x1 x2 x3 S = some (r, S1)) : zV LM w X (some (.int r)) S1 S 0 ls [] := by
  unfold X9_isSo_b0 at h
  refine v_iconst 0 C (v := (1 : Int32)) dX9_isSo_0 (by decide) ?_
  refine v_istore 1 C [(4, .int (1 : Int32)), (0, .ref (w.2.2.1 0)), (1, .int x1), (2, .int x2), (3, .int x3)] dX9_isSo_1 hl (by decide) rfl (fun ls hl => ?_)
  refine v_iconst 3 C (v := (0 : Int32)) dX9_isSo_3 (by decide) ?_
  refine v_istore 4 C [(5, .int (0 : Int32)), (4, .int (1 : Int32)), (0, .ref (w.2.2.1 0)), (1, .int x1), (2, .int x2), (3, .int x3)] dX9_isSo_4 hl (by decide) rfl (fun ls hl => ?_)
  exact w_X9_isSo_l6 C zF _ _ _ _ _ _ _ (lv_sub hl [2, 3, 4, 5, 1, 0] rfl) h
theorem c_X9_isSo {w : zWd} {l0 : Launch} {x1 : Int32} {x2 : Int32} {x3 : Int32} {S S1 : zMem} {r : Int32} (h : f_X9_isSo x1 x2 x3 S = some (r, S1)) : zMet LM w l0 yX9_isSo cX9_isSo 6 (some .boolean) 2 [.ref (w.2.2.1 0), .int x1, .int x2, .int x3] S (some (.int r)) S1 :=
  zMet_of (by decide +kernel) (Nat.le_of_ble_eq_true rfl) (fun X ls C hl => w_X9_isSo_b0 C hl h)
theorem ml_X9_235 : Cond.methodLink RX9 235 yX9_isSo ∈ zT := zT_of (List.mem_of_getElem? (i := 1227) (by decide +kernel)) rfl
theorem hy_X9_isSo : zYv yX9_isSo cX9_isSo 6 (some .boolean) 3 := ⟨⟨zT_of (List.mem_of_getElem? (i := 1230) (by decide +kernel)) rfl, zT_of (List.mem_of_getElem? (i := 78) (by decide +kernel)) rfl, by decide, by decide +kernel, by decide +kernel, by decide +kernel⟩, zT_of (List.mem_of_getElem? (i := 1229) (by decide +kernel)) rfl, zT_of (List.mem_of_getElem? (i := 55) (by decide +kernel)) rfl⟩
theorem dX9_wordsBy_0 : decode cX9_wordsBy 0 = .ok (.iconst 0, 1) := by decide +kernel
theorem dX9_wordsBy_1 : decode cX9_wordsBy 1 = .ok (.istore_n 3, 1) := by decide +kernel
theorem dX9_wordsBy_2 : decode cX9_wordsBy 2 = .ok (.iconst 0, 1) := by decide +kernel
theorem dX9_wordsBy_3 : decode cX9_wordsBy 3 = .ok (.istore 4, 2) := by decide +kernel
theorem dX9_wordsBy_5 : decode cX9_wordsBy 5 = .ok (.iload 4, 2) := by decide +kernel
theorem dX9_wordsBy_7 : decode cX9_wordsBy 7 = .ok (.bipush 10, 2) := by decide +kernel
theorem dX9_wordsBy_9 : decode cX9_wordsBy 9 = .ok (.if_icmp .ge 36, 3) := by decide +kernel
theorem dX9_wordsBy_12 : decode cX9_wordsBy 12 = .ok (.iload_n 3, 1) := by decide +kernel
theorem dX9_wordsBy_13 : decode cX9_wordsBy 13 = .ok (.aload_n 0, 1) := by decide +kernel
theorem dX9_wordsBy_14 : decode cX9_wordsBy 14 = .ok (.aload_n 0, 1) := by decide +kernel
theorem dX9_wordsBy_15 : decode cX9_wordsBy 15 = .ok (.getfield 13, 3) := by decide +kernel
theorem dX9_wordsBy_18 : decode cX9_wordsBy 18 = .ok (.iload_n 1, 1) := by decide +kernel
theorem dX9_wordsBy_19 : decode cX9_wordsBy 19 = .ok (.iaload, 1) := by decide +kernel
theorem dX9_wordsBy_20 : decode cX9_wordsBy 20 = .ok (.iload 4, 2) := by decide +kernel
theorem dX9_wordsBy_22 : decode cX9_wordsBy 22 = .ok (.iload_n 2, 1) := by decide +kernel
theorem dX9_wordsBy_23 : decode cX9_wordsBy 23 = .ok (.invokevirtual 235, 3) := by decide +kernel
theorem dX9_wordsBy_26 : decode cX9_wordsBy 26 = .ok (.ifCond .eq 10, 3) := by decide +kernel
theorem dX9_wordsBy_29 : decode cX9_wordsBy 29 = .ok (.iconst 1, 1) := by decide +kernel
theorem dX9_wordsBy_30 : decode cX9_wordsBy 30 = .ok (.iload 4, 2) := by decide +kernel
theorem dX9_wordsBy_32 : decode cX9_wordsBy 32 = .ok (.ishl, 1) := by decide +kernel
theorem dX9_wordsBy_33 : decode cX9_wordsBy 33 = .ok (.goto 4, 3) := by decide +kernel
theorem dX9_wordsBy_36 : decode cX9_wordsBy 36 = .ok (.iconst 0, 1) := by decide +kernel
theorem dX9_wordsBy_37 : decode cX9_wordsBy 37 = .ok (.ior, 1) := by decide +kernel
theorem dX9_wordsBy_38 : decode cX9_wordsBy 38 = .ok (.istore_n 3, 1) := by decide +kernel
theorem dX9_wordsBy_39 : decode cX9_wordsBy 39 = .ok (.iinc 4 1, 3) := by decide +kernel
theorem dX9_wordsBy_42 : decode cX9_wordsBy 42 = .ok (.goto (-37), 3) := by decide +kernel
theorem dX9_wordsBy_45 : decode cX9_wordsBy 45 = .ok (.iload_n 3, 1) := by decide +kernel
theorem dX9_wordsBy_46 : decode cX9_wordsBy 46 = .ok (.ireturn, 1) := by decide +kernel
set_option maxRecDepth 20000 in
theorem w_X9_wordsBy_b37 {w : zWd} {X : zX} {l0 : Launch} {r : Int32} {S1 : zMem} (C : zC LM w X l0 cX9_wordsBy RX9 5 3 (some .int)) {k5 : Int32 → Int32 → Int32 → Int32 → zMem → Option (Int32 × zMem)} (hc5 : ∀ (x1 : Int32) (x2 : Int32) (x3 : Int32) (x4 : Int32) (S : zMem) (ls : Array Slot), lv_has ls 5 [(0, .ref (w.2.2.1 0)), (1, .int x1), (2, .int x2), (3, .int x3), (4, .int x4)] → k5 x1 x2 x3 x4 S = some (r, S1) → zV LM w X (some (.int r)) S1 S 5 ls []) {x1 : Int32} {x2 : Int32} {x4 : Int32} {s0 : Int32} {s1 : Int32} {S : zMem} {ls : Array Slot} (hl : lv_has ls 5 [(0, .ref (w.2.2.1 0)), (1, .int x1), (2, .int x2), (4, .int x4)]) (h : X9_wordsBy_b37 k5 x1 x2 x4 s0 s1 S = some (r, S1)) : zV LM w X (some (.int r)) S1 S 37 ls [.int s1, .int s0] := by
  unfold X9_wordsBy_b37 at h
  refine v_ior 37 C dX9_wordsBy_37 h (fun v1 h => ?_)
  refine v_istore_n 38 C [(3, .int v1), (0, .ref (w.2.2.1 0)), (1, .int x1), (2, .int x2), (4, .int x4)] dX9_wordsBy_38 rfl hl (by decide) rfl (fun ls hl => ?_)
  refine v_iinc 39 C (nn := (1 : Int32)) (fun v => [(4, .int v), (3, .int v1), (0, .ref (w.2.2.1 0)), (1, .int x1), (2, .int x2)]) dX9_wordsBy_39 hl (k := 4) rfl (by decide) (by decide) (fun _ => rfl) h (fun v2 ls hl h => ?_)
  refine v_goto 42 5 C dX9_wordsBy_42 (by decide) ?_
  exact hc5 _ _ _ _ _ _ (lv_sub hl [2, 3, 4, 1, 0] rfl) h
set_option maxRecDepth 20000 in
theorem w_X9_wordsBy_b5 {w : zWd} {X : zX} {l0 : Launch} {r : Int32} {S1 : zMem} (C : zC LM w X l0 cX9_wordsBy RX9 5 3 (some .int)) {k5 : Int32 → Int32 → Int32 → Int32 → zMem → Option (Int32 × zMem)} (hc5 : ∀ (x1 : Int32) (x2 : Int32) (x3 : Int32) (x4 : Int32) (S : zMem) (ls : Array Slot), lv_has ls 5 [(0, .ref (w.2.2.1 0)), (1, .int x1), (2, .int x2), (3, .int x3), (4, .int x4)] → k5 x1 x2 x3 x4 S = some (r, S1) → zV LM w X (some (.int r)) S1 S 5 ls []) {x1 : Int32} {x2 : Int32} {x3 : Int32} {x4 : Int32} {S : zMem} {ls : Array Slot} (hl : lv_has ls 5 [(0, .ref (w.2.2.1 0)), (1, .int x1), (2, .int x2), (3, .int x3), (4, .int x4)]) (h : X9_wordsBy_b5 k5 x1 x2 x3 x4 S = some (r, S1)) : zV LM w X (some (.int r)) S1 S 5 ls [] := by
  unfold X9_wordsBy_b5 at h
  refine v_iload 5 C dX9_wordsBy_5 (lv_at hl 4 rfl) ?_
  refine v_bipush 7 C (v := (10 : Int32)) dX9_wordsBy_7 (by decide) ?_
  refine v_icmp_ge 9 45 C dX9_wordsBy_9 (by decide) h (fun h => ?_) (fun h => ?_)
  · refine v_iload_n 45 C dX9_wordsBy_45 rfl (lv_at hl 3 rfl) ?_
    exact v_ireturn 46 C dX9_wordsBy_46 h
  · refine v_iload_n 12 C dX9_wordsBy_12 rfl (lv_at hl 3 rfl) ?_
    refine v_aload_n 13 C dX9_wordsBy_13 rfl (lv_at hl 0 rfl) ?_
    refine v_aload_n 14 C dX9_wordsBy_14 rfl (lv_at hl 0 rfl) ?_
    refine v_getr 15 (2) C dX9_wordsBy_15 fl_X9_13 rfl kM_0 rfl ?_
    refine v_iload_n 18 C dX9_wordsBy_18 rfl (lv_at hl 1 rfl) ?_
    refine v_iald 19 C dX9_wordsBy_19 kM_2 rfl h (fun v1 h => ?_)
    refine v_iload 20 C dX9_wordsBy_20 (lv_at hl 4 rfl) ?_
    refine v_iload_n 22 C dX9_wordsBy_22 rfl (lv_at hl 2 rfl) ?_
    obtain ⟨v2, S, hc, h⟩ := zb_e h
    refine v_callVi 23 C (ci := 8) [.int x3] dX9_wordsBy_23 ml_X9_235 hy_X9_isSo (c_X9_isSo  hc) (by decide) rfl hl.1 kM_0 rfl (Nat.le_of_ble_eq_true rfl) rfl ?_
    refine v_if_eq 26 36 C dX9_wordsBy_26 (by decide) h (fun h => ?_) (fun h => ?_)
    · refine v_iconst 36 C (v := (0 : Int32)) dX9_wordsBy_36 (by decide) ?_
      exact w_X9_wordsBy_b37 C hc5 (lv_sub hl [0, 1, 2, 4] rfl) h
    · refine v_iconst 29 C (v := (1 : Int32)) dX9_wordsBy_29 (by decide) ?_
      refine v_iload 30 C dX9_wordsBy_30 (lv_at hl 4 rfl) ?_
      refine v_ishl 32 C dX9_wordsBy_32 h (fun v3 h => ?_)
      refine v_goto 33 37 C dX9_wordsBy_33 (by decide) ?_
      exact w_X9_wordsBy_b37 C hc5 (lv_sub hl [0, 1, 2, 4] rfl) h
theorem w_X9_wordsBy_l5 {w : zWd} {X : zX} {l0 : Launch} {r : Int32} {S1 : zMem} (C : zC LM w X l0 cX9_wordsBy RX9 5 3 (some .int)) : ∀ (n : Nat) (x1 : Int32) (x2 : Int32) (x3 : Int32) (x4 : Int32) (S : zMem) (ls : Array Slot), lv_has ls 5 [(0, .ref (w.2.2.1 0)), (1, .int x1), (2, .int x2), (3, .int x3), (4, .int x4)] → X9_wordsBy_l5 n x1 x2 x3 x4 S = some (r, S1) → zV LM w X (some (.int r)) S1 S 5 ls [] := by
  intro n
  induction n with
  | zero =>
    intro x1 x2 x3 x4 S ls hl h
    cases (show (none : Option (Int32 × zMem)) = some _ from h)
  | succ n ih =>
    intro x1 x2 x3 x4 S ls hl h
    exact w_X9_wordsBy_b5 C ih hl h
set_option maxRecDepth 20000 in
theorem w_X9_wordsBy_b0 {w : zWd} {X : zX} {l0 : Launch} {r : Int32} {S1 : zMem} (C : zC LM w X l0 cX9_wordsBy RX9 5 3 (some .int)) {x1 : Int32} {x2 : Int32} {S : zMem} {ls : Array Slot} (hl : lv_has ls 5 [(0, .ref (w.2.2.1 0)), (1, .int x1), (2, .int x2)]) (h : X9_wordsBy_b0 x1 x2 S = some (r, S1)) : zV LM w X (some (.int r)) S1 S 0 ls [] := by
  unfold X9_wordsBy_b0 at h
  refine v_iconst 0 C (v := (0 : Int32)) dX9_wordsBy_0 (by decide) ?_
  refine v_istore_n 1 C [(3, .int (0 : Int32)), (0, .ref (w.2.2.1 0)), (1, .int x1), (2, .int x2)] dX9_wordsBy_1 rfl hl (by decide) rfl (fun ls hl => ?_)
  refine v_iconst 2 C (v := (0 : Int32)) dX9_wordsBy_2 (by decide) ?_
  refine v_istore 3 C [(4, .int (0 : Int32)), (3, .int (0 : Int32)), (0, .ref (w.2.2.1 0)), (1, .int x1), (2, .int x2)] dX9_wordsBy_3 hl (by decide) rfl (fun ls hl => ?_)
  exact w_X9_wordsBy_l5 C zF _ _ _ _ _ _ (lv_sub hl [2, 3, 4, 1, 0] rfl) h
theorem c_X9_wordsBy {w : zWd} {l0 : Launch} {x1 : Int32} {x2 : Int32} {S S1 : zMem} {r : Int32} (h : f_X9_wordsBy x1 x2 S = some (r, S1)) : zMet LM w l0 yX9_wordsBy cX9_wordsBy 5 (some .int) 3 [.ref (w.2.2.1 0), .int x1, .int x2] S (some (.int r)) S1 :=
  zMet_of (by decide +kernel) (Nat.le_of_ble_eq_true rfl) (fun X ls C hl => w_X9_wordsBy_b0 C hl h)
theorem ml_X9_238 : Cond.methodLink RX9 238 yX9_noPairs ∈ zT := zT_of (List.mem_of_getElem? (i := 1219) (by decide +kernel)) rfl
theorem hy_X9_noPairs : zYv yX9_noPairs cX9_noPairs 4 (some .int) 1 := ⟨⟨zT_of (List.mem_of_getElem? (i := 1222) (by decide +kernel)) rfl, zT_of (List.mem_of_getElem? (i := 78) (by decide +kernel)) rfl, by decide, by decide +kernel, by decide +kernel, by decide +kernel⟩, zT_of (List.mem_of_getElem? (i := 1221) (by decide +kernel)) rfl, zT_of (List.mem_of_getElem? (i := 53) (by decide +kernel)) rfl⟩
theorem ml_X9_241 : Cond.methodLink RX9 241 yX9_wordsBy ∈ zT := zT_of (List.mem_of_getElem? (i := 1223) (by decide +kernel)) rfl
theorem hy_X9_wordsBy : zYv yX9_wordsBy cX9_wordsBy 5 (some .int) 2 := ⟨⟨zT_of (List.mem_of_getElem? (i := 1226) (by decide +kernel)) rfl, zT_of (List.mem_of_getElem? (i := 78) (by decide +kernel)) rfl, by decide, by decide +kernel, by decide +kernel, by decide +kernel⟩, zT_of (List.mem_of_getElem? (i := 1225) (by decide +kernel)) rfl, zT_of (List.mem_of_getElem? (i := 54) (by decide +kernel)) rfl⟩
theorem dX9_meant_0 : decode cX9_meant 0 = .ok (.aload_n 0, 1) := by decide +kernel
theorem dX9_meant_1 : decode cX9_meant 1 = .ok (.iload_n 1, 1) := by decide +kernel
theorem dX9_meant_2 : decode cX9_meant 2 = .ok (.invokevirtual 186, 3) := by decide +kernel
theorem dX9_meant_5 : decode cX9_meant 5 = .ok (.ifCond .eq 10, 3) := by decide +kernel
theorem dX9_meant_8 : decode cX9_meant 8 = .ok (.iload_n 2, 1) := by decide +kernel
theorem dX9_meant_9 : decode cX9_meant 9 = .ok (.invokestatic 71, 3) := by decide +kernel
theorem dX9_meant_12 : decode cX9_meant 12 = .ok (.ifCond .ne 5, 3) := by decide +kernel
theorem dX9_meant_15 : decode cX9_meant 15 = .ok (.iconst (-1), 1) := by decide +kernel
theorem dX9_meant_16 : decode cX9_meant 16 = .ok (.ireturn, 1) := by decide +kernel
theorem dX9_meant_17 : decode cX9_meant 17 = .ok (.aload_n 0, 1) := by decide +kernel
theorem dX9_meant_18 : decode cX9_meant 18 = .ok (.iload_n 2, 1) := by decide +kernel
theorem dX9_meant_19 : decode cX9_meant 19 = .ok (.invokevirtual 238, 3) := by decide +kernel
theorem dX9_meant_22 : decode cX9_meant 22 = .ok (.istore_n 3, 1) := by decide +kernel
theorem dX9_meant_23 : decode cX9_meant 23 = .ok (.iload_n 3, 1) := by decide +kernel
theorem dX9_meant_24 : decode cX9_meant 24 = .ok (.ifCond .eq 7, 3) := by decide +kernel
theorem dX9_meant_27 : decode cX9_meant 27 = .ok (.iload_n 3, 1) := by decide +kernel
theorem dX9_meant_28 : decode cX9_meant 28 = .ok (.goto 9, 3) := by decide +kernel
theorem dX9_meant_31 : decode cX9_meant 31 = .ok (.aload_n 0, 1) := by decide +kernel
theorem dX9_meant_32 : decode cX9_meant 32 = .ok (.iload_n 1, 1) := by decide +kernel
theorem dX9_meant_33 : decode cX9_meant 33 = .ok (.iload_n 2, 1) := by decide +kernel
theorem dX9_meant_34 : decode cX9_meant 34 = .ok (.invokevirtual 241, 3) := by decide +kernel
theorem dX9_meant_37 : decode cX9_meant 37 = .ok (.ireturn, 1) := by decide +kernel
set_option maxRecDepth 20000 in
theorem w_X9_meant_b15 {w : zWd} {X : zX} {l0 : Launch} {r : Int32} {S1 : zMem} (C : zC LM w X l0 cX9_meant RX9 4 4 (some .int)) {S : zMem} {ls : Array Slot} (hl : lv_has ls 4 []) (h : X9_meant_b15  S = some (r, S1)) : zV LM w X (some (.int r)) S1 S 15 ls [] := by
  unfold X9_meant_b15 at h
  refine v_iconst 15 C (v := (-1 : Int32)) dX9_meant_15 (by decide) ?_
  exact v_ireturn 16 C dX9_meant_16 h
set_option maxRecDepth 20000 in
theorem w_X9_meant_b37 {w : zWd} {X : zX} {l0 : Launch} {r : Int32} {S1 : zMem} (C : zC LM w X l0 cX9_meant RX9 4 4 (some .int)) {s0 : Int32} {S : zMem} {ls : Array Slot} (hl : lv_has ls 4 []) (h : X9_meant_b37 s0 S = some (r, S1)) : zV LM w X (some (.int r)) S1 S 37 ls [.int s0] := by
  unfold X9_meant_b37 at h
  exact v_ireturn 37 C dX9_meant_37 h
set_option maxRecDepth 20000 in
theorem w_X9_meant_b0 {w : zWd} {X : zX} {l0 : Launch} {r : Int32} {S1 : zMem} (C : zC LM w X l0 cX9_meant RX9 4 4 (some .int)) {x1 : Int32} {x2 : Int32} {S : zMem} {ls : Array Slot} (hl : lv_has ls 4 [(0, .ref (w.2.2.1 0)), (1, .int x1), (2, .int x2)]) (h : X9_meant_b0 x1 x2 S = some (r, S1)) : zV LM w X (some (.int r)) S1 S 0 ls [] := by
  unfold X9_meant_b0 at h
  refine v_aload_n 0 C dX9_meant_0 rfl (lv_at hl 0 rfl) ?_
  refine v_iload_n 1 C dX9_meant_1 rfl (lv_at hl 1 rfl) ?_
  obtain ⟨v1, S, hc, h⟩ := zb_e h
  refine v_callVi 2 C (ci := 8) [] dX9_meant_2 ml_X9_186 hy_X9_isLetter (c_X9_isLetter  hc) (by decide) rfl hl.1 kM_0 rfl (Nat.le_of_ble_eq_true rfl) rfl ?_
  refine v_if_eq 5 15 C dX9_meant_5 (by decide) h (fun h => ?_) (fun h => ?_)
  · exact w_X9_meant_b15 C (lv_sub hl [] rfl) h
  · refine v_iload_n 8 C dX9_meant_8 rfl (lv_at hl 2 rfl) ?_
    obtain ⟨v2, S, hc, h⟩ := zb_e h
    refine v_callSi 9 C [] dX9_meant_9 ml_X9_71 hy_X9_isRow (c_X9_isRow  hc) (by decide) rfl hl.1 (Nat.le_of_ble_eq_true rfl) rfl ?_
    refine v_if_ne 12 17 C dX9_meant_12 (by decide) h (fun h => ?_) (fun h => ?_)
    · refine v_aload_n 17 C dX9_meant_17 rfl (lv_at hl 0 rfl) ?_
      refine v_iload_n 18 C dX9_meant_18 rfl (lv_at hl 2 rfl) ?_
      obtain ⟨v3, S, hc, h⟩ := zb_e h
      refine v_callVi 19 C (ci := 8) [] dX9_meant_19 ml_X9_238 hy_X9_noPairs (c_X9_noPairs  hc) (by decide) rfl hl.1 kM_0 rfl (Nat.le_of_ble_eq_true rfl) rfl ?_
      refine v_istore_n 22 C [(3, .int v3), (0, .ref (w.2.2.1 0)), (1, .int x1), (2, .int x2)] dX9_meant_22 rfl hl (by decide) rfl (fun ls hl => ?_)
      refine v_iload_n 23 C dX9_meant_23 rfl (lv_at hl 0 rfl) ?_
      refine v_if_eq 24 31 C dX9_meant_24 (by decide) h (fun h => ?_) (fun h => ?_)
      · refine v_aload_n 31 C dX9_meant_31 rfl (lv_at hl 1 rfl) ?_
        refine v_iload_n 32 C dX9_meant_32 rfl (lv_at hl 2 rfl) ?_
        refine v_iload_n 33 C dX9_meant_33 rfl (lv_at hl 3 rfl) ?_
        obtain ⟨v4, S, hc, h⟩ := zb_e h
        refine v_callVi 34 C (ci := 8) [] dX9_meant_34 ml_X9_241 hy_X9_wordsBy (c_X9_wordsBy  hc) (by decide) rfl hl.1 kM_0 rfl (Nat.le_of_ble_eq_true rfl) rfl ?_
        exact w_X9_meant_b37 C (lv_sub hl [] rfl) h
      · refine v_iload_n 27 C dX9_meant_27 rfl (lv_at hl 0 rfl) ?_
        refine v_goto 28 37 C dX9_meant_28 (by decide) ?_
        exact w_X9_meant_b37 C (lv_sub hl [] rfl) h
    · exact w_X9_meant_b15 C (lv_sub hl [] rfl) h
theorem c_X9_meant {w : zWd} {l0 : Launch} {x1 : Int32} {x2 : Int32} {S S1 : zMem} {r : Int32} (h : f_X9_meant x1 x2 S = some (r, S1)) : zMet LM w l0 yX9_meant cX9_meant 4 (some .int) 4 [.ref (w.2.2.1 0), .int x1, .int x2] S (some (.int r)) S1 :=
  zMet_of (by decide +kernel) (Nat.le_of_ble_eq_true rfl) (fun X ls C hl => w_X9_meant_b0 C hl h)
theorem dX9_kinds_0 : decode cX9_kinds 0 = .ok (.aload_n 0, 1) := by decide +kernel
theorem dX9_kinds_1 : decode cX9_kinds 1 = .ok (.iload_n 1, 1) := by decide +kernel
theorem dX9_kinds_2 : decode cX9_kinds 2 = .ok (.invokevirtual 186, 3) := by decide +kernel
theorem dX9_kinds_5 : decode cX9_kinds 5 = .ok (.ifCond .eq 10, 3) := by decide +kernel
theorem dX9_kinds_8 : decode cX9_kinds 8 = .ok (.iload_n 2, 1) := by decide +kernel
theorem dX9_kinds_9 : decode cX9_kinds 9 = .ok (.invokestatic 71, 3) := by decide +kernel
theorem dX9_kinds_12 : decode cX9_kinds 12 = .ok (.ifCond .ne 5, 3) := by decide +kernel
theorem dX9_kinds_15 : decode cX9_kinds 15 = .ok (.iconst (-1), 1) := by decide +kernel
theorem dX9_kinds_16 : decode cX9_kinds 16 = .ok (.ireturn, 1) := by decide +kernel
theorem dX9_kinds_17 : decode cX9_kinds 17 = .ok (.aload_n 0, 1) := by decide +kernel
theorem dX9_kinds_18 : decode cX9_kinds 18 = .ok (.iload_n 2, 1) := by decide +kernel
theorem dX9_kinds_19 : decode cX9_kinds 19 = .ok (.invokevirtual 238, 3) := by decide +kernel
theorem dX9_kinds_22 : decode cX9_kinds 22 = .ok (.istore_n 3, 1) := by decide +kernel
theorem dX9_kinds_23 : decode cX9_kinds 23 = .ok (.iload_n 3, 1) := by decide +kernel
theorem dX9_kinds_24 : decode cX9_kinds 24 = .ok (.ifCond .eq 5, 3) := by decide +kernel
theorem dX9_kinds_27 : decode cX9_kinds 27 = .ok (.iload_n 3, 1) := by decide +kernel
theorem dX9_kinds_28 : decode cX9_kinds 28 = .ok (.ireturn, 1) := by decide +kernel
theorem dX9_kinds_29 : decode cX9_kinds 29 = .ok (.iconst 0, 1) := by decide +kernel
theorem dX9_kinds_30 : decode cX9_kinds 30 = .ok (.istore 4, 2) := by decide +kernel
theorem dX9_kinds_32 : decode cX9_kinds 32 = .ok (.iconst 0, 1) := by decide +kernel
theorem dX9_kinds_33 : decode cX9_kinds 33 = .ok (.istore 5, 2) := by decide +kernel
theorem dX9_kinds_35 : decode cX9_kinds 35 = .ok (.iload 5, 2) := by decide +kernel
theorem dX9_kinds_37 : decode cX9_kinds 37 = .ok (.bipush 6, 2) := by decide +kernel
theorem dX9_kinds_39 : decode cX9_kinds 39 = .ok (.if_icmp .ge 38, 3) := by decide +kernel
theorem dX9_kinds_42 : decode cX9_kinds 42 = .ok (.iload 4, 2) := by decide +kernel
theorem dX9_kinds_44 : decode cX9_kinds 44 = .ok (.aload_n 0, 1) := by decide +kernel
theorem dX9_kinds_45 : decode cX9_kinds 45 = .ok (.iload 5, 2) := by decide +kernel
theorem dX9_kinds_47 : decode cX9_kinds 47 = .ok (.aload_n 0, 1) := by decide +kernel
theorem dX9_kinds_48 : decode cX9_kinds 48 = .ok (.getfield 19, 3) := by decide +kernel
theorem dX9_kinds_51 : decode cX9_kinds 51 = .ok (.iload_n 1, 1) := by decide +kernel
theorem dX9_kinds_52 : decode cX9_kinds 52 = .ok (.iaload, 1) := by decide +kernel
theorem dX9_kinds_53 : decode cX9_kinds 53 = .ok (.iload_n 2, 1) := by decide +kernel
theorem dX9_kinds_54 : decode cX9_kinds 54 = .ok (.invokevirtual 235, 3) := by decide +kernel
theorem dX9_kinds_57 : decode cX9_kinds 57 = .ok (.ifCond .eq 10, 3) := by decide +kernel
theorem dX9_kinds_60 : decode cX9_kinds 60 = .ok (.iconst 1, 1) := by decide +kernel
theorem dX9_kinds_61 : decode cX9_kinds 61 = .ok (.iload 5, 2) := by decide +kernel
theorem dX9_kinds_63 : decode cX9_kinds 63 = .ok (.ishl, 1) := by decide +kernel
theorem dX9_kinds_64 : decode cX9_kinds 64 = .ok (.goto 4, 3) := by decide +kernel
theorem dX9_kinds_67 : decode cX9_kinds 67 = .ok (.iconst 0, 1) := by decide +kernel
theorem dX9_kinds_68 : decode cX9_kinds 68 = .ok (.ior, 1) := by decide +kernel
theorem dX9_kinds_69 : decode cX9_kinds 69 = .ok (.istore 4, 2) := by decide +kernel
theorem dX9_kinds_71 : decode cX9_kinds 71 = .ok (.iinc 5 1, 3) := by decide +kernel
theorem dX9_kinds_74 : decode cX9_kinds 74 = .ok (.goto (-39), 3) := by decide +kernel
theorem dX9_kinds_77 : decode cX9_kinds 77 = .ok (.iload 4, 2) := by decide +kernel
theorem dX9_kinds_79 : decode cX9_kinds 79 = .ok (.ireturn, 1) := by decide +kernel
set_option maxRecDepth 20000 in
theorem w_X9_kinds_b15 {w : zWd} {X : zX} {l0 : Launch} {r : Int32} {S1 : zMem} (C : zC LM w X l0 cX9_kinds RX9 6 3 (some .int)) {S : zMem} {ls : Array Slot} (hl : lv_has ls 6 []) (h : X9_kinds_b15  S = some (r, S1)) : zV LM w X (some (.int r)) S1 S 15 ls [] := by
  unfold X9_kinds_b15 at h
  refine v_iconst 15 C (v := (-1 : Int32)) dX9_kinds_15 (by decide) ?_
  exact v_ireturn 16 C dX9_kinds_16 h
set_option maxRecDepth 20000 in
theorem w_X9_kinds_b68 {w : zWd} {X : zX} {l0 : Launch} {r : Int32} {S1 : zMem} (C : zC LM w X l0 cX9_kinds RX9 6 3 (some .int)) {k35 : Int32 → Int32 → Int32 → Int32 → zMem → Option (Int32 × zMem)} (hc35 : ∀ (x1 : Int32) (x2 : Int32) (x4 : Int32) (x5 : Int32) (S : zMem) (ls : Array Slot), lv_has ls 6 [(0, .ref (w.2.2.1 0)), (1, .int x1), (2, .int x2), (4, .int x4), (5, .int x5)] → k35 x1 x2 x4 x5 S = some (r, S1) → zV LM w X (some (.int r)) S1 S 35 ls []) {x1 : Int32} {x2 : Int32} {x5 : Int32} {s0 : Int32} {s1 : Int32} {S : zMem} {ls : Array Slot} (hl : lv_has ls 6 [(0, .ref (w.2.2.1 0)), (1, .int x1), (2, .int x2), (5, .int x5)]) (h : X9_kinds_b68 k35 x1 x2 x5 s0 s1 S = some (r, S1)) : zV LM w X (some (.int r)) S1 S 68 ls [.int s1, .int s0] := by
  unfold X9_kinds_b68 at h
  refine v_ior 68 C dX9_kinds_68 h (fun v1 h => ?_)
  refine v_istore 69 C [(4, .int v1), (0, .ref (w.2.2.1 0)), (1, .int x1), (2, .int x2), (5, .int x5)] dX9_kinds_69 hl (by decide) rfl (fun ls hl => ?_)
  refine v_iinc 71 C (nn := (1 : Int32)) (fun v => [(5, .int v), (4, .int v1), (0, .ref (w.2.2.1 0)), (1, .int x1), (2, .int x2)]) dX9_kinds_71 hl (k := 4) rfl (by decide) (by decide) (fun _ => rfl) h (fun v2 ls hl h => ?_)
  refine v_goto 74 35 C dX9_kinds_74 (by decide) ?_
  exact hc35 _ _ _ _ _ _ (lv_sub hl [2, 3, 4, 1, 0] rfl) h
set_option maxRecDepth 20000 in
theorem w_X9_kinds_b35 {w : zWd} {X : zX} {l0 : Launch} {r : Int32} {S1 : zMem} (C : zC LM w X l0 cX9_kinds RX9 6 3 (some .int)) {k35 : Int32 → Int32 → Int32 → Int32 → zMem → Option (Int32 × zMem)} (hc35 : ∀ (x1 : Int32) (x2 : Int32) (x4 : Int32) (x5 : Int32) (S : zMem) (ls : Array Slot), lv_has ls 6 [(0, .ref (w.2.2.1 0)), (1, .int x1), (2, .int x2), (4, .int x4), (5, .int x5)] → k35 x1 x2 x4 x5 S = some (r, S1) → zV LM w X (some (.int r)) S1 S 35 ls []) {x1 : Int32} {x2 : Int32} {x4 : Int32} {x5 : Int32} {S : zMem} {ls : Array Slot} (hl : lv_has ls 6 [(0, .ref (w.2.2.1 0)), (1, .int x1), (2, .int x2), (4, .int x4), (5, .int x5)]) (h : X9_kinds_b35 k35 x1 x2 x4 x5 S = some (r, S1)) : zV LM w X (some (.int r)) S1 S 35 ls [] := by
  unfold X9_kinds_b35 at h
  refine v_iload 35 C dX9_kinds_35 (lv_at hl 4 rfl) ?_
  refine v_bipush 37 C (v := (6 : Int32)) dX9_kinds_37 (by decide) ?_
  refine v_icmp_ge 39 77 C dX9_kinds_39 (by decide) h (fun h => ?_) (fun h => ?_)
  · refine v_iload 77 C dX9_kinds_77 (lv_at hl 3 rfl) ?_
    exact v_ireturn 79 C dX9_kinds_79 h
  · refine v_iload 42 C dX9_kinds_42 (lv_at hl 3 rfl) ?_
    refine v_aload_n 44 C dX9_kinds_44 rfl (lv_at hl 0 rfl) ?_
    refine v_iload 45 C dX9_kinds_45 (lv_at hl 4 rfl) ?_
    refine v_aload_n 47 C dX9_kinds_47 rfl (lv_at hl 0 rfl) ?_
    refine v_getr 48 (4) C dX9_kinds_48 fl_X9_19 rfl kM_0 rfl ?_
    refine v_iload_n 51 C dX9_kinds_51 rfl (lv_at hl 1 rfl) ?_
    refine v_iald 52 C dX9_kinds_52 kM_4 rfl h (fun v1 h => ?_)
    refine v_iload_n 53 C dX9_kinds_53 rfl (lv_at hl 2 rfl) ?_
    obtain ⟨v2, S, hc, h⟩ := zb_e h
    refine v_callVi 54 C (ci := 8) [.int x4] dX9_kinds_54 ml_X9_235 hy_X9_isSo (c_X9_isSo  hc) (by decide) rfl hl.1 kM_0 rfl (Nat.le_of_ble_eq_true rfl) rfl ?_
    refine v_if_eq 57 67 C dX9_kinds_57 (by decide) h (fun h => ?_) (fun h => ?_)
    · refine v_iconst 67 C (v := (0 : Int32)) dX9_kinds_67 (by decide) ?_
      exact w_X9_kinds_b68 C hc35 (lv_sub hl [0, 1, 2, 4] rfl) h
    · refine v_iconst 60 C (v := (1 : Int32)) dX9_kinds_60 (by decide) ?_
      refine v_iload 61 C dX9_kinds_61 (lv_at hl 4 rfl) ?_
      refine v_ishl 63 C dX9_kinds_63 h (fun v3 h => ?_)
      refine v_goto 64 68 C dX9_kinds_64 (by decide) ?_
      exact w_X9_kinds_b68 C hc35 (lv_sub hl [0, 1, 2, 4] rfl) h
theorem w_X9_kinds_l35 {w : zWd} {X : zX} {l0 : Launch} {r : Int32} {S1 : zMem} (C : zC LM w X l0 cX9_kinds RX9 6 3 (some .int)) : ∀ (n : Nat) (x1 : Int32) (x2 : Int32) (x4 : Int32) (x5 : Int32) (S : zMem) (ls : Array Slot), lv_has ls 6 [(0, .ref (w.2.2.1 0)), (1, .int x1), (2, .int x2), (4, .int x4), (5, .int x5)] → X9_kinds_l35 n x1 x2 x4 x5 S = some (r, S1) → zV LM w X (some (.int r)) S1 S 35 ls [] := by
  intro n
  induction n with
  | zero =>
    intro x1 x2 x4 x5 S ls hl h
    cases (show (none : Option (Int32 × zMem)) = some _ from h)
  | succ n ih =>
    intro x1 x2 x4 x5 S ls hl h
    exact w_X9_kinds_b35 C ih hl h
set_option maxRecDepth 20000 in
theorem w_X9_kinds_b0 {w : zWd} {X : zX} {l0 : Launch} {r : Int32} {S1 : zMem} (C : zC LM w X l0 cX9_kinds RX9 6 3 (some .int)) {x1 : Int32} {x2 : Int32} {S : zMem} {ls : Array Slot} (hl : lv_has ls 6 [(0, .ref (w.2.2.1 0)), (1, .int x1), (2, .int x2)]) (h : X9_kinds_b0 x1 x2 S = some (r, S1)) : zV LM w X (some (.int r)) S1 S 0 ls [] := by
  unfold X9_kinds_b0 at h
  refine v_aload_n 0 C dX9_kinds_0 rfl (lv_at hl 0 rfl) ?_
  refine v_iload_n 1 C dX9_kinds_1 rfl (lv_at hl 1 rfl) ?_
  obtain ⟨v1, S, hc, h⟩ := zb_e h
  refine v_callVi 2 C (ci := 8) [] dX9_kinds_2 ml_X9_186 hy_X9_isLetter (c_X9_isLetter  hc) (by decide) rfl hl.1 kM_0 rfl (Nat.le_of_ble_eq_true rfl) rfl ?_
  refine v_if_eq 5 15 C dX9_kinds_5 (by decide) h (fun h => ?_) (fun h => ?_)
  · exact w_X9_kinds_b15 C (lv_sub hl [] rfl) h
  · refine v_iload_n 8 C dX9_kinds_8 rfl (lv_at hl 2 rfl) ?_
    obtain ⟨v2, S, hc, h⟩ := zb_e h
    refine v_callSi 9 C [] dX9_kinds_9 ml_X9_71 hy_X9_isRow (c_X9_isRow  hc) (by decide) rfl hl.1 (Nat.le_of_ble_eq_true rfl) rfl ?_
    refine v_if_ne 12 17 C dX9_kinds_12 (by decide) h (fun h => ?_) (fun h => ?_)
    · refine v_aload_n 17 C dX9_kinds_17 rfl (lv_at hl 0 rfl) ?_
      refine v_iload_n 18 C dX9_kinds_18 rfl (lv_at hl 2 rfl) ?_
      obtain ⟨v3, S, hc, h⟩ := zb_e h
      refine v_callVi 19 C (ci := 8) [] dX9_kinds_19 ml_X9_238 hy_X9_noPairs (c_X9_noPairs  hc) (by decide) rfl hl.1 kM_0 rfl (Nat.le_of_ble_eq_true rfl) rfl ?_
      refine v_istore_n 22 C [(3, .int v3), (0, .ref (w.2.2.1 0)), (1, .int x1), (2, .int x2)] dX9_kinds_22 rfl hl (by decide) rfl (fun ls hl => ?_)
      refine v_iload_n 23 C dX9_kinds_23 rfl (lv_at hl 0 rfl) ?_
      refine v_if_eq 24 29 C dX9_kinds_24 (by decide) h (fun h => ?_) (fun h => ?_)
      · refine v_iconst 29 C (v := (0 : Int32)) dX9_kinds_29 (by decide) ?_
        refine v_istore 30 C [(4, .int (0 : Int32)), (3, .int v3), (0, .ref (w.2.2.1 0)), (1, .int x1), (2, .int x2)] dX9_kinds_30 hl (by decide) rfl (fun ls hl => ?_)
        refine v_iconst 32 C (v := (0 : Int32)) dX9_kinds_32 (by decide) ?_
        refine v_istore 33 C [(5, .int (0 : Int32)), (4, .int (0 : Int32)), (3, .int v3), (0, .ref (w.2.2.1 0)), (1, .int x1), (2, .int x2)] dX9_kinds_33 hl (by decide) rfl (fun ls hl => ?_)
        exact w_X9_kinds_l35 C zF _ _ _ _ _ _ (lv_sub hl [3, 4, 5, 1, 0] rfl) h
      · refine v_iload_n 27 C dX9_kinds_27 rfl (lv_at hl 0 rfl) ?_
        exact v_ireturn 28 C dX9_kinds_28 h
    · exact w_X9_kinds_b15 C (lv_sub hl [] rfl) h
theorem c_X9_kinds {w : zWd} {l0 : Launch} {x1 : Int32} {x2 : Int32} {S S1 : zMem} {r : Int32} (h : f_X9_kinds x1 x2 S = some (r, S1)) : zMet LM w l0 yX9_kinds cX9_kinds 6 (some .int) 3 [.ref (w.2.2.1 0), .int x1, .int x2] S (some (.int r)) S1 :=
  zMet_of (by decide +kernel) (Nat.le_of_ble_eq_true rfl) (fun X ls C hl => w_X9_kinds_b0 C hl h)
theorem dX9_greatestPart_0 : decode cX9_greatestPart 0 = .ok (.iconst 0, 1) := by decide +kernel
theorem dX9_greatestPart_1 : decode cX9_greatestPart 1 = .ok (.istore 4, 2) := by decide +kernel
theorem dX9_greatestPart_3 : decode cX9_greatestPart 3 = .ok (.iconst 0, 1) := by decide +kernel
theorem dX9_greatestPart_4 : decode cX9_greatestPart 4 = .ok (.istore 5, 2) := by decide +kernel
theorem dX9_greatestPart_6 : decode cX9_greatestPart 6 = .ok (.iload 5, 2) := by decide +kernel
theorem dX9_greatestPart_8 : decode cX9_greatestPart 8 = .ok (.bipush 10, 2) := by decide +kernel
theorem dX9_greatestPart_10 : decode cX9_greatestPart 10 = .ok (.if_icmp .ge 99, 3) := by decide +kernel
theorem dX9_greatestPart_13 : decode cX9_greatestPart 13 = .ok (.iconst 0, 1) := by decide +kernel
theorem dX9_greatestPart_14 : decode cX9_greatestPart 14 = .ok (.istore 6, 2) := by decide +kernel
theorem dX9_greatestPart_16 : decode cX9_greatestPart 16 = .ok (.iconst 0, 1) := by decide +kernel
theorem dX9_greatestPart_17 : decode cX9_greatestPart 17 = .ok (.istore 7, 2) := by decide +kernel
theorem dX9_greatestPart_19 : decode cX9_greatestPart 19 = .ok (.iload 7, 2) := by decide +kernel
theorem dX9_greatestPart_21 : decode cX9_greatestPart 21 = .ok (.bipush 10, 2) := by decide +kernel
theorem dX9_greatestPart_23 : decode cX9_greatestPart 23 = .ok (.if_icmp .ge 64, 3) := by decide +kernel
theorem dX9_greatestPart_26 : decode cX9_greatestPart 26 = .ok (.iload 6, 2) := by decide +kernel
theorem dX9_greatestPart_28 : decode cX9_greatestPart 28 = .ok (.iload_n 2, 1) := by decide +kernel
theorem dX9_greatestPart_29 : decode cX9_greatestPart 29 = .ok (.iload 5, 2) := by decide +kernel
theorem dX9_greatestPart_31 : decode cX9_greatestPart 31 = .ok (.invokestatic 176, 3) := by decide +kernel
theorem dX9_greatestPart_34 : decode cX9_greatestPart 34 = .ok (.ifCond .eq 43, 3) := by decide +kernel
theorem dX9_greatestPart_37 : decode cX9_greatestPart 37 = .ok (.iload_n 2, 1) := by decide +kernel
theorem dX9_greatestPart_38 : decode cX9_greatestPart 38 = .ok (.iload 7, 2) := by decide +kernel
theorem dX9_greatestPart_40 : decode cX9_greatestPart 40 = .ok (.invokestatic 176, 3) := by decide +kernel
theorem dX9_greatestPart_43 : decode cX9_greatestPart 43 = .ok (.ifCond .eq 34, 3) := by decide +kernel
theorem dX9_greatestPart_46 : decode cX9_greatestPart 46 = .ok (.aload_n 0, 1) := by decide +kernel
theorem dX9_greatestPart_47 : decode cX9_greatestPart 47 = .ok (.getfield 13, 3) := by decide +kernel
theorem dX9_greatestPart_50 : decode cX9_greatestPart 50 = .ok (.iload_n 1, 1) := by decide +kernel
theorem dX9_greatestPart_51 : decode cX9_greatestPart 51 = .ok (.iaload, 1) := by decide +kernel
theorem dX9_greatestPart_52 : decode cX9_greatestPart 52 = .ok (.iload 5, 2) := by decide +kernel
theorem dX9_greatestPart_54 : decode cX9_greatestPart 54 = .ok (.iload_n 3, 1) := by decide +kernel
theorem dX9_greatestPart_55 : decode cX9_greatestPart 55 = .ok (.invokestatic 161, 3) := by decide +kernel
theorem dX9_greatestPart_58 : decode cX9_greatestPart 58 = .ok (.aload_n 0, 1) := by decide +kernel
theorem dX9_greatestPart_59 : decode cX9_greatestPart 59 = .ok (.getfield 13, 3) := by decide +kernel
theorem dX9_greatestPart_62 : decode cX9_greatestPart 62 = .ok (.iload_n 1, 1) := by decide +kernel
theorem dX9_greatestPart_63 : decode cX9_greatestPart 63 = .ok (.iaload, 1) := by decide +kernel
theorem dX9_greatestPart_64 : decode cX9_greatestPart 64 = .ok (.iload 7, 2) := by decide +kernel
theorem dX9_greatestPart_66 : decode cX9_greatestPart 66 = .ok (.iload_n 3, 1) := by decide +kernel
theorem dX9_greatestPart_67 : decode cX9_greatestPart 67 = .ok (.invokestatic 161, 3) := by decide +kernel
theorem dX9_greatestPart_70 : decode cX9_greatestPart 70 = .ok (.if_icmp .ne 7, 3) := by decide +kernel
theorem dX9_greatestPart_73 : decode cX9_greatestPart 73 = .ok (.iconst 1, 1) := by decide +kernel
theorem dX9_greatestPart_74 : decode cX9_greatestPart 74 = .ok (.goto 4, 3) := by decide +kernel
theorem dX9_greatestPart_77 : decode cX9_greatestPart 77 = .ok (.iconst 0, 1) := by decide +kernel
theorem dX9_greatestPart_78 : decode cX9_greatestPart 78 = .ok (.iadd, 1) := by decide +kernel
theorem dX9_greatestPart_79 : decode cX9_greatestPart 79 = .ok (.istore 6, 2) := by decide +kernel
theorem dX9_greatestPart_81 : decode cX9_greatestPart 81 = .ok (.iinc 7 1, 3) := by decide +kernel
theorem dX9_greatestPart_84 : decode cX9_greatestPart 84 = .ok (.goto (-65), 3) := by decide +kernel
theorem dX9_greatestPart_87 : decode cX9_greatestPart 87 = .ok (.iload 6, 2) := by decide +kernel
theorem dX9_greatestPart_89 : decode cX9_greatestPart 89 = .ok (.iload 4, 2) := by decide +kernel
theorem dX9_greatestPart_91 : decode cX9_greatestPart 91 = .ok (.if_icmp .le 8, 3) := by decide +kernel
theorem dX9_greatestPart_94 : decode cX9_greatestPart 94 = .ok (.iload 6, 2) := by decide +kernel
theorem dX9_greatestPart_96 : decode cX9_greatestPart 96 = .ok (.goto 5, 3) := by decide +kernel
theorem dX9_greatestPart_99 : decode cX9_greatestPart 99 = .ok (.iload 4, 2) := by decide +kernel
theorem dX9_greatestPart_101 : decode cX9_greatestPart 101 = .ok (.istore 4, 2) := by decide +kernel
theorem dX9_greatestPart_103 : decode cX9_greatestPart 103 = .ok (.iinc 5 1, 3) := by decide +kernel
theorem dX9_greatestPart_106 : decode cX9_greatestPart 106 = .ok (.goto (-100), 3) := by decide +kernel
theorem dX9_greatestPart_109 : decode cX9_greatestPart 109 = .ok (.iload 4, 2) := by decide +kernel
theorem dX9_greatestPart_111 : decode cX9_greatestPart 111 = .ok (.ireturn, 1) := by decide +kernel
set_option maxRecDepth 20000 in
theorem w_X9_greatestPart_b78 {w : zWd} {X : zX} {l0 : Launch} {r : Int32} {S1 : zMem} (C : zC LM w X l0 cX9_greatestPart RX9 8 2 (some .int)) {k6 : Int32 → Int32 → Int32 → Int32 → Int32 → zMem → Option (Int32 × zMem)} {k19 : Int32 → Int32 → Int32 → Int32 → Int32 → Int32 → Int32 → zMem → Option (Int32 × zMem)} (hc6 : ∀ (x1 : Int32) (x2 : Int32) (x3 : Int32) (x4 : Int32) (x5 : Int32) (S : zMem) (ls : Array Slot), lv_has ls 8 [(0, .ref (w.2.2.1 0)), (1, .int x1), (2, .int x2), (3, .int x3), (4, .int x4), (5, .int x5)] → k6 x1 x2 x3 x4 x5 S = some (r, S1) → zV LM w X (some (.int r)) S1 S 6 ls []) (hc19 : ∀ (x1 : Int32) (x2 : Int32) (x3 : Int32) (x4 : Int32) (x5 : Int32) (x6 : Int32) (x7 : Int32) (S : zMem) (ls : Array Slot), lv_has ls 8 [(0, .ref (w.2.2.1 0)), (1, .int x1), (2, .int x2), (3, .int x3), (4, .int x4), (5, .int x5), (6, .int x6), (7, .int x7)] → k19 x1 x2 x3 x4 x5 x6 x7 S = some (r, S1) → zV LM w X (some (.int r)) S1 S 19 ls []) {x1 : Int32} {x2 : Int32} {x3 : Int32} {x4 : Int32} {x5 : Int32} {x7 : Int32} {s0 : Int32} {s1 : Int32} {S : zMem} {ls : Array Slot} (hl : lv_has ls 8 [(0, .ref (w.2.2.1 0)), (1, .int x1), (2, .int x2), (3, .int x3), (4, .int x4), (5, .int x5), (7, .int x7)]) (h : X9_greatestPart_b78 k6 k19 x1 x2 x3 x4 x5 x7 s0 s1 S = some (r, S1)) : zV LM w X (some (.int r)) S1 S 78 ls [.int s1, .int s0] := by
  unfold X9_greatestPart_b78 at h
  refine v_iadd 78 C dX9_greatestPart_78 h (fun v1 h => ?_)
  refine v_istore 79 C [(6, .int v1), (0, .ref (w.2.2.1 0)), (1, .int x1), (2, .int x2), (3, .int x3), (4, .int x4), (5, .int x5), (7, .int x7)] dX9_greatestPart_79 hl (by decide) rfl (fun ls hl => ?_)
  refine v_iinc 81 C (nn := (1 : Int32)) (fun v => [(7, .int v), (6, .int v1), (0, .ref (w.2.2.1 0)), (1, .int x1), (2, .int x2), (3, .int x3), (4, .int x4), (5, .int x5)]) dX9_greatestPart_81 hl (k := 7) rfl (by decide) (by decide) (fun _ => rfl) h (fun v2 ls hl h => ?_)
  refine v_goto 84 19 C dX9_greatestPart_84 (by decide) ?_
  exact hc19 _ _ _ _ _ _ _ _ _ (lv_sub hl [2, 3, 4, 5, 6, 7, 1, 0] rfl) h
set_option maxRecDepth 20000 in
theorem w_X9_greatestPart_b77 {w : zWd} {X : zX} {l0 : Launch} {r : Int32} {S1 : zMem} (C : zC LM w X l0 cX9_greatestPart RX9 8 2 (some .int)) {k6 : Int32 → Int32 → Int32 → Int32 → Int32 → zMem → Option (Int32 × zMem)} {k19 : Int32 → Int32 → Int32 → Int32 → Int32 → Int32 → Int32 → zMem → Option (Int32 × zMem)} (hc6 : ∀ (x1 : Int32) (x2 : Int32) (x3 : Int32) (x4 : Int32) (x5 : Int32) (S : zMem) (ls : Array Slot), lv_has ls 8 [(0, .ref (w.2.2.1 0)), (1, .int x1), (2, .int x2), (3, .int x3), (4, .int x4), (5, .int x5)] → k6 x1 x2 x3 x4 x5 S = some (r, S1) → zV LM w X (some (.int r)) S1 S 6 ls []) (hc19 : ∀ (x1 : Int32) (x2 : Int32) (x3 : Int32) (x4 : Int32) (x5 : Int32) (x6 : Int32) (x7 : Int32) (S : zMem) (ls : Array Slot), lv_has ls 8 [(0, .ref (w.2.2.1 0)), (1, .int x1), (2, .int x2), (3, .int x3), (4, .int x4), (5, .int x5), (6, .int x6), (7, .int x7)] → k19 x1 x2 x3 x4 x5 x6 x7 S = some (r, S1) → zV LM w X (some (.int r)) S1 S 19 ls []) {x1 : Int32} {x2 : Int32} {x3 : Int32} {x4 : Int32} {x5 : Int32} {x7 : Int32} {s0 : Int32} {S : zMem} {ls : Array Slot} (hl : lv_has ls 8 [(0, .ref (w.2.2.1 0)), (1, .int x1), (2, .int x2), (3, .int x3), (4, .int x4), (5, .int x5), (7, .int x7)]) (h : X9_greatestPart_b77 k6 k19 x1 x2 x3 x4 x5 x7 s0 S = some (r, S1)) : zV LM w X (some (.int r)) S1 S 77 ls [.int s0] := by
  unfold X9_greatestPart_b77 at h
  refine v_iconst 77 C (v := (0 : Int32)) dX9_greatestPart_77 (by decide) ?_
  exact w_X9_greatestPart_b78 C hc6 hc19 (lv_sub hl [0, 1, 2, 3, 4, 5, 6] rfl) h
set_option maxRecDepth 20000 in
theorem w_X9_greatestPart_b101 {w : zWd} {X : zX} {l0 : Launch} {r : Int32} {S1 : zMem} (C : zC LM w X l0 cX9_greatestPart RX9 8 2 (some .int)) {k6 : Int32 → Int32 → Int32 → Int32 → Int32 → zMem → Option (Int32 × zMem)} (hc6 : ∀ (x1 : Int32) (x2 : Int32) (x3 : Int32) (x4 : Int32) (x5 : Int32) (S : zMem) (ls : Array Slot), lv_has ls 8 [(0, .ref (w.2.2.1 0)), (1, .int x1), (2, .int x2), (3, .int x3), (4, .int x4), (5, .int x5)] → k6 x1 x2 x3 x4 x5 S = some (r, S1) → zV LM w X (some (.int r)) S1 S 6 ls []) {x1 : Int32} {x2 : Int32} {x3 : Int32} {x5 : Int32} {s0 : Int32} {S : zMem} {ls : Array Slot} (hl : lv_has ls 8 [(0, .ref (w.2.2.1 0)), (1, .int x1), (2, .int x2), (3, .int x3), (5, .int x5)]) (h : X9_greatestPart_b101 k6 x1 x2 x3 x5 s0 S = some (r, S1)) : zV LM w X (some (.int r)) S1 S 101 ls [.int s0] := by
  unfold X9_greatestPart_b101 at h
  refine v_istore 101 C [(4, .int s0), (0, .ref (w.2.2.1 0)), (1, .int x1), (2, .int x2), (3, .int x3), (5, .int x5)] dX9_greatestPart_101 hl (by decide) rfl (fun ls hl => ?_)
  refine v_iinc 103 C (nn := (1 : Int32)) (fun v => [(5, .int v), (4, .int s0), (0, .ref (w.2.2.1 0)), (1, .int x1), (2, .int x2), (3, .int x3)]) dX9_greatestPart_103 hl (k := 5) rfl (by decide) (by decide) (fun _ => rfl) h (fun v1 ls hl h => ?_)
  refine v_goto 106 6 C dX9_greatestPart_106 (by decide) ?_
  exact hc6 _ _ _ _ _ _ _ (lv_sub hl [2, 3, 4, 5, 1, 0] rfl) h
set_option maxRecDepth 20000 in
theorem w_X9_greatestPart_b19 {w : zWd} {X : zX} {l0 : Launch} {r : Int32} {S1 : zMem} (C : zC LM w X l0 cX9_greatestPart RX9 8 2 (some .int)) {k6 : Int32 → Int32 → Int32 → Int32 → Int32 → zMem → Option (Int32 × zMem)} {k19 : Int32 → Int32 → Int32 → Int32 → Int32 → Int32 → Int32 → zMem → Option (Int32 × zMem)} (hc6 : ∀ (x1 : Int32) (x2 : Int32) (x3 : Int32) (x4 : Int32) (x5 : Int32) (S : zMem) (ls : Array Slot), lv_has ls 8 [(0, .ref (w.2.2.1 0)), (1, .int x1), (2, .int x2), (3, .int x3), (4, .int x4), (5, .int x5)] → k6 x1 x2 x3 x4 x5 S = some (r, S1) → zV LM w X (some (.int r)) S1 S 6 ls []) (hc19 : ∀ (x1 : Int32) (x2 : Int32) (x3 : Int32) (x4 : Int32) (x5 : Int32) (x6 : Int32) (x7 : Int32) (S : zMem) (ls : Array Slot), lv_has ls 8 [(0, .ref (w.2.2.1 0)), (1, .int x1), (2, .int x2), (3, .int x3), (4, .int x4), (5, .int x5), (6, .int x6), (7, .int x7)] → k19 x1 x2 x3 x4 x5 x6 x7 S = some (r, S1) → zV LM w X (some (.int r)) S1 S 19 ls []) {x1 : Int32} {x2 : Int32} {x3 : Int32} {x4 : Int32} {x5 : Int32} {x6 : Int32} {x7 : Int32} {S : zMem} {ls : Array Slot} (hl : lv_has ls 8 [(0, .ref (w.2.2.1 0)), (1, .int x1), (2, .int x2), (3, .int x3), (4, .int x4), (5, .int x5), (6, .int x6), (7, .int x7)]) (h : X9_greatestPart_b19 k6 k19 x1 x2 x3 x4 x5 x6 x7 S = some (r, S1)) : zV LM w X (some (.int r)) S1 S 19 ls [] := by
  unfold X9_greatestPart_b19 at h
  refine v_iload 19 C dX9_greatestPart_19 (lv_at hl 7 rfl) ?_
  refine v_bipush 21 C (v := (10 : Int32)) dX9_greatestPart_21 (by decide) ?_
  refine v_icmp_ge 23 87 C dX9_greatestPart_23 (by decide) h (fun h => ?_) (fun h => ?_)
  · refine v_iload 87 C dX9_greatestPart_87 (lv_at hl 6 rfl) ?_
    refine v_iload 89 C dX9_greatestPart_89 (lv_at hl 4 rfl) ?_
    refine v_icmp_le 91 99 C dX9_greatestPart_91 (by decide) h (fun h => ?_) (fun h => ?_)
    · refine v_iload 99 C dX9_greatestPart_99 (lv_at hl 4 rfl) ?_
      exact w_X9_greatestPart_b101 C hc6 (lv_sub hl [0, 1, 2, 3, 5] rfl) h
    · refine v_iload 94 C dX9_greatestPart_94 (lv_at hl 6 rfl) ?_
      refine v_goto 96 101 C dX9_greatestPart_96 (by decide) ?_
      exact w_X9_greatestPart_b101 C hc6 (lv_sub hl [0, 1, 2, 3, 5] rfl) h
  · refine v_iload 26 C dX9_greatestPart_26 (lv_at hl 6 rfl) ?_
    refine v_iload_n 28 C dX9_greatestPart_28 rfl (lv_at hl 2 rfl) ?_
    refine v_iload 29 C dX9_greatestPart_29 (lv_at hl 5 rfl) ?_
    obtain ⟨v1, S, hc, h⟩ := zb_e h
    refine v_callSi 31 C [.int x6] dX9_greatestPart_31 ml_X9_176 hy_X9_has (c_X9_has  hc) (by decide) rfl hl.1 (Nat.le_of_ble_eq_true rfl) rfl ?_
    refine v_if_eq 34 77 C dX9_greatestPart_34 (by decide) h (fun h => ?_) (fun h => ?_)
    · exact w_X9_greatestPart_b77 C hc6 hc19 (lv_sub hl [0, 1, 2, 3, 4, 5, 7] rfl) h
    · refine v_iload_n 37 C dX9_greatestPart_37 rfl (lv_at hl 2 rfl) ?_
      refine v_iload 38 C dX9_greatestPart_38 (lv_at hl 7 rfl) ?_
      obtain ⟨v2, S, hc, h⟩ := zb_e h
      refine v_callSi 40 C [.int x6] dX9_greatestPart_40 ml_X9_176 hy_X9_has (c_X9_has  hc) (by decide) rfl hl.1 (Nat.le_of_ble_eq_true rfl) rfl ?_
      refine v_if_eq 43 77 C dX9_greatestPart_43 (by decide) h (fun h => ?_) (fun h => ?_)
      · exact w_X9_greatestPart_b77 C hc6 hc19 (lv_sub hl [0, 1, 2, 3, 4, 5, 7] rfl) h
      · refine v_aload_n 46 C dX9_greatestPart_46 rfl (lv_at hl 0 rfl) ?_
        refine v_getr 47 (2) C dX9_greatestPart_47 fl_X9_13 rfl kM_0 rfl ?_
        refine v_iload_n 50 C dX9_greatestPart_50 rfl (lv_at hl 1 rfl) ?_
        refine v_iald 51 C dX9_greatestPart_51 kM_2 rfl h (fun v3 h => ?_)
        refine v_iload 52 C dX9_greatestPart_52 (lv_at hl 5 rfl) ?_
        refine v_iload_n 54 C dX9_greatestPart_54 rfl (lv_at hl 3 rfl) ?_
        obtain ⟨v4, S, hc, h⟩ := zb_e h
        refine v_callSi 55 C [.int x6] dX9_greatestPart_55 ml_X9_161 hy_X9_endsBy (c_X9_endsBy  hc) (by decide) rfl hl.1 (Nat.le_of_ble_eq_true rfl) rfl ?_
        refine v_aload_n 58 C dX9_greatestPart_58 rfl (lv_at hl 0 rfl) ?_
        refine v_getr 59 (2) C dX9_greatestPart_59 fl_X9_13 rfl kM_0 rfl ?_
        refine v_iload_n 62 C dX9_greatestPart_62 rfl (lv_at hl 1 rfl) ?_
        refine v_iald 63 C dX9_greatestPart_63 kM_2 rfl h (fun v5 h => ?_)
        refine v_iload 64 C dX9_greatestPart_64 (lv_at hl 7 rfl) ?_
        refine v_iload_n 66 C dX9_greatestPart_66 rfl (lv_at hl 3 rfl) ?_
        obtain ⟨v6, S, hc, h⟩ := zb_e h
        refine v_callSi 67 C [.int v4, .int x6] dX9_greatestPart_67 ml_X9_161 hy_X9_endsBy (c_X9_endsBy  hc) (by decide) rfl hl.1 (Nat.le_of_ble_eq_true rfl) rfl ?_
        refine v_icmp_ne 70 77 C dX9_greatestPart_70 (by decide) h (fun h => ?_) (fun h => ?_)
        · exact w_X9_greatestPart_b77 C hc6 hc19 (lv_sub hl [0, 1, 2, 3, 4, 5, 7] rfl) h
        · refine v_iconst 73 C (v := (1 : Int32)) dX9_greatestPart_73 (by decide) ?_
          refine v_goto 74 78 C dX9_greatestPart_74 (by decide) ?_
          exact w_X9_greatestPart_b78 C hc6 hc19 (lv_sub hl [0, 1, 2, 3, 4, 5, 7] rfl) h
theorem w_X9_greatestPart_l19 {w : zWd} {X : zX} {l0 : Launch} {r : Int32} {S1 : zMem} (C : zC LM w X l0 cX9_greatestPart RX9 8 2 (some .int)) {k6 : Int32 → Int32 → Int32 → Int32 → Int32 → zMem → Option (Int32 × zMem)} (hc6 : ∀ (x1 : Int32) (x2 : Int32) (x3 : Int32) (x4 : Int32) (x5 : Int32) (S : zMem) (ls : Array Slot), lv_has ls 8 [(0, .ref (w.2.2.1 0)), (1, .int x1), (2, .int x2), (3, .int x3), (4, .int x4), (5, .int x5)] → k6 x1 x2 x3 x4 x5 S = some (r, S1) → zV LM w X (some (.int r)) S1 S 6 ls []) : ∀ (n : Nat) (x1 : Int32) (x2 : Int32) (x3 : Int32) (x4 : Int32) (x5 : Int32) (x6 : Int32) (x7 : Int32) (S : zMem) (ls : Array Slot), lv_has ls 8 [(0, .ref (w.2.2.1 0)), (1, .int x1), (2, .int x2), (3, .int x3), (4, .int x4), (5, .int x5), (6, .int x6), (7, .int x7)] → X9_greatestPart_l19 k6 n x1 x2 x3 x4 x5 x6 x7 S = some (r, S1) → zV LM w X (some (.int r)) S1 S 19 ls [] := by
  intro n
  induction n with
  | zero =>
    intro x1 x2 x3 x4 x5 x6 x7 S ls hl h
    cases (show (none : Option (Int32 × zMem)) = some _ from h)
  | succ n ih =>
    intro x1 x2 x3 x4 x5 x6 x7 S ls hl h
    exact w_X9_greatestPart_b19 C hc6 ih hl h
set_option maxRecDepth 20000 in
theorem w_X9_greatestPart_b6 {w : zWd} {X : zX} {l0 : Launch} {r : Int32} {S1 : zMem} (C : zC LM w X l0 cX9_greatestPart RX9 8 2 (some .int)) {k6 : Int32 → Int32 → Int32 → Int32 → Int32 → zMem → Option (Int32 × zMem)} (hc6 : ∀ (x1 : Int32) (x2 : Int32) (x3 : Int32) (x4 : Int32) (x5 : Int32) (S : zMem) (ls : Array Slot), lv_has ls 8 [(0, .ref (w.2.2.1 0)), (1, .int x1), (2, .int x2), (3, .int x3), (4, .int x4), (5, .int x5)] → k6 x1 x2 x3 x4 x5 S = some (r, S1) → zV LM w X (some (.int r)) S1 S 6 ls []) {x1 : Int32} {x2 : Int32} {x3 : Int32} {x4 : Int32} {x5 : Int32} {S : zMem} {ls : Array Slot} (hl : lv_has ls 8 [(0, .ref (w.2.2.1 0)), (1, .int x1), (2, .int x2), (3, .int x3), (4, .int x4), (5, .int x5)]) (h : X9_greatestPart_b6 k6 x1 x2 x3 x4 x5 S = some (r, S1)) : zV LM w X (some (.int r)) S1 S 6 ls [] := by
  unfold X9_greatestPart_b6 at h
  refine v_iload 6 C dX9_greatestPart_6 (lv_at hl 5 rfl) ?_
  refine v_bipush 8 C (v := (10 : Int32)) dX9_greatestPart_8 (by decide) ?_
  refine v_icmp_ge 10 109 C dX9_greatestPart_10 (by decide) h (fun h => ?_) (fun h => ?_)
  · refine v_iload 109 C dX9_greatestPart_109 (lv_at hl 4 rfl) ?_
    exact v_ireturn 111 C dX9_greatestPart_111 h
  · refine v_iconst 13 C (v := (0 : Int32)) dX9_greatestPart_13 (by decide) ?_
    refine v_istore 14 C [(6, .int (0 : Int32)), (0, .ref (w.2.2.1 0)), (1, .int x1), (2, .int x2), (3, .int x3), (4, .int x4), (5, .int x5)] dX9_greatestPart_14 hl (by decide) rfl (fun ls hl => ?_)
    refine v_iconst 16 C (v := (0 : Int32)) dX9_greatestPart_16 (by decide) ?_
    refine v_istore 17 C [(7, .int (0 : Int32)), (6, .int (0 : Int32)), (0, .ref (w.2.2.1 0)), (1, .int x1), (2, .int x2), (3, .int x3), (4, .int x4), (5, .int x5)] dX9_greatestPart_17 hl (by decide) rfl (fun ls hl => ?_)
    exact w_X9_greatestPart_l19 C hc6 zF _ _ _ _ _ _ _ _ _ (lv_sub hl [2, 3, 4, 5, 6, 7, 1, 0] rfl) h
theorem w_X9_greatestPart_l6 {w : zWd} {X : zX} {l0 : Launch} {r : Int32} {S1 : zMem} (C : zC LM w X l0 cX9_greatestPart RX9 8 2 (some .int)) : ∀ (n : Nat) (x1 : Int32) (x2 : Int32) (x3 : Int32) (x4 : Int32) (x5 : Int32) (S : zMem) (ls : Array Slot), lv_has ls 8 [(0, .ref (w.2.2.1 0)), (1, .int x1), (2, .int x2), (3, .int x3), (4, .int x4), (5, .int x5)] → X9_greatestPart_l6 n x1 x2 x3 x4 x5 S = some (r, S1) → zV LM w X (some (.int r)) S1 S 6 ls [] := by
  intro n
  induction n with
  | zero =>
    intro x1 x2 x3 x4 x5 S ls hl h
    cases (show (none : Option (Int32 × zMem)) = some _ from h)
  | succ n ih =>
    intro x1 x2 x3 x4 x5 S ls hl h
    exact w_X9_greatestPart_b6 C ih hl h
set_option maxRecDepth 20000 in
theorem w_X9_greatestPart_b0 {w : zWd} {X : zX} {l0 : Launch} {r : Int32} {S1 : zMem} (C : zC LM w X l0 cX9_greatestPart RX9 8 2 (some .int)) {x1 : Int32} {x2 : Int32} {x3 : Int32} {S : zMem} {ls : Array Slot} (hl : lv_has ls 8 [(0, .ref (w.2.2.1 0)), (1, .int x1), (2, .int x2), (3, .int x3)]) (h : X9_greatestPart_b0 x1 x2 x3 S = some (r, S1)) : zV LM w X (some (.int r)) S1 S 0 ls [] := by
  unfold X9_greatestPart_b0 at h
  refine v_iconst 0 C (v := (0 : Int32)) dX9_greatestPart_0 (by decide) ?_
  refine v_istore 1 C [(4, .int (0 : Int32)), (0, .ref (w.2.2.1 0)), (1, .int x1), (2, .int x2), (3, .int x3)] dX9_greatestPart_1 hl (by decide) rfl (fun ls hl => ?_)
  refine v_iconst 3 C (v := (0 : Int32)) dX9_greatestPart_3 (by decide) ?_
  refine v_istore 4 C [(5, .int (0 : Int32)), (4, .int (0 : Int32)), (0, .ref (w.2.2.1 0)), (1, .int x1), (2, .int x2), (3, .int x3)] dX9_greatestPart_4 hl (by decide) rfl (fun ls hl => ?_)
  exact w_X9_greatestPart_l6 C zF _ _ _ _ _ _ _ (lv_sub hl [2, 3, 4, 5, 1, 0] rfl) h
theorem c_X9_greatestPart {w : zWd} {l0 : Launch} {x1 : Int32} {x2 : Int32} {x3 : Int32} {S S1 : zMem} {r : Int32} (h : f_X9_greatestPart x1 x2 x3 S = some (r, S1)) : zMet LM w l0 yX9_greatestPart cX9_greatestPart 8 (some .int) 2 [.ref (w.2.2.1 0), .int x1, .int x2, .int x3] S (some (.int r)) S1 :=
  zMet_of (by decide +kernel) (Nat.le_of_ble_eq_true rfl) (fun X ls C hl => w_X9_greatestPart_b0 C hl h)
theorem ml_X9_245 : Cond.methodLink RX9 245 yX9_greatestPart ∈ zT := zT_of (List.mem_of_getElem? (i := 1240) (by decide +kernel)) rfl
theorem hy_X9_greatestPart : zYv yX9_greatestPart cX9_greatestPart 8 (some .int) 3 := ⟨⟨zT_of (List.mem_of_getElem? (i := 1243) (by decide +kernel)) rfl, zT_of (List.mem_of_getElem? (i := 78) (by decide +kernel)) rfl, by decide, by decide +kernel, by decide +kernel, by decide +kernel⟩, zT_of (List.mem_of_getElem? (i := 1242) (by decide +kernel)) rfl, zT_of (List.mem_of_getElem? (i := 56) (by decide +kernel)) rfl⟩
theorem co_X9_244 : Cond.constant RX9 244 99999 ∈ zT := zT_of (List.mem_of_getElem? (i := 1239) (by decide +kernel)) rfl
theorem dX9_test_0 : decode cX9_test 0 = .ok (.aload_n 0, 1) := by decide +kernel
theorem dX9_test_1 : decode cX9_test 1 = .ok (.iload_n 1, 1) := by decide +kernel
theorem dX9_test_2 : decode cX9_test 2 = .ok (.invokevirtual 186, 3) := by decide +kernel
theorem dX9_test_5 : decode cX9_test 5 = .ok (.ifCond .eq 10, 3) := by decide +kernel
theorem dX9_test_8 : decode cX9_test 8 = .ok (.iload_n 2, 1) := by decide +kernel
theorem dX9_test_9 : decode cX9_test 9 = .ok (.invokestatic 71, 3) := by decide +kernel
theorem dX9_test_12 : decode cX9_test 12 = .ok (.ifCond .ne 5, 3) := by decide +kernel
theorem dX9_test_15 : decode cX9_test 15 = .ok (.iconst (-1), 1) := by decide +kernel
theorem dX9_test_16 : decode cX9_test 16 = .ok (.ireturn, 1) := by decide +kernel
theorem dX9_test_17 : decode cX9_test 17 = .ok (.aload_n 0, 1) := by decide +kernel
theorem dX9_test_18 : decode cX9_test 18 = .ok (.iload_n 2, 1) := by decide +kernel
theorem dX9_test_19 : decode cX9_test 19 = .ok (.invokevirtual 238, 3) := by decide +kernel
theorem dX9_test_22 : decode cX9_test 22 = .ok (.istore_n 3, 1) := by decide +kernel
theorem dX9_test_23 : decode cX9_test 23 = .ok (.iload_n 3, 1) := by decide +kernel
theorem dX9_test_24 : decode cX9_test 24 = .ok (.ifCond .eq 5, 3) := by decide +kernel
theorem dX9_test_27 : decode cX9_test 27 = .ok (.iload_n 3, 1) := by decide +kernel
theorem dX9_test_28 : decode cX9_test 28 = .ok (.ireturn, 1) := by decide +kernel
theorem dX9_test_29 : decode cX9_test 29 = .ok (.aload_n 0, 1) := by decide +kernel
theorem dX9_test_30 : decode cX9_test 30 = .ok (.iload_n 1, 1) := by decide +kernel
theorem dX9_test_31 : decode cX9_test 31 = .ok (.iload_n 2, 1) := by decide +kernel
theorem dX9_test_32 : decode cX9_test 32 = .ok (.invokevirtual 241, 3) := by decide +kernel
theorem dX9_test_35 : decode cX9_test 35 = .ok (.istore 4, 2) := by decide +kernel
theorem dX9_test_37 : decode cX9_test 37 = .ok (.iload 4, 2) := by decide +kernel
theorem dX9_test_39 : decode cX9_test 39 = .ok (.ifCond .ne 6, 3) := by decide +kernel
theorem dX9_test_42 : decode cX9_test 42 = .ok (.bipush (-9), 2) := by decide +kernel
theorem dX9_test_44 : decode cX9_test 44 = .ok (.ireturn, 1) := by decide +kernel
theorem dX9_test_45 : decode cX9_test 45 = .ok (.bipush (-9), 2) := by decide +kernel
theorem dX9_test_47 : decode cX9_test 47 = .ok (.istore 5, 2) := by decide +kernel
theorem dX9_test_49 : decode cX9_test 49 = .ok (.ldc 244, 2) := by decide +kernel
theorem dX9_test_51 : decode cX9_test 51 = .ok (.istore 6, 2) := by decide +kernel
theorem dX9_test_53 : decode cX9_test 53 = .ok (.iconst 0, 1) := by decide +kernel
theorem dX9_test_54 : decode cX9_test 54 = .ok (.istore 7, 2) := by decide +kernel
theorem dX9_test_56 : decode cX9_test 56 = .ok (.iload 7, 2) := by decide +kernel
theorem dX9_test_58 : decode cX9_test 58 = .ok (.bipush 10, 2) := by decide +kernel
theorem dX9_test_60 : decode cX9_test 60 = .ok (.if_icmp .ge 52, 3) := by decide +kernel
theorem dX9_test_63 : decode cX9_test 63 = .ok (.aload_n 0, 1) := by decide +kernel
theorem dX9_test_64 : decode cX9_test 64 = .ok (.iload_n 1, 1) := by decide +kernel
theorem dX9_test_65 : decode cX9_test 65 = .ok (.iload 4, 2) := by decide +kernel
theorem dX9_test_67 : decode cX9_test 67 = .ok (.iload 7, 2) := by decide +kernel
theorem dX9_test_69 : decode cX9_test 69 = .ok (.invokevirtual 245, 3) := by decide +kernel
theorem dX9_test_72 : decode cX9_test 72 = .ok (.istore 8, 2) := by decide +kernel
theorem dX9_test_74 : decode cX9_test 74 = .ok (.iload 8, 2) := by decide +kernel
theorem dX9_test_76 : decode cX9_test 76 = .ok (.iload 6, 2) := by decide +kernel
theorem dX9_test_78 : decode cX9_test 78 = .ok (.if_icmp .ge 8, 3) := by decide +kernel
theorem dX9_test_81 : decode cX9_test 81 = .ok (.iload 7, 2) := by decide +kernel
theorem dX9_test_83 : decode cX9_test 83 = .ok (.goto 5, 3) := by decide +kernel
theorem dX9_test_86 : decode cX9_test 86 = .ok (.iload 5, 2) := by decide +kernel
theorem dX9_test_88 : decode cX9_test 88 = .ok (.istore 5, 2) := by decide +kernel
theorem dX9_test_90 : decode cX9_test 90 = .ok (.iload 8, 2) := by decide +kernel
theorem dX9_test_92 : decode cX9_test 92 = .ok (.iload 6, 2) := by decide +kernel
theorem dX9_test_94 : decode cX9_test 94 = .ok (.if_icmp .ge 8, 3) := by decide +kernel
theorem dX9_test_97 : decode cX9_test 97 = .ok (.iload 8, 2) := by decide +kernel
theorem dX9_test_99 : decode cX9_test 99 = .ok (.goto 5, 3) := by decide +kernel
theorem dX9_test_102 : decode cX9_test 102 = .ok (.iload 6, 2) := by decide +kernel
theorem dX9_test_104 : decode cX9_test 104 = .ok (.istore 6, 2) := by decide +kernel
theorem dX9_test_106 : decode cX9_test 106 = .ok (.iinc 7 1, 3) := by decide +kernel
theorem dX9_test_109 : decode cX9_test 109 = .ok (.goto (-53), 3) := by decide +kernel
theorem dX9_test_112 : decode cX9_test 112 = .ok (.aload_n 0, 1) := by decide +kernel
theorem dX9_test_113 : decode cX9_test 113 = .ok (.iload 6, 2) := by decide +kernel
theorem dX9_test_115 : decode cX9_test 115 = .ok (.putfield 60, 3) := by decide +kernel
theorem dX9_test_118 : decode cX9_test 118 = .ok (.iload 5, 2) := by decide +kernel
theorem dX9_test_120 : decode cX9_test 120 = .ok (.ireturn, 1) := by decide +kernel
set_option maxRecDepth 20000 in
theorem w_X9_test_b15 {w : zWd} {X : zX} {l0 : Launch} {r : Int32} {S1 : zMem} (C : zC LM w X l0 cX9_test RX9 9 4 (some .int)) {S : zMem} {ls : Array Slot} (hl : lv_has ls 9 []) (h : X9_test_b15  S = some (r, S1)) : zV LM w X (some (.int r)) S1 S 15 ls [] := by
  unfold X9_test_b15 at h
  refine v_iconst 15 C (v := (-1 : Int32)) dX9_test_15 (by decide) ?_
  exact v_ireturn 16 C dX9_test_16 h
set_option maxRecDepth 20000 in
theorem w_X9_test_b104 {w : zWd} {X : zX} {l0 : Launch} {r : Int32} {S1 : zMem} (C : zC LM w X l0 cX9_test RX9 9 4 (some .int)) {k56 : Int32 → Int32 → Int32 → Int32 → Int32 → zMem → Option (Int32 × zMem)} (hc56 : ∀ (x1 : Int32) (x4 : Int32) (x5 : Int32) (x6 : Int32) (x7 : Int32) (S : zMem) (ls : Array Slot), lv_has ls 9 [(0, .ref (w.2.2.1 0)), (1, .int x1), (4, .int x4), (5, .int x5), (6, .int x6), (7, .int x7)] → k56 x1 x4 x5 x6 x7 S = some (r, S1) → zV LM w X (some (.int r)) S1 S 56 ls []) {x1 : Int32} {x4 : Int32} {x5 : Int32} {x7 : Int32} {s0 : Int32} {S : zMem} {ls : Array Slot} (hl : lv_has ls 9 [(0, .ref (w.2.2.1 0)), (1, .int x1), (4, .int x4), (5, .int x5), (7, .int x7)]) (h : X9_test_b104 k56 x1 x4 x5 x7 s0 S = some (r, S1)) : zV LM w X (some (.int r)) S1 S 104 ls [.int s0] := by
  unfold X9_test_b104 at h
  refine v_istore 104 C [(6, .int s0), (0, .ref (w.2.2.1 0)), (1, .int x1), (4, .int x4), (5, .int x5), (7, .int x7)] dX9_test_104 hl (by decide) rfl (fun ls hl => ?_)
  refine v_iinc 106 C (nn := (1 : Int32)) (fun v => [(7, .int v), (6, .int s0), (0, .ref (w.2.2.1 0)), (1, .int x1), (4, .int x4), (5, .int x5)]) dX9_test_106 hl (k := 5) rfl (by decide) (by decide) (fun _ => rfl) h (fun v1 ls hl h => ?_)
  refine v_goto 109 56 C dX9_test_109 (by decide) ?_
  exact hc56 _ _ _ _ _ _ _ (lv_sub hl [2, 3, 4, 5, 1, 0] rfl) h
set_option maxRecDepth 20000 in
theorem w_X9_test_b88 {w : zWd} {X : zX} {l0 : Launch} {r : Int32} {S1 : zMem} (C : zC LM w X l0 cX9_test RX9 9 4 (some .int)) {k56 : Int32 → Int32 → Int32 → Int32 → Int32 → zMem → Option (Int32 × zMem)} (hc56 : ∀ (x1 : Int32) (x4 : Int32) (x5 : Int32) (x6 : Int32) (x7 : Int32) (S : zMem) (ls : Array Slot), lv_has ls 9 [(0, .ref (w.2.2.1 0)), (1, .int x1), (4, .int x4), (5, .int x5), (6, .int x6), (7, .int x7)] → k56 x1 x4 x5 x6 x7 S = some (r, S1) → zV LM w X (some (.int r)) S1 S 56 ls []) {x1 : Int32} {x4 : Int32} {x6 : Int32} {x7 : Int32} {x8 : Int32} {s0 : Int32} {S : zMem} {ls : Array Slot} (hl : lv_has ls 9 [(0, .ref (w.2.2.1 0)), (1, .int x1), (4, .int x4), (6, .int x6), (7, .int x7), (8, .int x8)]) (h : X9_test_b88 k56 x1 x4 x6 x7 x8 s0 S = some (r, S1)) : zV LM w X (some (.int r)) S1 S 88 ls [.int s0] := by
  unfold X9_test_b88 at h
  refine v_istore 88 C [(5, .int s0), (0, .ref (w.2.2.1 0)), (1, .int x1), (4, .int x4), (6, .int x6), (7, .int x7), (8, .int x8)] dX9_test_88 hl (by decide) rfl (fun ls hl => ?_)
  refine v_iload 90 C dX9_test_90 (lv_at hl 6 rfl) ?_
  refine v_iload 92 C dX9_test_92 (lv_at hl 4 rfl) ?_
  refine v_icmp_ge 94 102 C dX9_test_94 (by decide) h (fun h => ?_) (fun h => ?_)
  · refine v_iload 102 C dX9_test_102 (lv_at hl 4 rfl) ?_
    exact w_X9_test_b104 C hc56 (lv_sub hl [1, 2, 3, 0, 5] rfl) h
  · refine v_iload 97 C dX9_test_97 (lv_at hl 6 rfl) ?_
    refine v_goto 99 104 C dX9_test_99 (by decide) ?_
    exact w_X9_test_b104 C hc56 (lv_sub hl [1, 2, 3, 0, 5] rfl) h
set_option maxRecDepth 20000 in
theorem w_X9_test_b56 {w : zWd} {X : zX} {l0 : Launch} {r : Int32} {S1 : zMem} (C : zC LM w X l0 cX9_test RX9 9 4 (some .int)) {k56 : Int32 → Int32 → Int32 → Int32 → Int32 → zMem → Option (Int32 × zMem)} (hc56 : ∀ (x1 : Int32) (x4 : Int32) (x5 : Int32) (x6 : Int32) (x7 : Int32) (S : zMem) (ls : Array Slot), lv_has ls 9 [(0, .ref (w.2.2.1 0)), (1, .int x1), (4, .int x4), (5, .int x5), (6, .int x6), (7, .int x7)] → k56 x1 x4 x5 x6 x7 S = some (r, S1) → zV LM w X (some (.int r)) S1 S 56 ls []) {x1 : Int32} {x4 : Int32} {x5 : Int32} {x6 : Int32} {x7 : Int32} {S : zMem} {ls : Array Slot} (hl : lv_has ls 9 [(0, .ref (w.2.2.1 0)), (1, .int x1), (4, .int x4), (5, .int x5), (6, .int x6), (7, .int x7)]) (h : X9_test_b56 k56 x1 x4 x5 x6 x7 S = some (r, S1)) : zV LM w X (some (.int r)) S1 S 56 ls [] := by
  unfold X9_test_b56 at h
  refine v_iload 56 C dX9_test_56 (lv_at hl 5 rfl) ?_
  refine v_bipush 58 C (v := (10 : Int32)) dX9_test_58 (by decide) ?_
  refine v_icmp_ge 60 112 C dX9_test_60 (by decide) h (fun h => ?_) (fun h => ?_)
  · refine v_aload_n 112 C dX9_test_112 rfl (lv_at hl 0 rfl) ?_
    refine v_iload 113 C dX9_test_113 (lv_at hl 4 rfl) ?_
    refine v_puti 115 C dX9_test_115 fl_X9_60 fp_8_10 rfl kM_0 h (fun S h => ?_)
    refine v_iload 118 C dX9_test_118 (lv_at hl 3 rfl) ?_
    exact v_ireturn 120 C dX9_test_120 h
  · refine v_aload_n 63 C dX9_test_63 rfl (lv_at hl 0 rfl) ?_
    refine v_iload_n 64 C dX9_test_64 rfl (lv_at hl 1 rfl) ?_
    refine v_iload 65 C dX9_test_65 (lv_at hl 2 rfl) ?_
    refine v_iload 67 C dX9_test_67 (lv_at hl 5 rfl) ?_
    obtain ⟨v1, S, hc, h⟩ := zb_e h
    refine v_callVi 69 C (ci := 8) [] dX9_test_69 ml_X9_245 hy_X9_greatestPart (c_X9_greatestPart  hc) (by decide) rfl hl.1 kM_0 rfl (Nat.le_of_ble_eq_true rfl) rfl ?_
    refine v_istore 72 C [(8, .int v1), (0, .ref (w.2.2.1 0)), (1, .int x1), (4, .int x4), (5, .int x5), (6, .int x6), (7, .int x7)] dX9_test_72 hl (by decide) rfl (fun ls hl => ?_)
    refine v_iload 74 C dX9_test_74 (lv_at hl 0 rfl) ?_
    refine v_iload 76 C dX9_test_76 (lv_at hl 5 rfl) ?_
    refine v_icmp_ge 78 86 C dX9_test_78 (by decide) h (fun h => ?_) (fun h => ?_)
    · refine v_iload 86 C dX9_test_86 (lv_at hl 4 rfl) ?_
      exact w_X9_test_b88 C hc56 (lv_sub hl [1, 2, 3, 5, 6, 0] rfl) h
    · refine v_iload 81 C dX9_test_81 (lv_at hl 6 rfl) ?_
      refine v_goto 83 88 C dX9_test_83 (by decide) ?_
      exact w_X9_test_b88 C hc56 (lv_sub hl [1, 2, 3, 5, 6, 0] rfl) h
theorem w_X9_test_l56 {w : zWd} {X : zX} {l0 : Launch} {r : Int32} {S1 : zMem} (C : zC LM w X l0 cX9_test RX9 9 4 (some .int)) : ∀ (n : Nat) (x1 : Int32) (x4 : Int32) (x5 : Int32) (x6 : Int32) (x7 : Int32) (S : zMem) (ls : Array Slot), lv_has ls 9 [(0, .ref (w.2.2.1 0)), (1, .int x1), (4, .int x4), (5, .int x5), (6, .int x6), (7, .int x7)] → X9_test_l56 n x1 x4 x5 x6 x7 S = some (r, S1) → zV LM w X (some (.int r)) S1 S 56 ls [] := by
  intro n
  induction n with
  | zero =>
    intro x1 x4 x5 x6 x7 S ls hl h
    cases (show (none : Option (Int32 × zMem)) = some _ from h)
  | succ n ih =>
    intro x1 x4 x5 x6 x7 S ls hl h
    exact w_X9_test_b56 C ih hl h
set_option maxRecDepth 20000 in
theorem w_X9_test_b0 {w : zWd} {X : zX} {l0 : Launch} {r : Int32} {S1 : zMem} (C : zC LM w X l0 cX9_test RX9 9 4 (some .int)) {x1 : Int32} {x2 : Int32} {S : zMem} {ls : Array Slot} (hl : lv_has ls 9 [(0, .ref (w.2.2.1 0)), (1, .int x1), (2, .int x2)]) (h : X9_test_b0 x1 x2 S = some (r, S1)) : zV LM w X (some (.int r)) S1 S 0 ls [] := by
  unfold X9_test_b0 at h
  refine v_aload_n 0 C dX9_test_0 rfl (lv_at hl 0 rfl) ?_
  refine v_iload_n 1 C dX9_test_1 rfl (lv_at hl 1 rfl) ?_
  obtain ⟨v1, S, hc, h⟩ := zb_e h
  refine v_callVi 2 C (ci := 8) [] dX9_test_2 ml_X9_186 hy_X9_isLetter (c_X9_isLetter  hc) (by decide) rfl hl.1 kM_0 rfl (Nat.le_of_ble_eq_true rfl) rfl ?_
  refine v_if_eq 5 15 C dX9_test_5 (by decide) h (fun h => ?_) (fun h => ?_)
  · exact w_X9_test_b15 C (lv_sub hl [] rfl) h
  · refine v_iload_n 8 C dX9_test_8 rfl (lv_at hl 2 rfl) ?_
    obtain ⟨v2, S, hc, h⟩ := zb_e h
    refine v_callSi 9 C [] dX9_test_9 ml_X9_71 hy_X9_isRow (c_X9_isRow  hc) (by decide) rfl hl.1 (Nat.le_of_ble_eq_true rfl) rfl ?_
    refine v_if_ne 12 17 C dX9_test_12 (by decide) h (fun h => ?_) (fun h => ?_)
    · refine v_aload_n 17 C dX9_test_17 rfl (lv_at hl 0 rfl) ?_
      refine v_iload_n 18 C dX9_test_18 rfl (lv_at hl 2 rfl) ?_
      obtain ⟨v3, S, hc, h⟩ := zb_e h
      refine v_callVi 19 C (ci := 8) [] dX9_test_19 ml_X9_238 hy_X9_noPairs (c_X9_noPairs  hc) (by decide) rfl hl.1 kM_0 rfl (Nat.le_of_ble_eq_true rfl) rfl ?_
      refine v_istore_n 22 C [(3, .int v3), (0, .ref (w.2.2.1 0)), (1, .int x1), (2, .int x2)] dX9_test_22 rfl hl (by decide) rfl (fun ls hl => ?_)
      refine v_iload_n 23 C dX9_test_23 rfl (lv_at hl 0 rfl) ?_
      refine v_if_eq 24 29 C dX9_test_24 (by decide) h (fun h => ?_) (fun h => ?_)
      · refine v_aload_n 29 C dX9_test_29 rfl (lv_at hl 1 rfl) ?_
        refine v_iload_n 30 C dX9_test_30 rfl (lv_at hl 2 rfl) ?_
        refine v_iload_n 31 C dX9_test_31 rfl (lv_at hl 3 rfl) ?_
        obtain ⟨v4, S, hc, h⟩ := zb_e h
        refine v_callVi 32 C (ci := 8) [] dX9_test_32 ml_X9_241 hy_X9_wordsBy (c_X9_wordsBy  hc) (by decide) rfl hl.1 kM_0 rfl (Nat.le_of_ble_eq_true rfl) rfl ?_
        refine v_istore 35 C [(4, .int v4), (3, .int v3), (0, .ref (w.2.2.1 0)), (1, .int x1), (2, .int x2)] dX9_test_35 hl (by decide) rfl (fun ls hl => ?_)
        refine v_iload 37 C dX9_test_37 (lv_at hl 0 rfl) ?_
        refine v_if_ne 39 45 C dX9_test_39 (by decide) h (fun h => ?_) (fun h => ?_)
        · refine v_bipush 45 C (v := (-9 : Int32)) dX9_test_45 (by decide) ?_
          refine v_istore 47 C [(5, .int (-9 : Int32)), (4, .int v4), (3, .int v3), (0, .ref (w.2.2.1 0)), (1, .int x1), (2, .int x2)] dX9_test_47 hl (by decide) rfl (fun ls hl => ?_)
          refine v_ldc 49 C (v := 99999) dX9_test_49 co_X9_244 ?_
          refine v_istore 51 C [(6, .int (99999 : Int32)), (5, .int (-9 : Int32)), (4, .int v4), (3, .int v3), (0, .ref (w.2.2.1 0)), (1, .int x1), (2, .int x2)] dX9_test_51 hl (by decide) rfl (fun ls hl => ?_)
          refine v_iconst 53 C (v := (0 : Int32)) dX9_test_53 (by decide) ?_
          refine v_istore 54 C [(7, .int (0 : Int32)), (6, .int (99999 : Int32)), (5, .int (-9 : Int32)), (4, .int v4), (3, .int v3), (0, .ref (w.2.2.1 0)), (1, .int x1), (2, .int x2)] dX9_test_54 hl (by decide) rfl (fun ls hl => ?_)
          exact w_X9_test_l56 C zF _ _ _ _ _ _ _ (lv_sub hl [5, 6, 3, 2, 1, 0] rfl) h
        · refine v_bipush 42 C (v := (-9 : Int32)) dX9_test_42 (by decide) ?_
          exact v_ireturn 44 C dX9_test_44 h
      · refine v_iload_n 27 C dX9_test_27 rfl (lv_at hl 0 rfl) ?_
        exact v_ireturn 28 C dX9_test_28 h
    · exact w_X9_test_b15 C (lv_sub hl [] rfl) h
theorem c_X9_test {w : zWd} {l0 : Launch} {x1 : Int32} {x2 : Int32} {S S1 : zMem} {r : Int32} (h : f_X9_test x1 x2 S = some (r, S1)) : zMet LM w l0 yX9_test cX9_test 9 (some .int) 4 [.ref (w.2.2.1 0), .int x1, .int x2] S (some (.int r)) S1 :=
  zMet_of (by decide +kernel) (Nat.le_of_ble_eq_true rfl) (fun X ls C hl => w_X9_test_b0 C hl h)
theorem co_X9_248 : Cond.constantLong RX9 248 54 ∈ zT := zT_of (List.mem_of_getElem? (i := 1252) (by decide +kernel)) rfl
theorem dX9_noSets_0 : decode cX9_noSets 0 = .ok (.iload_n 1, 1) := by decide +kernel
theorem dX9_noSets_1 : decode cX9_noSets 1 = .ok (.i2l, 1) := by decide +kernel
theorem dX9_noSets_2 : decode cX9_noSets 2 = .ok (.lconst 0, 1) := by decide +kernel
theorem dX9_noSets_3 : decode cX9_noSets 3 = .ok (.ldc2_w 248, 3) := by decide +kernel
theorem dX9_noSets_6 : decode cX9_noSets 6 = .ok (.invokestatic 65, 3) := by decide +kernel
theorem dX9_noSets_9 : decode cX9_noSets 9 = .ok (.ifCond .ne 7, 3) := by decide +kernel
theorem dX9_noSets_12 : decode cX9_noSets 12 = .ok (.iconst (-1), 1) := by decide +kernel
theorem dX9_noSets_13 : decode cX9_noSets 13 = .ok (.goto 16, 3) := by decide +kernel
theorem dX9_noSets_16 : decode cX9_noSets 16 = .ok (.aload_n 0, 1) := by decide +kernel
theorem dX9_noSets_17 : decode cX9_noSets 17 = .ok (.getfield 152, 3) := by decide +kernel
theorem dX9_noSets_20 : decode cX9_noSets 20 = .ok (.ifCond .ne 8, 3) := by decide +kernel
theorem dX9_noSets_23 : decode cX9_noSets 23 = .ok (.bipush (-4), 2) := by decide +kernel
theorem dX9_noSets_25 : decode cX9_noSets 25 = .ok (.goto 4, 3) := by decide +kernel
theorem dX9_noSets_28 : decode cX9_noSets 28 = .ok (.iconst 0, 1) := by decide +kernel
theorem dX9_noSets_29 : decode cX9_noSets 29 = .ok (.ireturn, 1) := by decide +kernel
set_option maxRecDepth 20000 in
theorem w_X9_noSets_b29 {w : zWd} {X : zX} {l0 : Launch} {r : Int32} {S1 : zMem} (C : zC LM w X l0 cX9_noSets RX9 2 2 (some .int)) {s0 : Int32} {S : zMem} {ls : Array Slot} (hl : lv_has ls 2 []) (h : X9_noSets_b29 s0 S = some (r, S1)) : zV LM w X (some (.int r)) S1 S 29 ls [.int s0] := by
  unfold X9_noSets_b29 at h
  exact v_ireturn 29 C dX9_noSets_29 h
set_option maxRecDepth 20000 in
theorem w_X9_noSets_b0 {w : zWd} {X : zX} {l0 : Launch} {r : Int32} {S1 : zMem} (C : zC LM w X l0 cX9_noSets RX9 2 2 (some .int)) {x1 : Int32} {S : zMem} {ls : Array Slot} (hl : lv_has ls 2 [(0, .ref (w.2.2.1 0)), (1, .int x1)]) (h : X9_noSets_b0 x1 S = some (r, S1)) : zV LM w X (some (.int r)) S1 S 0 ls [] := by
  unfold X9_noSets_b0 at h
  refine v_iload_n 0 C dX9_noSets_0 rfl (lv_at hl 1 rfl) ?_
  refine v_i2l 1 C dX9_noSets_1 h (fun v1 h => ?_)
  refine v_lconst 2 C (v := 0) dX9_noSets_2 (by decide) ?_
  refine v_ldc2 3 C (v := 54) dX9_noSets_3 co_X9_248 ?_
  obtain ⟨v2, S, hc, h⟩ := zb_e h
  refine v_callSi 6 C [] dX9_noSets_6 ml_X9_65 hy_X9_in (c_X9_in  hc) (by decide) rfl hl.1 (Nat.le_of_ble_eq_true rfl) rfl ?_
  refine v_if_ne 9 16 C dX9_noSets_9 (by decide) h (fun h => ?_) (fun h => ?_)
  · refine v_aload_n 16 C dX9_noSets_16 rfl (lv_at hl 0 rfl) ?_
    refine v_geti 17 C dX9_noSets_17 fl_X9_152 rfl kM_0 h (fun v3 h => ?_)
    refine v_if_ne 20 28 C dX9_noSets_20 (by decide) h (fun h => ?_) (fun h => ?_)
    · refine v_iconst 28 C (v := (0 : Int32)) dX9_noSets_28 (by decide) ?_
      exact w_X9_noSets_b29 C (lv_sub hl [] rfl) h
    · refine v_bipush 23 C (v := (-4 : Int32)) dX9_noSets_23 (by decide) ?_
      refine v_goto 25 29 C dX9_noSets_25 (by decide) ?_
      exact w_X9_noSets_b29 C (lv_sub hl [] rfl) h
  · refine v_iconst 12 C (v := (-1 : Int32)) dX9_noSets_12 (by decide) ?_
    refine v_goto 13 29 C dX9_noSets_13 (by decide) ?_
    exact w_X9_noSets_b29 C (lv_sub hl [] rfl) h
theorem c_X9_noSets {w : zWd} {l0 : Launch} {x1 : Int32} {S S1 : zMem} {r : Int32} (h : f_X9_noSets x1 S = some (r, S1)) : zMet LM w l0 yX9_noSets cX9_noSets 2 (some .int) 2 [.ref (w.2.2.1 0), .int x1] S (some (.int r)) S1 :=
  zMet_of (by decide +kernel) (Nat.le_of_ble_eq_true rfl) (fun X ls C hl => w_X9_noSets_b0 C hl h)
theorem dX9_wordsOf_0 : decode cX9_wordsOf 0 = .ok (.iconst 0, 1) := by decide +kernel
theorem dX9_wordsOf_1 : decode cX9_wordsOf 1 = .ok (.istore_n 2, 1) := by decide +kernel
theorem dX9_wordsOf_2 : decode cX9_wordsOf 2 = .ok (.iconst 0, 1) := by decide +kernel
theorem dX9_wordsOf_3 : decode cX9_wordsOf 3 = .ok (.istore_n 3, 1) := by decide +kernel
theorem dX9_wordsOf_4 : decode cX9_wordsOf 4 = .ok (.iload_n 3, 1) := by decide +kernel
theorem dX9_wordsOf_5 : decode cX9_wordsOf 5 = .ok (.aload_n 0, 1) := by decide +kernel
theorem dX9_wordsOf_6 : decode cX9_wordsOf 6 = .ok (.getfield 152, 3) := by decide +kernel
theorem dX9_wordsOf_9 : decode cX9_wordsOf 9 = .ok (.if_icmp .ge 30, 3) := by decide +kernel
theorem dX9_wordsOf_12 : decode cX9_wordsOf 12 = .ok (.iload_n 2, 1) := by decide +kernel
theorem dX9_wordsOf_13 : decode cX9_wordsOf 13 = .ok (.iload_n 1, 1) := by decide +kernel
theorem dX9_wordsOf_14 : decode cX9_wordsOf 14 = .ok (.iload_n 3, 1) := by decide +kernel
theorem dX9_wordsOf_15 : decode cX9_wordsOf 15 = .ok (.invokestatic 176, 3) := by decide +kernel
theorem dX9_wordsOf_18 : decode cX9_wordsOf 18 = .ok (.ifCond .eq 12, 3) := by decide +kernel
theorem dX9_wordsOf_21 : decode cX9_wordsOf 21 = .ok (.aload_n 0, 1) := by decide +kernel
theorem dX9_wordsOf_22 : decode cX9_wordsOf 22 = .ok (.getfield 19, 3) := by decide +kernel
theorem dX9_wordsOf_25 : decode cX9_wordsOf 25 = .ok (.iload_n 3, 1) := by decide +kernel
theorem dX9_wordsOf_26 : decode cX9_wordsOf 26 = .ok (.iaload, 1) := by decide +kernel
theorem dX9_wordsOf_27 : decode cX9_wordsOf 27 = .ok (.goto 4, 3) := by decide +kernel
theorem dX9_wordsOf_30 : decode cX9_wordsOf 30 = .ok (.iconst 0, 1) := by decide +kernel
theorem dX9_wordsOf_31 : decode cX9_wordsOf 31 = .ok (.iadd, 1) := by decide +kernel
theorem dX9_wordsOf_32 : decode cX9_wordsOf 32 = .ok (.istore_n 2, 1) := by decide +kernel
theorem dX9_wordsOf_33 : decode cX9_wordsOf 33 = .ok (.iinc 3 1, 3) := by decide +kernel
theorem dX9_wordsOf_36 : decode cX9_wordsOf 36 = .ok (.goto (-32), 3) := by decide +kernel
theorem dX9_wordsOf_39 : decode cX9_wordsOf 39 = .ok (.iload_n 2, 1) := by decide +kernel
theorem dX9_wordsOf_40 : decode cX9_wordsOf 40 = .ok (.ireturn, 1) := by decide +kernel
set_option maxRecDepth 20000 in
theorem w_X9_wordsOf_b31 {w : zWd} {X : zX} {l0 : Launch} {r : Int32} {S1 : zMem} (C : zC LM w X l0 cX9_wordsOf RX9 4 2 (some .int)) {k4 : Int32 → Int32 → Int32 → zMem → Option (Int32 × zMem)} (hc4 : ∀ (x1 : Int32) (x2 : Int32) (x3 : Int32) (S : zMem) (ls : Array Slot), lv_has ls 4 [(0, .ref (w.2.2.1 0)), (1, .int x1), (2, .int x2), (3, .int x3)] → k4 x1 x2 x3 S = some (r, S1) → zV LM w X (some (.int r)) S1 S 4 ls []) {x1 : Int32} {x3 : Int32} {s0 : Int32} {s1 : Int32} {S : zMem} {ls : Array Slot} (hl : lv_has ls 4 [(0, .ref (w.2.2.1 0)), (1, .int x1), (3, .int x3)]) (h : X9_wordsOf_b31 k4 x1 x3 s0 s1 S = some (r, S1)) : zV LM w X (some (.int r)) S1 S 31 ls [.int s1, .int s0] := by
  unfold X9_wordsOf_b31 at h
  refine v_iadd 31 C dX9_wordsOf_31 h (fun v1 h => ?_)
  refine v_istore_n 32 C [(2, .int v1), (0, .ref (w.2.2.1 0)), (1, .int x1), (3, .int x3)] dX9_wordsOf_32 rfl hl (by decide) rfl (fun ls hl => ?_)
  refine v_iinc 33 C (nn := (1 : Int32)) (fun v => [(3, .int v), (2, .int v1), (0, .ref (w.2.2.1 0)), (1, .int x1)]) dX9_wordsOf_33 hl (k := 3) rfl (by decide) (by decide) (fun _ => rfl) h (fun v2 ls hl h => ?_)
  refine v_goto 36 4 C dX9_wordsOf_36 (by decide) ?_
  exact hc4 _ _ _ _ _ (lv_sub hl [2, 3, 1, 0] rfl) h
set_option maxRecDepth 20000 in
theorem w_X9_wordsOf_b4 {w : zWd} {X : zX} {l0 : Launch} {r : Int32} {S1 : zMem} (C : zC LM w X l0 cX9_wordsOf RX9 4 2 (some .int)) {k4 : Int32 → Int32 → Int32 → zMem → Option (Int32 × zMem)} (hc4 : ∀ (x1 : Int32) (x2 : Int32) (x3 : Int32) (S : zMem) (ls : Array Slot), lv_has ls 4 [(0, .ref (w.2.2.1 0)), (1, .int x1), (2, .int x2), (3, .int x3)] → k4 x1 x2 x3 S = some (r, S1) → zV LM w X (some (.int r)) S1 S 4 ls []) {x1 : Int32} {x2 : Int32} {x3 : Int32} {S : zMem} {ls : Array Slot} (hl : lv_has ls 4 [(0, .ref (w.2.2.1 0)), (1, .int x1), (2, .int x2), (3, .int x3)]) (h : X9_wordsOf_b4 k4 x1 x2 x3 S = some (r, S1)) : zV LM w X (some (.int r)) S1 S 4 ls [] := by
  unfold X9_wordsOf_b4 at h
  refine v_iload_n 4 C dX9_wordsOf_4 rfl (lv_at hl 3 rfl) ?_
  refine v_aload_n 5 C dX9_wordsOf_5 rfl (lv_at hl 0 rfl) ?_
  refine v_geti 6 C dX9_wordsOf_6 fl_X9_152 rfl kM_0 h (fun v1 h => ?_)
  refine v_icmp_ge 9 39 C dX9_wordsOf_9 (by decide) h (fun h => ?_) (fun h => ?_)
  · refine v_iload_n 39 C dX9_wordsOf_39 rfl (lv_at hl 2 rfl) ?_
    exact v_ireturn 40 C dX9_wordsOf_40 h
  · refine v_iload_n 12 C dX9_wordsOf_12 rfl (lv_at hl 2 rfl) ?_
    refine v_iload_n 13 C dX9_wordsOf_13 rfl (lv_at hl 1 rfl) ?_
    refine v_iload_n 14 C dX9_wordsOf_14 rfl (lv_at hl 3 rfl) ?_
    obtain ⟨v2, S, hc, h⟩ := zb_e h
    refine v_callSi 15 C [.int x2] dX9_wordsOf_15 ml_X9_176 hy_X9_has (c_X9_has  hc) (by decide) rfl hl.1 (Nat.le_of_ble_eq_true rfl) rfl ?_
    refine v_if_eq 18 30 C dX9_wordsOf_18 (by decide) h (fun h => ?_) (fun h => ?_)
    · refine v_iconst 30 C (v := (0 : Int32)) dX9_wordsOf_30 (by decide) ?_
      exact w_X9_wordsOf_b31 C hc4 (lv_sub hl [0, 1, 3] rfl) h
    · refine v_aload_n 21 C dX9_wordsOf_21 rfl (lv_at hl 0 rfl) ?_
      refine v_getr 22 (4) C dX9_wordsOf_22 fl_X9_19 rfl kM_0 rfl ?_
      refine v_iload_n 25 C dX9_wordsOf_25 rfl (lv_at hl 3 rfl) ?_
      refine v_iald 26 C dX9_wordsOf_26 kM_4 rfl h (fun v3 h => ?_)
      refine v_goto 27 31 C dX9_wordsOf_27 (by decide) ?_
      exact w_X9_wordsOf_b31 C hc4 (lv_sub hl [0, 1, 3] rfl) h
theorem w_X9_wordsOf_l4 {w : zWd} {X : zX} {l0 : Launch} {r : Int32} {S1 : zMem} (C : zC LM w X l0 cX9_wordsOf RX9 4 2 (some .int)) : ∀ (n : Nat) (x1 : Int32) (x2 : Int32) (x3 : Int32) (S : zMem) (ls : Array Slot), lv_has ls 4 [(0, .ref (w.2.2.1 0)), (1, .int x1), (2, .int x2), (3, .int x3)] → X9_wordsOf_l4 n x1 x2 x3 S = some (r, S1) → zV LM w X (some (.int r)) S1 S 4 ls [] := by
  intro n
  induction n with
  | zero =>
    intro x1 x2 x3 S ls hl h
    cases (show (none : Option (Int32 × zMem)) = some _ from h)
  | succ n ih =>
    intro x1 x2 x3 S ls hl h
    exact w_X9_wordsOf_b4 C ih hl h
set_option maxRecDepth 20000 in
theorem w_X9_wordsOf_b0 {w : zWd} {X : zX} {l0 : Launch} {r : Int32} {S1 : zMem} (C : zC LM w X l0 cX9_wordsOf RX9 4 2 (some .int)) {x1 : Int32} {S : zMem} {ls : Array Slot} (hl : lv_has ls 4 [(0, .ref (w.2.2.1 0)), (1, .int x1)]) (h : X9_wordsOf_b0 x1 S = some (r, S1)) : zV LM w X (some (.int r)) S1 S 0 ls [] := by
  unfold X9_wordsOf_b0 at h
  refine v_iconst 0 C (v := (0 : Int32)) dX9_wordsOf_0 (by decide) ?_
  refine v_istore_n 1 C [(2, .int (0 : Int32)), (0, .ref (w.2.2.1 0)), (1, .int x1)] dX9_wordsOf_1 rfl hl (by decide) rfl (fun ls hl => ?_)
  refine v_iconst 2 C (v := (0 : Int32)) dX9_wordsOf_2 (by decide) ?_
  refine v_istore_n 3 C [(3, .int (0 : Int32)), (2, .int (0 : Int32)), (0, .ref (w.2.2.1 0)), (1, .int x1)] dX9_wordsOf_3 rfl hl (by decide) rfl (fun ls hl => ?_)
  exact w_X9_wordsOf_l4 C zF _ _ _ _ _ (lv_sub hl [2, 3, 1, 0] rfl) h
theorem c_X9_wordsOf {w : zWd} {l0 : Launch} {x1 : Int32} {S S1 : zMem} {r : Int32} (h : f_X9_wordsOf x1 S = some (r, S1)) : zMet LM w l0 yX9_wordsOf cX9_wordsOf 4 (some .int) 2 [.ref (w.2.2.1 0), .int x1] S (some (.int r)) S1 :=
  zMet_of (by decide +kernel) (Nat.le_of_ble_eq_true rfl) (fun X ls C hl => w_X9_wordsOf_b0 C hl h)
theorem fl_X9_256 : zFL RX9 256 8 11 := ⟨_, rfl, by decide, zT_of (List.mem_of_getElem? (i := 881) (by decide +kernel)) rfl⟩
theorem fp_8_11 : zFP 8 11 .long := fun q h => by cases h; exact ⟨rfl, by decide +kernel⟩
theorem fl_X9_34 : zFL RX9 34 8 12 := ⟨_, rfl, by decide, zT_of (List.mem_of_getElem? (i := 882) (by decide +kernel)) rfl⟩
theorem fp_8_12 : zFP 8 12 .long := fun q h => by cases h; exact ⟨rfl, by decide +kernel⟩
theorem ml_X9_253 : Cond.methodLink RX9 253 yX9_wordsOf ∈ zT := zT_of (List.mem_of_getElem? (i := 1253) (by decide +kernel)) rfl
theorem hy_X9_wordsOf : zYv yX9_wordsOf cX9_wordsOf 4 (some .int) 1 := ⟨⟨zT_of (List.mem_of_getElem? (i := 1256) (by decide +kernel)) rfl, zT_of (List.mem_of_getElem? (i := 78) (by decide +kernel)) rfl, by decide, by decide +kernel, by decide +kernel, by decide +kernel⟩, zT_of (List.mem_of_getElem? (i := 1255) (by decide +kernel)) rfl, zT_of (List.mem_of_getElem? (i := 58) (by decide +kernel)) rfl⟩
theorem ml_X9_250 : Cond.methodLink RX9 250 yX9_noSets ∈ zT := zT_of (List.mem_of_getElem? (i := 1248) (by decide +kernel)) rfl
theorem hy_X9_noSets : zYv yX9_noSets cX9_noSets 2 (some .int) 1 := ⟨⟨zT_of (List.mem_of_getElem? (i := 1251) (by decide +kernel)) rfl, zT_of (List.mem_of_getElem? (i := 78) (by decide +kernel)) rfl, by decide, by decide +kernel, by decide +kernel, by decide +kernel⟩, zT_of (List.mem_of_getElem? (i := 1250) (by decide +kernel)) rfl, zT_of (List.mem_of_getElem? (i := 57) (by decide +kernel)) rfl⟩
theorem dX9_sets_0 : decode cX9_sets 0 = .ok (.aload_n 0, 1) := by decide +kernel
theorem dX9_sets_1 : decode cX9_sets 1 = .ok (.iload_n 1, 1) := by decide +kernel
theorem dX9_sets_2 : decode cX9_sets 2 = .ok (.invokevirtual 250, 3) := by decide +kernel
theorem dX9_sets_5 : decode cX9_sets 5 = .ok (.istore_n 2, 1) := by decide +kernel
theorem dX9_sets_6 : decode cX9_sets 6 = .ok (.iload_n 2, 1) := by decide +kernel
theorem dX9_sets_7 : decode cX9_sets 7 = .ok (.ifCond .eq 5, 3) := by decide +kernel
theorem dX9_sets_10 : decode cX9_sets 10 = .ok (.iload_n 2, 1) := by decide +kernel
theorem dX9_sets_11 : decode cX9_sets 11 = .ok (.ireturn, 1) := by decide +kernel
theorem dX9_sets_12 : decode cX9_sets 12 = .ok (.iconst 0, 1) := by decide +kernel
theorem dX9_sets_13 : decode cX9_sets 13 = .ok (.istore_n 3, 1) := by decide +kernel
theorem dX9_sets_14 : decode cX9_sets 14 = .ok (.aload_n 0, 1) := by decide +kernel
theorem dX9_sets_15 : decode cX9_sets 15 = .ok (.bipush (-9), 2) := by decide +kernel
theorem dX9_sets_17 : decode cX9_sets 17 = .ok (.putfield 60, 3) := by decide +kernel
theorem dX9_sets_20 : decode cX9_sets 20 = .ok (.iconst 1, 1) := by decide +kernel
theorem dX9_sets_21 : decode cX9_sets 21 = .ok (.aload_n 0, 1) := by decide +kernel
theorem dX9_sets_22 : decode cX9_sets 22 = .ok (.getfield 152, 3) := by decide +kernel
theorem dX9_sets_25 : decode cX9_sets 25 = .ok (.ishl, 1) := by decide +kernel
theorem dX9_sets_26 : decode cX9_sets 26 = .ok (.iconst 1, 1) := by decide +kernel
theorem dX9_sets_27 : decode cX9_sets 27 = .ok (.isub, 1) := by decide +kernel
theorem dX9_sets_28 : decode cX9_sets 28 = .ok (.istore 4, 2) := by decide +kernel
theorem dX9_sets_30 : decode cX9_sets 30 = .ok (.iload 4, 2) := by decide +kernel
theorem dX9_sets_32 : decode cX9_sets 32 = .ok (.ifCond .lt 57, 3) := by decide +kernel
theorem dX9_sets_35 : decode cX9_sets 35 = .ok (.aload_n 0, 1) := by decide +kernel
theorem dX9_sets_36 : decode cX9_sets 36 = .ok (.iload 4, 2) := by decide +kernel
theorem dX9_sets_38 : decode cX9_sets 38 = .ok (.invokevirtual 253, 3) := by decide +kernel
theorem dX9_sets_41 : decode cX9_sets 41 = .ok (.iload_n 1, 1) := by decide +kernel
theorem dX9_sets_42 : decode cX9_sets 42 = .ok (.if_icmp .ne 7, 3) := by decide +kernel
theorem dX9_sets_45 : decode cX9_sets 45 = .ok (.iconst 1, 1) := by decide +kernel
theorem dX9_sets_46 : decode cX9_sets 46 = .ok (.goto 4, 3) := by decide +kernel
theorem dX9_sets_49 : decode cX9_sets 49 = .ok (.iconst 0, 1) := by decide +kernel
theorem dX9_sets_50 : decode cX9_sets 50 = .ok (.istore 5, 2) := by decide +kernel
theorem dX9_sets_52 : decode cX9_sets 52 = .ok (.iload_n 3, 1) := by decide +kernel
theorem dX9_sets_53 : decode cX9_sets 53 = .ok (.iload 5, 2) := by decide +kernel
theorem dX9_sets_55 : decode cX9_sets 55 = .ok (.ifCond .eq 7, 3) := by decide +kernel
theorem dX9_sets_58 : decode cX9_sets 58 = .ok (.iconst 1, 1) := by decide +kernel
theorem dX9_sets_59 : decode cX9_sets 59 = .ok (.goto 4, 3) := by decide +kernel
theorem dX9_sets_62 : decode cX9_sets 62 = .ok (.iconst 0, 1) := by decide +kernel
theorem dX9_sets_63 : decode cX9_sets 63 = .ok (.iadd, 1) := by decide +kernel
theorem dX9_sets_64 : decode cX9_sets 64 = .ok (.istore_n 3, 1) := by decide +kernel
theorem dX9_sets_65 : decode cX9_sets 65 = .ok (.aload_n 0, 1) := by decide +kernel
theorem dX9_sets_66 : decode cX9_sets 66 = .ok (.iload 5, 2) := by decide +kernel
theorem dX9_sets_68 : decode cX9_sets 68 = .ok (.ifCond .eq 8, 3) := by decide +kernel
theorem dX9_sets_71 : decode cX9_sets 71 = .ok (.iload 4, 2) := by decide +kernel
theorem dX9_sets_73 : decode cX9_sets 73 = .ok (.goto 7, 3) := by decide +kernel
theorem dX9_sets_76 : decode cX9_sets 76 = .ok (.aload_n 0, 1) := by decide +kernel
theorem dX9_sets_77 : decode cX9_sets 77 = .ok (.getfield 60, 3) := by decide +kernel
theorem dX9_sets_80 : decode cX9_sets 80 = .ok (.putfield 60, 3) := by decide +kernel
theorem dX9_sets_83 : decode cX9_sets 83 = .ok (.iinc 4 (-1), 3) := by decide +kernel
theorem dX9_sets_86 : decode cX9_sets 86 = .ok (.goto (-56), 3) := by decide +kernel
theorem dX9_sets_89 : decode cX9_sets 89 = .ok (.aload_n 0, 1) := by decide +kernel
theorem dX9_sets_90 : decode cX9_sets 90 = .ok (.iload_n 3, 1) := by decide +kernel
theorem dX9_sets_91 : decode cX9_sets 91 = .ok (.i2l, 1) := by decide +kernel
theorem dX9_sets_92 : decode cX9_sets 92 = .ok (.putfield 256, 3) := by decide +kernel
theorem dX9_sets_95 : decode cX9_sets 95 = .ok (.aload_n 0, 1) := by decide +kernel
theorem dX9_sets_96 : decode cX9_sets 96 = .ok (.lconst 1, 1) := by decide +kernel
theorem dX9_sets_97 : decode cX9_sets 97 = .ok (.putfield 34, 3) := by decide +kernel
theorem dX9_sets_100 : decode cX9_sets 100 = .ok (.iconst 1, 1) := by decide +kernel
theorem dX9_sets_101 : decode cX9_sets 101 = .ok (.ireturn, 1) := by decide +kernel
set_option maxRecDepth 20000 in
theorem w_X9_sets_b80 {w : zWd} {X : zX} {l0 : Launch} {r : Int32} {S1 : zMem} (C : zC LM w X l0 cX9_sets RX9 6 3 (some .int)) {k30 : Int32 → Int32 → Int32 → zMem → Option (Int32 × zMem)} (hc30 : ∀ (x1 : Int32) (x3 : Int32) (x4 : Int32) (S : zMem) (ls : Array Slot), lv_has ls 6 [(0, .ref (w.2.2.1 0)), (1, .int x1), (3, .int x3), (4, .int x4)] → k30 x1 x3 x4 S = some (r, S1) → zV LM w X (some (.int r)) S1 S 30 ls []) {x1 : Int32} {x3 : Int32} {x4 : Int32} {s1 : Int32} {S : zMem} {ls : Array Slot} (hl : lv_has ls 6 [(0, .ref (w.2.2.1 0)), (1, .int x1), (3, .int x3), (4, .int x4)]) (h : X9_sets_b80 k30 x1 x3 x4 s1 S = some (r, S1)) : zV LM w X (some (.int r)) S1 S 80 ls [.int s1, .ref (w.2.2.1 0)] := by
  unfold X9_sets_b80 at h
  refine v_puti 80 C dX9_sets_80 fl_X9_60 fp_8_10 rfl kM_0 h (fun S h => ?_)
  refine v_iinc 83 C (nn := (-1 : Int32)) (fun v => [(4, .int v), (0, .ref (w.2.2.1 0)), (1, .int x1), (3, .int x3)]) dX9_sets_83 hl (k := 3) rfl (by decide) (by decide) (fun _ => rfl) h (fun v1 ls hl h => ?_)
  refine v_goto 86 30 C dX9_sets_86 (by decide) ?_
  exact hc30 _ _ _ _ _ (lv_sub hl [1, 2, 3, 0] rfl) h
set_option maxRecDepth 20000 in
theorem w_X9_sets_b63 {w : zWd} {X : zX} {l0 : Launch} {r : Int32} {S1 : zMem} (C : zC LM w X l0 cX9_sets RX9 6 3 (some .int)) {k30 : Int32 → Int32 → Int32 → zMem → Option (Int32 × zMem)} (hc30 : ∀ (x1 : Int32) (x3 : Int32) (x4 : Int32) (S : zMem) (ls : Array Slot), lv_has ls 6 [(0, .ref (w.2.2.1 0)), (1, .int x1), (3, .int x3), (4, .int x4)] → k30 x1 x3 x4 S = some (r, S1) → zV LM w X (some (.int r)) S1 S 30 ls []) {x1 : Int32} {x4 : Int32} {x5 : Int32} {s0 : Int32} {s1 : Int32} {S : zMem} {ls : Array Slot} (hl : lv_has ls 6 [(0, .ref (w.2.2.1 0)), (1, .int x1), (4, .int x4), (5, .int x5)]) (h : X9_sets_b63 k30 x1 x4 x5 s0 s1 S = some (r, S1)) : zV LM w X (some (.int r)) S1 S 63 ls [.int s1, .int s0] := by
  unfold X9_sets_b63 at h
  refine v_iadd 63 C dX9_sets_63 h (fun v1 h => ?_)
  refine v_istore_n 64 C [(3, .int v1), (0, .ref (w.2.2.1 0)), (1, .int x1), (4, .int x4), (5, .int x5)] dX9_sets_64 rfl hl (by decide) rfl (fun ls hl => ?_)
  refine v_aload_n 65 C dX9_sets_65 rfl (lv_at hl 1 rfl) ?_
  refine v_iload 66 C dX9_sets_66 (lv_at hl 4 rfl) ?_
  refine v_if_eq 68 76 C dX9_sets_68 (by decide) h (fun h => ?_) (fun h => ?_)
  · refine v_aload_n 76 C dX9_sets_76 rfl (lv_at hl 1 rfl) ?_
    refine v_geti 77 C dX9_sets_77 fl_X9_60 rfl kM_0 h (fun v2 h => ?_)
    exact w_X9_sets_b80 C hc30 (lv_sub hl [1, 2, 0, 3] rfl) h
  · refine v_iload 71 C dX9_sets_71 (lv_at hl 3 rfl) ?_
    refine v_goto 73 80 C dX9_sets_73 (by decide) ?_
    exact w_X9_sets_b80 C hc30 (lv_sub hl [1, 2, 0, 3] rfl) h
set_option maxRecDepth 20000 in
theorem w_X9_sets_b50 {w : zWd} {X : zX} {l0 : Launch} {r : Int32} {S1 : zMem} (C : zC LM w X l0 cX9_sets RX9 6 3 (some .int)) {k30 : Int32 → Int32 → Int32 → zMem → Option (Int32 × zMem)} (hc30 : ∀ (x1 : Int32) (x3 : Int32) (x4 : Int32) (S : zMem) (ls : Array Slot), lv_has ls 6 [(0, .ref (w.2.2.1 0)), (1, .int x1), (3, .int x3), (4, .int x4)] → k30 x1 x3 x4 S = some (r, S1) → zV LM w X (some (.int r)) S1 S 30 ls []) {x1 : Int32} {x3 : Int32} {x4 : Int32} {s0 : Int32} {S : zMem} {ls : Array Slot} (hl : lv_has ls 6 [(0, .ref (w.2.2.1 0)), (1, .int x1), (3, .int x3), (4, .int x4)]) (h : X9_sets_b50 k30 x1 x3 x4 s0 S = some (r, S1)) : zV LM w X (some (.int r)) S1 S 50 ls [.int s0] := by
  unfold X9_sets_b50 at h
  refine v_istore 50 C [(5, .int s0), (0, .ref (w.2.2.1 0)), (1, .int x1), (3, .int x3), (4, .int x4)] dX9_sets_50 hl (by decide) rfl (fun ls hl => ?_)
  refine v_iload_n 52 C dX9_sets_52 rfl (lv_at hl 3 rfl) ?_
  refine v_iload 53 C dX9_sets_53 (lv_at hl 0 rfl) ?_
  refine v_if_eq 55 62 C dX9_sets_55 (by decide) h (fun h => ?_) (fun h => ?_)
  · refine v_iconst 62 C (v := (0 : Int32)) dX9_sets_62 (by decide) ?_
    exact w_X9_sets_b63 C hc30 (lv_sub hl [1, 2, 4, 0] rfl) h
  · refine v_iconst 58 C (v := (1 : Int32)) dX9_sets_58 (by decide) ?_
    refine v_goto 59 63 C dX9_sets_59 (by decide) ?_
    exact w_X9_sets_b63 C hc30 (lv_sub hl [1, 2, 4, 0] rfl) h
set_option maxRecDepth 20000 in
theorem w_X9_sets_b30 {w : zWd} {X : zX} {l0 : Launch} {r : Int32} {S1 : zMem} (C : zC LM w X l0 cX9_sets RX9 6 3 (some .int)) {k30 : Int32 → Int32 → Int32 → zMem → Option (Int32 × zMem)} (hc30 : ∀ (x1 : Int32) (x3 : Int32) (x4 : Int32) (S : zMem) (ls : Array Slot), lv_has ls 6 [(0, .ref (w.2.2.1 0)), (1, .int x1), (3, .int x3), (4, .int x4)] → k30 x1 x3 x4 S = some (r, S1) → zV LM w X (some (.int r)) S1 S 30 ls []) {x1 : Int32} {x3 : Int32} {x4 : Int32} {S : zMem} {ls : Array Slot} (hl : lv_has ls 6 [(0, .ref (w.2.2.1 0)), (1, .int x1), (3, .int x3), (4, .int x4)]) (h : X9_sets_b30 k30 x1 x3 x4 S = some (r, S1)) : zV LM w X (some (.int r)) S1 S 30 ls [] := by
  unfold X9_sets_b30 at h
  refine v_iload 30 C dX9_sets_30 (lv_at hl 3 rfl) ?_
  refine v_if_lt 32 89 C dX9_sets_32 (by decide) h (fun h => ?_) (fun h => ?_)
  · refine v_aload_n 89 C dX9_sets_89 rfl (lv_at hl 0 rfl) ?_
    refine v_iload_n 90 C dX9_sets_90 rfl (lv_at hl 2 rfl) ?_
    refine v_i2l 91 C dX9_sets_91 h (fun v1 h => ?_)
    refine v_putl 92 C dX9_sets_92 fl_X9_256 fp_8_11 rfl kM_0 h (fun S h => ?_)
    refine v_aload_n 95 C dX9_sets_95 rfl (lv_at hl 0 rfl) ?_
    refine v_lconst 96 C (v := 1) dX9_sets_96 (by decide) ?_
    refine v_putl 97 C dX9_sets_97 fl_X9_34 fp_8_12 rfl kM_0 h (fun S h => ?_)
    refine v_iconst 100 C (v := (1 : Int32)) dX9_sets_100 (by decide) ?_
    exact v_ireturn 101 C dX9_sets_101 h
  · refine v_aload_n 35 C dX9_sets_35 rfl (lv_at hl 0 rfl) ?_
    refine v_iload 36 C dX9_sets_36 (lv_at hl 3 rfl) ?_
    obtain ⟨v2, S, hc, h⟩ := zb_e h
    refine v_callVi 38 C (ci := 8) [] dX9_sets_38 ml_X9_253 hy_X9_wordsOf (c_X9_wordsOf  hc) (by decide) rfl hl.1 kM_0 rfl (Nat.le_of_ble_eq_true rfl) rfl ?_
    refine v_iload_n 41 C dX9_sets_41 rfl (lv_at hl 1 rfl) ?_
    refine v_icmp_ne 42 49 C dX9_sets_42 (by decide) h (fun h => ?_) (fun h => ?_)
    · refine v_iconst 49 C (v := (0 : Int32)) dX9_sets_49 (by decide) ?_
      exact w_X9_sets_b50 C hc30 (lv_sub hl [0, 1, 2, 3] rfl) h
    · refine v_iconst 45 C (v := (1 : Int32)) dX9_sets_45 (by decide) ?_
      refine v_goto 46 50 C dX9_sets_46 (by decide) ?_
      exact w_X9_sets_b50 C hc30 (lv_sub hl [0, 1, 2, 3] rfl) h
theorem w_X9_sets_l30 {w : zWd} {X : zX} {l0 : Launch} {r : Int32} {S1 : zMem} (C : zC LM w X l0 cX9_sets RX9 6 3 (some .int)) : ∀ (n : Nat) (x1 : Int32) (x3 : Int32) (x4 : Int32) (S : zMem) (ls : Array Slot), lv_has ls 6 [(0, .ref (w.2.2.1 0)), (1, .int x1), (3, .int x3), (4, .int x4)] → X9_sets_l30 n x1 x3 x4 S = some (r, S1) → zV LM w X (some (.int r)) S1 S 30 ls [] := by
  intro n
  induction n with
  | zero =>
    intro x1 x3 x4 S ls hl h
    cases (show (none : Option (Int32 × zMem)) = some _ from h)
  | succ n ih =>
    intro x1 x3 x4 S ls hl h
    exact w_X9_sets_b30 C ih hl h
set_option maxRecDepth 20000 in
theorem w_X9_sets_b0 {w : zWd} {X : zX} {l0 : Launch} {r : Int32} {S1 : zMem} (C : zC LM w X l0 cX9_sets RX9 6 3 (some .int)) {x1 : Int32} {S : zMem} {ls : Array Slot} (hl : lv_has ls 6 [(0, .ref (w.2.2.1 0)), (1, .int x1)]) (h : X9_sets_b0 x1 S = some (r, S1)) : zV LM w X (some (.int r)) S1 S 0 ls [] := by
  unfold X9_sets_b0 at h
  refine v_aload_n 0 C dX9_sets_0 rfl (lv_at hl 0 rfl) ?_
  refine v_iload_n 1 C dX9_sets_1 rfl (lv_at hl 1 rfl) ?_
  obtain ⟨v1, S, hc, h⟩ := zb_e h
  refine v_callVi 2 C (ci := 8) [] dX9_sets_2 ml_X9_250 hy_X9_noSets (c_X9_noSets  hc) (by decide) rfl hl.1 kM_0 rfl (Nat.le_of_ble_eq_true rfl) rfl ?_
  refine v_istore_n 5 C [(2, .int v1), (0, .ref (w.2.2.1 0)), (1, .int x1)] dX9_sets_5 rfl hl (by decide) rfl (fun ls hl => ?_)
  refine v_iload_n 6 C dX9_sets_6 rfl (lv_at hl 0 rfl) ?_
  refine v_if_eq 7 12 C dX9_sets_7 (by decide) h (fun h => ?_) (fun h => ?_)
  · refine v_iconst 12 C (v := (0 : Int32)) dX9_sets_12 (by decide) ?_
    refine v_istore_n 13 C [(3, .int (0 : Int32)), (2, .int v1), (0, .ref (w.2.2.1 0)), (1, .int x1)] dX9_sets_13 rfl hl (by decide) rfl (fun ls hl => ?_)
    refine v_aload_n 14 C dX9_sets_14 rfl (lv_at hl 2 rfl) ?_
    refine v_bipush 15 C (v := (-9 : Int32)) dX9_sets_15 (by decide) ?_
    refine v_puti 17 C dX9_sets_17 fl_X9_60 fp_8_10 rfl kM_0 h (fun S h => ?_)
    refine v_iconst 20 C (v := (1 : Int32)) dX9_sets_20 (by decide) ?_
    refine v_aload_n 21 C dX9_sets_21 rfl (lv_at hl 2 rfl) ?_
    refine v_geti 22 C dX9_sets_22 fl_X9_152 rfl kM_0 h (fun v2 h => ?_)
    refine v_ishl 25 C dX9_sets_25 h (fun v3 h => ?_)
    refine v_iconst 26 C (v := (1 : Int32)) dX9_sets_26 (by decide) ?_
    refine v_isub 27 C dX9_sets_27 h (fun v4 h => ?_)
    refine v_istore 28 C [(4, .int v4), (3, .int (0 : Int32)), (2, .int v1), (0, .ref (w.2.2.1 0)), (1, .int x1)] dX9_sets_28 hl (by decide) rfl (fun ls hl => ?_)
    exact w_X9_sets_l30 C zF _ _ _ _ _ (lv_sub hl [3, 4, 1, 0] rfl) h
  · refine v_iload_n 10 C dX9_sets_10 rfl (lv_at hl 0 rfl) ?_
    exact v_ireturn 11 C dX9_sets_11 h
theorem c_X9_sets {w : zWd} {l0 : Launch} {x1 : Int32} {S S1 : zMem} {r : Int32} (h : f_X9_sets x1 S = some (r, S1)) : zMet LM w l0 yX9_sets cX9_sets 6 (some .int) 3 [.ref (w.2.2.1 0), .int x1] S (some (.int r)) S1 :=
  zMet_of (by decide +kernel) (Nat.le_of_ble_eq_true rfl) (fun X ls C hl => w_X9_sets_b0 C hl h)
theorem dX9_sure_0 : decode cX9_sure 0 = .ok (.aload_n 0, 1) := by decide +kernel
theorem dX9_sure_1 : decode cX9_sure 1 = .ok (.iload_n 1, 1) := by decide +kernel
theorem dX9_sure_2 : decode cX9_sure 2 = .ok (.invokevirtual 250, 3) := by decide +kernel
theorem dX9_sure_5 : decode cX9_sure 5 = .ok (.istore_n 2, 1) := by decide +kernel
theorem dX9_sure_6 : decode cX9_sure 6 = .ok (.iload_n 2, 1) := by decide +kernel
theorem dX9_sure_7 : decode cX9_sure 7 = .ok (.ifCond .eq 5, 3) := by decide +kernel
theorem dX9_sure_10 : decode cX9_sure 10 = .ok (.iload_n 2, 1) := by decide +kernel
theorem dX9_sure_11 : decode cX9_sure 11 = .ok (.ireturn, 1) := by decide +kernel
theorem dX9_sure_12 : decode cX9_sure 12 = .ok (.iconst 1, 1) := by decide +kernel
theorem dX9_sure_13 : decode cX9_sure 13 = .ok (.aload_n 0, 1) := by decide +kernel
theorem dX9_sure_14 : decode cX9_sure 14 = .ok (.getfield 152, 3) := by decide +kernel
theorem dX9_sure_17 : decode cX9_sure 17 = .ok (.ishl, 1) := by decide +kernel
theorem dX9_sure_18 : decode cX9_sure 18 = .ok (.iconst 1, 1) := by decide +kernel
theorem dX9_sure_19 : decode cX9_sure 19 = .ok (.isub, 1) := by decide +kernel
theorem dX9_sure_20 : decode cX9_sure 20 = .ok (.istore_n 3, 1) := by decide +kernel
theorem dX9_sure_21 : decode cX9_sure 21 = .ok (.iload_n 3, 1) := by decide +kernel
theorem dX9_sure_22 : decode cX9_sure 22 = .ok (.istore 4, 2) := by decide +kernel
theorem dX9_sure_24 : decode cX9_sure 24 = .ok (.iconst 0, 1) := by decide +kernel
theorem dX9_sure_25 : decode cX9_sure 25 = .ok (.istore 5, 2) := by decide +kernel
theorem dX9_sure_27 : decode cX9_sure 27 = .ok (.iconst 0, 1) := by decide +kernel
theorem dX9_sure_28 : decode cX9_sure 28 = .ok (.istore 6, 2) := by decide +kernel
theorem dX9_sure_30 : decode cX9_sure 30 = .ok (.iconst 0, 1) := by decide +kernel
theorem dX9_sure_31 : decode cX9_sure 31 = .ok (.istore 7, 2) := by decide +kernel
theorem dX9_sure_33 : decode cX9_sure 33 = .ok (.iload 7, 2) := by decide +kernel
theorem dX9_sure_35 : decode cX9_sure 35 = .ok (.iload_n 3, 1) := by decide +kernel
theorem dX9_sure_36 : decode cX9_sure 36 = .ok (.if_icmp .gt 36, 3) := by decide +kernel
theorem dX9_sure_39 : decode cX9_sure 39 = .ok (.aload_n 0, 1) := by decide +kernel
theorem dX9_sure_40 : decode cX9_sure 40 = .ok (.iload 7, 2) := by decide +kernel
theorem dX9_sure_42 : decode cX9_sure 42 = .ok (.invokevirtual 253, 3) := by decide +kernel
theorem dX9_sure_45 : decode cX9_sure 45 = .ok (.iload_n 1, 1) := by decide +kernel
theorem dX9_sure_46 : decode cX9_sure 46 = .ok (.if_icmp .ne 20, 3) := by decide +kernel
theorem dX9_sure_49 : decode cX9_sure 49 = .ok (.iconst 1, 1) := by decide +kernel
theorem dX9_sure_50 : decode cX9_sure 50 = .ok (.istore 6, 2) := by decide +kernel
theorem dX9_sure_52 : decode cX9_sure 52 = .ok (.iload 4, 2) := by decide +kernel
theorem dX9_sure_54 : decode cX9_sure 54 = .ok (.iload 7, 2) := by decide +kernel
theorem dX9_sure_56 : decode cX9_sure 56 = .ok (.iand, 1) := by decide +kernel
theorem dX9_sure_57 : decode cX9_sure 57 = .ok (.istore 4, 2) := by decide +kernel
theorem dX9_sure_59 : decode cX9_sure 59 = .ok (.iload 5, 2) := by decide +kernel
theorem dX9_sure_61 : decode cX9_sure 61 = .ok (.iload 7, 2) := by decide +kernel
theorem dX9_sure_63 : decode cX9_sure 63 = .ok (.ior, 1) := by decide +kernel
theorem dX9_sure_64 : decode cX9_sure 64 = .ok (.istore 5, 2) := by decide +kernel
theorem dX9_sure_66 : decode cX9_sure 66 = .ok (.iinc 7 1, 3) := by decide +kernel
theorem dX9_sure_69 : decode cX9_sure 69 = .ok (.goto (-36), 3) := by decide +kernel
theorem dX9_sure_72 : decode cX9_sure 72 = .ok (.iload 6, 2) := by decide +kernel
theorem dX9_sure_74 : decode cX9_sure 74 = .ok (.ifCond .ne 9, 3) := by decide +kernel
theorem dX9_sure_77 : decode cX9_sure 77 = .ok (.aload_n 0, 1) := by decide +kernel
theorem dX9_sure_78 : decode cX9_sure 78 = .ok (.iconst 4, 1) := by decide +kernel
theorem dX9_sure_79 : decode cX9_sure 79 = .ok (.invokevirtual 75, 3) := by decide +kernel
theorem dX9_sure_82 : decode cX9_sure 82 = .ok (.ireturn, 1) := by decide +kernel
theorem dX9_sure_83 : decode cX9_sure 83 = .ok (.aload_n 0, 1) := by decide +kernel
theorem dX9_sure_84 : decode cX9_sure 84 = .ok (.iload_n 3, 1) := by decide +kernel
theorem dX9_sure_85 : decode cX9_sure 85 = .ok (.iload 5, 2) := by decide +kernel
theorem dX9_sure_87 : decode cX9_sure 87 = .ok (.iconst (-1), 1) := by decide +kernel
theorem dX9_sure_88 : decode cX9_sure 88 = .ok (.ixor, 1) := by decide +kernel
theorem dX9_sure_89 : decode cX9_sure 89 = .ok (.iand, 1) := by decide +kernel
theorem dX9_sure_90 : decode cX9_sure 90 = .ok (.putfield 60, 3) := by decide +kernel
theorem dX9_sure_93 : decode cX9_sure 93 = .ok (.iload 4, 2) := by decide +kernel
theorem dX9_sure_95 : decode cX9_sure 95 = .ok (.ireturn, 1) := by decide +kernel
set_option maxRecDepth 20000 in
theorem w_X9_sure_b66 {w : zWd} {X : zX} {l0 : Launch} {r : Int32} {S1 : zMem} (C : zC LM w X l0 cX9_sure RX9 8 3 (some .int)) {k33 : Int32 → Int32 → Int32 → Int32 → Int32 → Int32 → zMem → Option (Int32 × zMem)} (hc33 : ∀ (x1 : Int32) (x3 : Int32) (x4 : Int32) (x5 : Int32) (x6 : Int32) (x7 : Int32) (S : zMem) (ls : Array Slot), lv_has ls 8 [(0, .ref (w.2.2.1 0)), (1, .int x1), (3, .int x3), (4, .int x4), (5, .int x5), (6, .int x6), (7, .int x7)] → k33 x1 x3 x4 x5 x6 x7 S = some (r, S1) → zV LM w X (some (.int r)) S1 S 33 ls []) {x1 : Int32} {x3 : Int32} {x4 : Int32} {x5 : Int32} {x6 : Int32} {x7 : Int32} {S : zMem} {ls : Array Slot} (hl : lv_has ls 8 [(0, .ref (w.2.2.1 0)), (1, .int x1), (3, .int x3), (4, .int x4), (5, .int x5), (6, .int x6), (7, .int x7)]) (h : X9_sure_b66 k33 x1 x3 x4 x5 x6 x7 S = some (r, S1)) : zV LM w X (some (.int r)) S1 S 66 ls [] := by
  unfold X9_sure_b66 at h
  refine v_iinc 66 C (nn := (1 : Int32)) (fun v => [(7, .int v), (0, .ref (w.2.2.1 0)), (1, .int x1), (3, .int x3), (4, .int x4), (5, .int x5), (6, .int x6)]) dX9_sure_66 hl (k := 6) rfl (by decide) (by decide) (fun _ => rfl) h (fun v1 ls hl h => ?_)
  refine v_goto 69 33 C dX9_sure_69 (by decide) ?_
  exact hc33 _ _ _ _ _ _ _ _ (lv_sub hl [1, 2, 3, 4, 5, 6, 0] rfl) h
set_option maxRecDepth 20000 in
theorem w_X9_sure_b33 {w : zWd} {X : zX} {l0 : Launch} {r : Int32} {S1 : zMem} (C : zC LM w X l0 cX9_sure RX9 8 3 (some .int)) {k33 : Int32 → Int32 → Int32 → Int32 → Int32 → Int32 → zMem → Option (Int32 × zMem)} (hc33 : ∀ (x1 : Int32) (x3 : Int32) (x4 : Int32) (x5 : Int32) (x6 : Int32) (x7 : Int32) (S : zMem) (ls : Array Slot), lv_has ls 8 [(0, .ref (w.2.2.1 0)), (1, .int x1), (3, .int x3), (4, .int x4), (5, .int x5), (6, .int x6), (7, .int x7)] → k33 x1 x3 x4 x5 x6 x7 S = some (r, S1) → zV LM w X (some (.int r)) S1 S 33 ls []) {x1 : Int32} {x3 : Int32} {x4 : Int32} {x5 : Int32} {x6 : Int32} {x7 : Int32} {S : zMem} {ls : Array Slot} (hl : lv_has ls 8 [(0, .ref (w.2.2.1 0)), (1, .int x1), (3, .int x3), (4, .int x4), (5, .int x5), (6, .int x6), (7, .int x7)]) (h : X9_sure_b33 k33 x1 x3 x4 x5 x6 x7 S = some (r, S1)) : zV LM w X (some (.int r)) S1 S 33 ls [] := by
  unfold X9_sure_b33 at h
  refine v_iload 33 C dX9_sure_33 (lv_at hl 6 rfl) ?_
  refine v_iload_n 35 C dX9_sure_35 rfl (lv_at hl 2 rfl) ?_
  refine v_icmp_gt 36 72 C dX9_sure_36 (by decide) h (fun h => ?_) (fun h => ?_)
  · refine v_iload 72 C dX9_sure_72 (lv_at hl 5 rfl) ?_
    refine v_if_ne 74 83 C dX9_sure_74 (by decide) h (fun h => ?_) (fun h => ?_)
    · refine v_aload_n 83 C dX9_sure_83 rfl (lv_at hl 0 rfl) ?_
      refine v_iload_n 84 C dX9_sure_84 rfl (lv_at hl 2 rfl) ?_
      refine v_iload 85 C dX9_sure_85 (lv_at hl 4 rfl) ?_
      refine v_iconst 87 C (v := (-1 : Int32)) dX9_sure_87 (by decide) ?_
      refine v_ixor 88 C dX9_sure_88 h (fun v1 h => ?_)
      refine v_iand 89 C dX9_sure_89 h (fun v2 h => ?_)
      refine v_puti 90 C dX9_sure_90 fl_X9_60 fp_8_10 rfl kM_0 h (fun S h => ?_)
      refine v_iload 93 C dX9_sure_93 (lv_at hl 3 rfl) ?_
      exact v_ireturn 95 C dX9_sure_95 h
    · refine v_aload_n 77 C dX9_sure_77 rfl (lv_at hl 0 rfl) ?_
      refine v_iconst 78 C (v := (4 : Int32)) dX9_sure_78 (by decide) ?_
      obtain ⟨v3, S, hc, h⟩ := zb_e h
      refine v_callVi 79 C (ci := 8) [] dX9_sure_79 ml_X9_75 hy_X9_find (c_X9_find  hc) (by decide) rfl hl.1 kM_0 rfl (Nat.le_of_ble_eq_true rfl) rfl ?_
      exact v_ireturn 82 C dX9_sure_82 h
  · refine v_aload_n 39 C dX9_sure_39 rfl (lv_at hl 0 rfl) ?_
    refine v_iload 40 C dX9_sure_40 (lv_at hl 6 rfl) ?_
    obtain ⟨v4, S, hc, h⟩ := zb_e h
    refine v_callVi 42 C (ci := 8) [] dX9_sure_42 ml_X9_253 hy_X9_wordsOf (c_X9_wordsOf  hc) (by decide) rfl hl.1 kM_0 rfl (Nat.le_of_ble_eq_true rfl) rfl ?_
    refine v_iload_n 45 C dX9_sure_45 rfl (lv_at hl 1 rfl) ?_
    refine v_icmp_ne 46 66 C dX9_sure_46 (by decide) h (fun h => ?_) (fun h => ?_)
    · exact w_X9_sure_b66 C hc33 (lv_sub hl [0, 1, 2, 3, 4, 5, 6] rfl) h
    · refine v_iconst 49 C (v := (1 : Int32)) dX9_sure_49 (by decide) ?_
      refine v_istore 50 C [(6, .int (1 : Int32)), (0, .ref (w.2.2.1 0)), (1, .int x1), (3, .int x3), (4, .int x4), (5, .int x5), (7, .int x7)] dX9_sure_50 hl (by decide) rfl (fun ls hl => ?_)
      refine v_iload 52 C dX9_sure_52 (lv_at hl 4 rfl) ?_
      refine v_iload 54 C dX9_sure_54 (lv_at hl 6 rfl) ?_
      refine v_iand 56 C dX9_sure_56 h (fun v5 h => ?_)
      refine v_istore 57 C [(4, .int v5), (6, .int (1 : Int32)), (0, .ref (w.2.2.1 0)), (1, .int x1), (3, .int x3), (5, .int x5), (7, .int x7)] dX9_sure_57 hl (by decide) rfl (fun ls hl => ?_)
      refine v_iload 59 C dX9_sure_59 (lv_at hl 5 rfl) ?_
      refine v_iload 61 C dX9_sure_61 (lv_at hl 6 rfl) ?_
      refine v_ior 63 C dX9_sure_63 h (fun v6 h => ?_)
      refine v_istore 64 C [(5, .int v6), (4, .int v5), (6, .int (1 : Int32)), (0, .ref (w.2.2.1 0)), (1, .int x1), (3, .int x3), (7, .int x7)] dX9_sure_64 hl (by decide) rfl (fun ls hl => ?_)
      exact w_X9_sure_b66 C hc33 (lv_sub hl [3, 4, 5, 1, 0, 2, 6] rfl) h
theorem w_X9_sure_l33 {w : zWd} {X : zX} {l0 : Launch} {r : Int32} {S1 : zMem} (C : zC LM w X l0 cX9_sure RX9 8 3 (some .int)) : ∀ (n : Nat) (x1 : Int32) (x3 : Int32) (x4 : Int32) (x5 : Int32) (x6 : Int32) (x7 : Int32) (S : zMem) (ls : Array Slot), lv_has ls 8 [(0, .ref (w.2.2.1 0)), (1, .int x1), (3, .int x3), (4, .int x4), (5, .int x5), (6, .int x6), (7, .int x7)] → X9_sure_l33 n x1 x3 x4 x5 x6 x7 S = some (r, S1) → zV LM w X (some (.int r)) S1 S 33 ls [] := by
  intro n
  induction n with
  | zero =>
    intro x1 x3 x4 x5 x6 x7 S ls hl h
    cases (show (none : Option (Int32 × zMem)) = some _ from h)
  | succ n ih =>
    intro x1 x3 x4 x5 x6 x7 S ls hl h
    exact w_X9_sure_b33 C ih hl h
set_option maxRecDepth 20000 in
theorem w_X9_sure_b0 {w : zWd} {X : zX} {l0 : Launch} {r : Int32} {S1 : zMem} (C : zC LM w X l0 cX9_sure RX9 8 3 (some .int)) {x1 : Int32} {S : zMem} {ls : Array Slot} (hl : lv_has ls 8 [(0, .ref (w.2.2.1 0)), (1, .int x1)]) (h : X9_sure_b0 x1 S = some (r, S1)) : zV LM w X (some (.int r)) S1 S 0 ls [] := by
  unfold X9_sure_b0 at h
  refine v_aload_n 0 C dX9_sure_0 rfl (lv_at hl 0 rfl) ?_
  refine v_iload_n 1 C dX9_sure_1 rfl (lv_at hl 1 rfl) ?_
  obtain ⟨v1, S, hc, h⟩ := zb_e h
  refine v_callVi 2 C (ci := 8) [] dX9_sure_2 ml_X9_250 hy_X9_noSets (c_X9_noSets  hc) (by decide) rfl hl.1 kM_0 rfl (Nat.le_of_ble_eq_true rfl) rfl ?_
  refine v_istore_n 5 C [(2, .int v1), (0, .ref (w.2.2.1 0)), (1, .int x1)] dX9_sure_5 rfl hl (by decide) rfl (fun ls hl => ?_)
  refine v_iload_n 6 C dX9_sure_6 rfl (lv_at hl 0 rfl) ?_
  refine v_if_eq 7 12 C dX9_sure_7 (by decide) h (fun h => ?_) (fun h => ?_)
  · refine v_iconst 12 C (v := (1 : Int32)) dX9_sure_12 (by decide) ?_
    refine v_aload_n 13 C dX9_sure_13 rfl (lv_at hl 1 rfl) ?_
    refine v_geti 14 C dX9_sure_14 fl_X9_152 rfl kM_0 h (fun v2 h => ?_)
    refine v_ishl 17 C dX9_sure_17 h (fun v3 h => ?_)
    refine v_iconst 18 C (v := (1 : Int32)) dX9_sure_18 (by decide) ?_
    refine v_isub 19 C dX9_sure_19 h (fun v4 h => ?_)
    refine v_istore_n 20 C [(3, .int v4), (2, .int v1), (0, .ref (w.2.2.1 0)), (1, .int x1)] dX9_sure_20 rfl hl (by decide) rfl (fun ls hl => ?_)
    refine v_iload_n 21 C dX9_sure_21 rfl (lv_at hl 0 rfl) ?_
    refine v_istore 22 C [(4, .int v4), (3, .int v4), (2, .int v1), (0, .ref (w.2.2.1 0)), (1, .int x1)] dX9_sure_22 hl (by decide) rfl (fun ls hl => ?_)
    refine v_iconst 24 C (v := (0 : Int32)) dX9_sure_24 (by decide) ?_
    refine v_istore 25 C [(5, .int (0 : Int32)), (4, .int v4), (3, .int v4), (2, .int v1), (0, .ref (w.2.2.1 0)), (1, .int x1)] dX9_sure_25 hl (by decide) rfl (fun ls hl => ?_)
    refine v_iconst 27 C (v := (0 : Int32)) dX9_sure_27 (by decide) ?_
    refine v_istore 28 C [(6, .int (0 : Int32)), (5, .int (0 : Int32)), (4, .int v4), (3, .int v4), (2, .int v1), (0, .ref (w.2.2.1 0)), (1, .int x1)] dX9_sure_28 hl (by decide) rfl (fun ls hl => ?_)
    refine v_iconst 30 C (v := (0 : Int32)) dX9_sure_30 (by decide) ?_
    refine v_istore 31 C [(7, .int (0 : Int32)), (6, .int (0 : Int32)), (5, .int (0 : Int32)), (4, .int v4), (3, .int v4), (2, .int v1), (0, .ref (w.2.2.1 0)), (1, .int x1)] dX9_sure_31 hl (by decide) rfl (fun ls hl => ?_)
    exact w_X9_sure_l33 C zF _ _ _ _ _ _ _ _ (lv_sub hl [6, 7, 4, 3, 2, 1, 0] rfl) h
  · refine v_iload_n 10 C dX9_sure_10 rfl (lv_at hl 0 rfl) ?_
    exact v_ireturn 11 C dX9_sure_11 h
theorem c_X9_sure {w : zWd} {l0 : Launch} {x1 : Int32} {S S1 : zMem} {r : Int32} (h : f_X9_sure x1 S = some (r, S1)) : zMet LM w l0 yX9_sure cX9_sure 8 (some .int) 3 [.ref (w.2.2.1 0), .int x1] S (some (.int r)) S1 :=
  zMet_of (by decide +kernel) (Nat.le_of_ble_eq_true rfl) (fun X ls C hl => w_X9_sure_b0 C hl h)
theorem fl_X9_53 : zFL RX9 53 8 26 := ⟨_, rfl, by decide, zT_of (List.mem_of_getElem? (i := 896) (by decide +kernel)) rfl⟩
theorem dX9_beginTurn_0 : decode cX9_beginTurn 0 = .ok (.aload_n 0, 1) := by decide +kernel
theorem dX9_beginTurn_1 : decode cX9_beginTurn 1 = .ok (.getfield 47, 3) := by decide +kernel
theorem dX9_beginTurn_4 : decode cX9_beginTurn 4 = .ok (.iload_n 1, 1) := by decide +kernel
theorem dX9_beginTurn_5 : decode cX9_beginTurn 5 = .ok (.iconst 0, 1) := by decide +kernel
theorem dX9_beginTurn_6 : decode cX9_beginTurn 6 = .ok (.iastore, 1) := by decide +kernel
theorem dX9_beginTurn_7 : decode cX9_beginTurn 7 = .ok (.aload_n 0, 1) := by decide +kernel
theorem dX9_beginTurn_8 : decode cX9_beginTurn 8 = .ok (.getfield 53, 3) := by decide +kernel
theorem dX9_beginTurn_11 : decode cX9_beginTurn 11 = .ok (.iload_n 1, 1) := by decide +kernel
theorem dX9_beginTurn_12 : decode cX9_beginTurn 12 = .ok (.iload_n 1, 1) := by decide +kernel
theorem dX9_beginTurn_13 : decode cX9_beginTurn 13 = .ok (.iconst 2, 1) := by decide +kernel
theorem dX9_beginTurn_14 : decode cX9_beginTurn 14 = .ok (.irem, 1) := by decide +kernel
theorem dX9_beginTurn_15 : decode cX9_beginTurn 15 = .ok (.ifCond .ne 7, 3) := by decide +kernel
theorem dX9_beginTurn_18 : decode cX9_beginTurn 18 = .ok (.iconst (-1), 1) := by decide +kernel
theorem dX9_beginTurn_19 : decode cX9_beginTurn 19 = .ok (.goto 5, 3) := by decide +kernel
theorem dX9_beginTurn_22 : decode cX9_beginTurn 22 = .ok (.ldc 244, 2) := by decide +kernel
theorem dX9_beginTurn_24 : decode cX9_beginTurn 24 = .ok (.iastore, 1) := by decide +kernel
theorem dX9_beginTurn_25 : decode cX9_beginTurn 25 = .ok (.return_, 1) := by decide +kernel
set_option maxRecDepth 20000 in
theorem w_X9_beginTurn_b24 {w : zWd} {X : zX} {l0 : Launch} {r : Unit} {S1 : zMem} (C : zC LM w X l0 cX9_beginTurn RX9 2 1 none) {s1 : Int32} {s2 : Int32} {S : zMem} {ls : Array Slot} (hl : lv_has ls 2 []) (h : X9_beginTurn_b24 s1 s2 S = some (r, S1)) : zV LM w X none S1 S 24 ls [.int s2, .int s1, .ref (w.2.2.1 14)] := by
  unfold X9_beginTurn_b24 at h
  refine v_iast 24 C dX9_beginTurn_24 kM_14 rfl h (fun S h => ?_)
  exact v_return 25 C dX9_beginTurn_25 h
set_option maxRecDepth 20000 in
theorem w_X9_beginTurn_b0 {w : zWd} {X : zX} {l0 : Launch} {r : Unit} {S1 : zMem} (C : zC LM w X l0 cX9_beginTurn RX9 2 1 none) {x1 : Int32} {S : zMem} {ls : Array Slot} (hl : lv_has ls 2 [(0, .ref (w.2.2.1 0)), (1, .int x1)]) (h : X9_beginTurn_b0 x1 S = some (r, S1)) : zV LM w X none S1 S 0 ls [] := by
  unfold X9_beginTurn_b0 at h
  refine v_aload_n 0 C dX9_beginTurn_0 rfl (lv_at hl 0 rfl) ?_
  refine v_getr 1 (12) C dX9_beginTurn_1 fl_X9_47 rfl kM_0 rfl ?_
  refine v_iload_n 4 C dX9_beginTurn_4 rfl (lv_at hl 1 rfl) ?_
  refine v_iconst 5 C (v := (0 : Int32)) dX9_beginTurn_5 (by decide) ?_
  refine v_iast 6 C dX9_beginTurn_6 kM_12 rfl h (fun S h => ?_)
  refine v_aload_n 7 C dX9_beginTurn_7 rfl (lv_at hl 0 rfl) ?_
  refine v_getr 8 (14) C dX9_beginTurn_8 fl_X9_53 rfl kM_0 rfl ?_
  refine v_iload_n 11 C dX9_beginTurn_11 rfl (lv_at hl 1 rfl) ?_
  refine v_iload_n 12 C dX9_beginTurn_12 rfl (lv_at hl 1 rfl) ?_
  refine v_iconst 13 C (v := (2 : Int32)) dX9_beginTurn_13 (by decide) ?_
  refine v_irem 14 C dX9_beginTurn_14 (by decide) h (fun v1 h => ?_)
  refine v_if_ne 15 22 C dX9_beginTurn_15 (by decide) h (fun h => ?_) (fun h => ?_)
  · refine v_ldc 22 C (v := 99999) dX9_beginTurn_22 co_X9_244 ?_
    exact w_X9_beginTurn_b24 C (lv_sub hl [] rfl) h
  · refine v_iconst 18 C (v := (-1 : Int32)) dX9_beginTurn_18 (by decide) ?_
    refine v_goto 19 24 C dX9_beginTurn_19 (by decide) ?_
    exact w_X9_beginTurn_b24 C (lv_sub hl [] rfl) h
theorem c_X9_beginTurn {w : zWd} {l0 : Launch} {x1 : Int32} {S S1 : zMem} {r : Unit} (h : f_X9_beginTurn x1 S = some (r, S1)) : zMet LM w l0 yX9_beginTurn cX9_beginTurn 2 none 1 [.ref (w.2.2.1 0), .int x1] S none S1 :=
  zMet_of (by decide +kernel) (Nat.le_of_ble_eq_true rfl) (fun X ls C hl => w_X9_beginTurn_b0 C hl h)
theorem dX9_isFree_0 : decode cX9_isFree 0 = .ok (.aload_n 0, 1) := by decide +kernel
theorem dX9_isFree_1 : decode cX9_isFree 1 = .ok (.getfield 7, 3) := by decide +kernel
theorem dX9_isFree_4 : decode cX9_isFree 4 = .ok (.iconst 5, 1) := by decide +kernel
theorem dX9_isFree_5 : decode cX9_isFree 5 = .ok (.iaload, 1) := by decide +kernel
theorem dX9_isFree_6 : decode cX9_isFree 6 = .ok (.iload_n 2, 1) := by decide +kernel
theorem dX9_isFree_7 : decode cX9_isFree 7 = .ok (.invokestatic 176, 3) := by decide +kernel
theorem dX9_isFree_10 : decode cX9_isFree 10 = .ok (.ifCond .ne 7, 3) := by decide +kernel
theorem dX9_isFree_13 : decode cX9_isFree 13 = .ok (.iconst 1, 1) := by decide +kernel
theorem dX9_isFree_14 : decode cX9_isFree 14 = .ok (.goto 4, 3) := by decide +kernel
theorem dX9_isFree_17 : decode cX9_isFree 17 = .ok (.iconst 0, 1) := by decide +kernel
theorem dX9_isFree_18 : decode cX9_isFree 18 = .ok (.istore_n 3, 1) := by decide +kernel
theorem dX9_isFree_19 : decode cX9_isFree 19 = .ok (.iconst 0, 1) := by decide +kernel
theorem dX9_isFree_20 : decode cX9_isFree 20 = .ok (.istore 4, 2) := by decide +kernel
theorem dX9_isFree_22 : decode cX9_isFree 22 = .ok (.iload 4, 2) := by decide +kernel
theorem dX9_isFree_24 : decode cX9_isFree 24 = .ok (.iload_n 1, 1) := by decide +kernel
theorem dX9_isFree_25 : decode cX9_isFree 25 = .ok (.if_icmp .ge 30, 3) := by decide +kernel
theorem dX9_isFree_28 : decode cX9_isFree 28 = .ok (.iload_n 3, 1) := by decide +kernel
theorem dX9_isFree_29 : decode cX9_isFree 29 = .ok (.ifCond .eq 18, 3) := by decide +kernel
theorem dX9_isFree_32 : decode cX9_isFree 32 = .ok (.aload_n 0, 1) := by decide +kernel
theorem dX9_isFree_33 : decode cX9_isFree 33 = .ok (.getfield 47, 3) := by decide +kernel
theorem dX9_isFree_36 : decode cX9_isFree 36 = .ok (.iload 4, 2) := by decide +kernel
theorem dX9_isFree_38 : decode cX9_isFree 38 = .ok (.iaload, 1) := by decide +kernel
theorem dX9_isFree_39 : decode cX9_isFree 39 = .ok (.iload_n 2, 1) := by decide +kernel
theorem dX9_isFree_40 : decode cX9_isFree 40 = .ok (.if_icmp .eq 7, 3) := by decide +kernel
theorem dX9_isFree_43 : decode cX9_isFree 43 = .ok (.iconst 1, 1) := by decide +kernel
theorem dX9_isFree_44 : decode cX9_isFree 44 = .ok (.goto 4, 3) := by decide +kernel
theorem dX9_isFree_47 : decode cX9_isFree 47 = .ok (.iconst 0, 1) := by decide +kernel
theorem dX9_isFree_48 : decode cX9_isFree 48 = .ok (.istore_n 3, 1) := by decide +kernel
theorem dX9_isFree_49 : decode cX9_isFree 49 = .ok (.iinc 4 1, 3) := by decide +kernel
theorem dX9_isFree_52 : decode cX9_isFree 52 = .ok (.goto (-30), 3) := by decide +kernel
theorem dX9_isFree_55 : decode cX9_isFree 55 = .ok (.iload_n 3, 1) := by decide +kernel
theorem dX9_isFree_56 : decode cX9_isFree 56 = .ok (.ireturn, 1) := by decide +kernel
set_option maxRecDepth 20000 in
theorem w_X9_isFree_b48 {w : zWd} {X : zX} {l0 : Launch} {r : Int32} {S1 : zMem} (C : zC LM w X l0 cX9_isFree RX9 5 2 (some .boolean)) {k22 : Int32 → Int32 → Int32 → Int32 → zMem → Option (Int32 × zMem)} (hc22 : ∀ (x1 : Int32) (x2 : Int32) (x3 : Int32) (x4 : Int32) (S : zMem) (ls : Array Slot), lv_has ls 5 [(0, .ref (w.2.2.1 0)), (1, .int x1), (2, .int x2), (3, .int x3), (4, .int x4)] → k22 x1 x2 x3 x4 S = some (r, S1) → zV LM w X (some (.int r)) S1 S 22 ls []) {x1 : Int32} {x2 : Int32} {x4 : Int32} {s0 : Int32} {S : zMem} {ls : Array Slot} (hl : lv_has ls 5 [(0, .ref (w.2.2.1 0)), (1, .int x1), (2, .int x2), (4, .int x4)]) (h : X9_isFree_b48 k22 x1 x2 x4 s0 S = some (r, S1)) : zV LM w X (some (.int r)) S1 S 48 ls [.int s0] := by
  unfold X9_isFree_b48 at h
  refine v_istore_n 48 C [(3, .int s0), (0, .ref (w.2.2.1 0)), (1, .int x1), (2, .int x2), (4, .int x4)] dX9_isFree_48 rfl hl (by decide) rfl (fun ls hl => ?_)
  refine v_iinc 49 C (nn := (1 : Int32)) (fun v => [(4, .int v), (3, .int s0), (0, .ref (w.2.2.1 0)), (1, .int x1), (2, .int x2)]) dX9_isFree_49 hl (k := 4) rfl (by decide) (by decide) (fun _ => rfl) h (fun v1 ls hl h => ?_)
  refine v_goto 52 22 C dX9_isFree_52 (by decide) ?_
  exact hc22 _ _ _ _ _ _ (lv_sub hl [2, 3, 4, 1, 0] rfl) h
set_option maxRecDepth 20000 in
theorem w_X9_isFree_b47 {w : zWd} {X : zX} {l0 : Launch} {r : Int32} {S1 : zMem} (C : zC LM w X l0 cX9_isFree RX9 5 2 (some .boolean)) {k22 : Int32 → Int32 → Int32 → Int32 → zMem → Option (Int32 × zMem)} (hc22 : ∀ (x1 : Int32) (x2 : Int32) (x3 : Int32) (x4 : Int32) (S : zMem) (ls : Array Slot), lv_has ls 5 [(0, .ref (w.2.2.1 0)), (1, .int x1), (2, .int x2), (3, .int x3), (4, .int x4)] → k22 x1 x2 x3 x4 S = some (r, S1) → zV LM w X (some (.int r)) S1 S 22 ls []) {x1 : Int32} {x2 : Int32} {x4 : Int32} {S : zMem} {ls : Array Slot} (hl : lv_has ls 5 [(0, .ref (w.2.2.1 0)), (1, .int x1), (2, .int x2), (4, .int x4)]) (h : X9_isFree_b47 k22 x1 x2 x4 S = some (r, S1)) : zV LM w X (some (.int r)) S1 S 47 ls [] := by
  unfold X9_isFree_b47 at h
  refine v_iconst 47 C (v := (0 : Int32)) dX9_isFree_47 (by decide) ?_
  exact w_X9_isFree_b48 C hc22 (lv_sub hl [0, 1, 2, 3] rfl) h
set_option maxRecDepth 20000 in
theorem w_X9_isFree_b22 {w : zWd} {X : zX} {l0 : Launch} {r : Int32} {S1 : zMem} (C : zC LM w X l0 cX9_isFree RX9 5 2 (some .boolean)) {k22 : Int32 → Int32 → Int32 → Int32 → zMem → Option (Int32 × zMem)} (hc22 : ∀ (x1 : Int32) (x2 : Int32) (x3 : Int32) (x4 : Int32) (S : zMem) (ls : Array Slot), lv_has ls 5 [(0, .ref (w.2.2.1 0)), (1, .int x1), (2, .int x2), (3, .int x3), (4, .int x4)] → k22 x1 x2 x3 x4 S = some (r, S1) → zV LM w X (some (.int r)) S1 S 22 ls []) {x1 : Int32} {x2 : Int32} {x3 : Int32} {x4 : Int32} {S : zMem} {ls : Array Slot} (hl : lv_has ls 5 [(0, .ref (w.2.2.1 0)), (1, .int x1), (2, .int x2), (3, .int x3), (4, .int x4)]) (h : X9_isFree_b22 k22 x1 x2 x3 x4 S = some (r, S1)) : zV LM w X (some (.int r)) S1 S 22 ls [] := by
  unfold X9_isFree_b22 at h
  refine v_iload 22 C dX9_isFree_22 (lv_at hl 4 rfl) ?_
  refine v_iload_n 24 C dX9_isFree_24 rfl (lv_at hl 1 rfl) ?_
  refine v_icmp_ge 25 55 C dX9_isFree_25 (by decide) h (fun h => ?_) (fun h => ?_)
  · refine v_iload_n 55 C dX9_isFree_55 rfl (lv_at hl 3 rfl) ?_
    exact v_zreturn 56 C dX9_isFree_56 h
  · refine v_iload_n 28 C dX9_isFree_28 rfl (lv_at hl 3 rfl) ?_
    refine v_if_eq 29 47 C dX9_isFree_29 (by decide) h (fun h => ?_) (fun h => ?_)
    · exact w_X9_isFree_b47 C hc22 (lv_sub hl [0, 1, 2, 4] rfl) h
    · refine v_aload_n 32 C dX9_isFree_32 rfl (lv_at hl 0 rfl) ?_
      refine v_getr 33 (12) C dX9_isFree_33 fl_X9_47 rfl kM_0 rfl ?_
      refine v_iload 36 C dX9_isFree_36 (lv_at hl 4 rfl) ?_
      refine v_iald 38 C dX9_isFree_38 kM_12 rfl h (fun v1 h => ?_)
      refine v_iload_n 39 C dX9_isFree_39 rfl (lv_at hl 2 rfl) ?_
      refine v_icmp_eq 40 47 C dX9_isFree_40 (by decide) h (fun h => ?_) (fun h => ?_)
      · exact w_X9_isFree_b47 C hc22 (lv_sub hl [0, 1, 2, 4] rfl) h
      · refine v_iconst 43 C (v := (1 : Int32)) dX9_isFree_43 (by decide) ?_
        refine v_goto 44 48 C dX9_isFree_44 (by decide) ?_
        exact w_X9_isFree_b48 C hc22 (lv_sub hl [0, 1, 2, 4] rfl) h
theorem w_X9_isFree_l22 {w : zWd} {X : zX} {l0 : Launch} {r : Int32} {S1 : zMem} (C : zC LM w X l0 cX9_isFree RX9 5 2 (some .boolean)) : ∀ (n : Nat) (x1 : Int32) (x2 : Int32) (x3 : Int32) (x4 : Int32) (S : zMem) (ls : Array Slot), lv_has ls 5 [(0, .ref (w.2.2.1 0)), (1, .int x1), (2, .int x2), (3, .int x3), (4, .int x4)] → X9_isFree_l22 n x1 x2 x3 x4 S = some (r, S1) → zV LM w X (some (.int r)) S1 S 22 ls [] := by
  intro n
  induction n with
  | zero =>
    intro x1 x2 x3 x4 S ls hl h
    cases (show (none : Option (Int32 × zMem)) = some _ from h)
  | succ n ih =>
    intro x1 x2 x3 x4 S ls hl h
    exact w_X9_isFree_b22 C ih hl h
set_option maxRecDepth 20000 in
theorem w_X9_isFree_b18 {w : zWd} {X : zX} {l0 : Launch} {r : Int32} {S1 : zMem} (C : zC LM w X l0 cX9_isFree RX9 5 2 (some .boolean)) {x1 : Int32} {x2 : Int32} {s0 : Int32} {S : zMem} {ls : Array Slot} (hl : lv_has ls 5 [(0, .ref (w.2.2.1 0)), (1, .int x1), (2, .int x2)]) (h : X9_isFree_b18 x1 x2 s0 S = some (r, S1)) : zV LM w X (some (.int r)) S1 S 18 ls [.int s0] := by
  unfold X9_isFree_b18 at h
  refine v_istore_n 18 C [(3, .int s0), (0, .ref (w.2.2.1 0)), (1, .int x1), (2, .int x2)] dX9_isFree_18 rfl hl (by decide) rfl (fun ls hl => ?_)
  refine v_iconst 19 C (v := (0 : Int32)) dX9_isFree_19 (by decide) ?_
  refine v_istore 20 C [(4, .int (0 : Int32)), (3, .int s0), (0, .ref (w.2.2.1 0)), (1, .int x1), (2, .int x2)] dX9_isFree_20 hl (by decide) rfl (fun ls hl => ?_)
  exact w_X9_isFree_l22 C zF _ _ _ _ _ _ (lv_sub hl [2, 3, 4, 1, 0] rfl) h
set_option maxRecDepth 20000 in
theorem w_X9_isFree_b0 {w : zWd} {X : zX} {l0 : Launch} {r : Int32} {S1 : zMem} (C : zC LM w X l0 cX9_isFree RX9 5 2 (some .boolean)) {x1 : Int32} {x2 : Int32} {S : zMem} {ls : Array Slot} (hl : lv_has ls 5 [(0, .ref (w.2.2.1 0)), (1, .int x1), (2, .int x2)]) (h : X9_isFree_b0 x1 x2 S = some (r, S1)) : zV LM w X (some (.int r)) S1 S 0 ls [] := by
  unfold X9_isFree_b0 at h
  refine v_aload_n 0 C dX9_isFree_0 rfl (lv_at hl 0 rfl) ?_
  refine v_getr 1 (1) C dX9_isFree_1 fl_X9_7 rfl kM_0 rfl ?_
  refine v_iconst 4 C (v := (5 : Int32)) dX9_isFree_4 (by decide) ?_
  refine v_iald 5 C dX9_isFree_5 kM_1 rfl h (fun v1 h => ?_)
  refine v_iload_n 6 C dX9_isFree_6 rfl (lv_at hl 2 rfl) ?_
  obtain ⟨v2, S, hc, h⟩ := zb_e h
  refine v_callSi 7 C [] dX9_isFree_7 ml_X9_176 hy_X9_has (c_X9_has  hc) (by decide) rfl hl.1 (Nat.le_of_ble_eq_true rfl) rfl ?_
  refine v_if_ne 10 17 C dX9_isFree_10 (by decide) h (fun h => ?_) (fun h => ?_)
  · refine v_iconst 17 C (v := (0 : Int32)) dX9_isFree_17 (by decide) ?_
    exact w_X9_isFree_b18 C (lv_sub hl [0, 1, 2] rfl) h
  · refine v_iconst 13 C (v := (1 : Int32)) dX9_isFree_13 (by decide) ?_
    refine v_goto 14 18 C dX9_isFree_14 (by decide) ?_
    exact w_X9_isFree_b18 C (lv_sub hl [0, 1, 2] rfl) h
theorem c_X9_isFree {w : zWd} {l0 : Launch} {x1 : Int32} {x2 : Int32} {S S1 : zMem} {r : Int32} (h : f_X9_isFree x1 x2 S = some (r, S1)) : zMet LM w l0 yX9_isFree cX9_isFree 5 (some .boolean) 2 [.ref (w.2.2.1 0), .int x1, .int x2] S (some (.int r)) S1 :=
  zMet_of (by decide +kernel) (Nat.le_of_ble_eq_true rfl) (fun X ls C hl => w_X9_isFree_b0 C hl h)
theorem dX9_better_0 : decode cX9_better 0 = .ok (.iload_n 0, 1) := by decide +kernel
theorem dX9_better_1 : decode cX9_better 1 = .ok (.iconst 2, 1) := by decide +kernel
theorem dX9_better_2 : decode cX9_better 2 = .ok (.irem, 1) := by decide +kernel
theorem dX9_better_3 : decode cX9_better 3 = .ok (.ifCond .ne 16, 3) := by decide +kernel
theorem dX9_better_6 : decode cX9_better 6 = .ok (.iload_n 1, 1) := by decide +kernel
theorem dX9_better_7 : decode cX9_better 7 = .ok (.iload_n 2, 1) := by decide +kernel
theorem dX9_better_8 : decode cX9_better 8 = .ok (.if_icmp .le 7, 3) := by decide +kernel
theorem dX9_better_11 : decode cX9_better 11 = .ok (.iload_n 1, 1) := by decide +kernel
theorem dX9_better_12 : decode cX9_better 12 = .ok (.goto 17, 3) := by decide +kernel
theorem dX9_better_15 : decode cX9_better 15 = .ok (.iload_n 2, 1) := by decide +kernel
theorem dX9_better_16 : decode cX9_better 16 = .ok (.goto 13, 3) := by decide +kernel
theorem dX9_better_19 : decode cX9_better 19 = .ok (.iload_n 1, 1) := by decide +kernel
theorem dX9_better_20 : decode cX9_better 20 = .ok (.iload_n 2, 1) := by decide +kernel
theorem dX9_better_21 : decode cX9_better 21 = .ok (.if_icmp .ge 7, 3) := by decide +kernel
theorem dX9_better_24 : decode cX9_better 24 = .ok (.iload_n 1, 1) := by decide +kernel
theorem dX9_better_25 : decode cX9_better 25 = .ok (.goto 4, 3) := by decide +kernel
theorem dX9_better_28 : decode cX9_better 28 = .ok (.iload_n 2, 1) := by decide +kernel
theorem dX9_better_29 : decode cX9_better 29 = .ok (.ireturn, 1) := by decide +kernel
set_option maxRecDepth 20000 in
theorem w_X9_better_b29 {w : zWd} {X : zX} {l0 : Launch} {r : Int32} {S1 : zMem} (C : zC LM w X l0 cX9_better RX9 3 1 (some .int)) {s0 : Int32} {S : zMem} {ls : Array Slot} (hl : lv_has ls 3 []) (h : X9_better_b29 s0 S = some (r, S1)) : zV LM w X (some (.int r)) S1 S 29 ls [.int s0] := by
  unfold X9_better_b29 at h
  exact v_ireturn 29 C dX9_better_29 h
set_option maxRecDepth 20000 in
theorem w_X9_better_b0 {w : zWd} {X : zX} {l0 : Launch} {r : Int32} {S1 : zMem} (C : zC LM w X l0 cX9_better RX9 3 1 (some .int)) {x0 : Int32} {x1 : Int32} {x2 : Int32} {S : zMem} {ls : Array Slot} (hl : lv_has ls 3 [(0, .int x0), (1, .int x1), (2, .int x2)]) (h : X9_better_b0 x0 x1 x2 S = some (r, S1)) : zV LM w X (some (.int r)) S1 S 0 ls [] := by
  unfold X9_better_b0 at h
  refine v_iload_n 0 C dX9_better_0 rfl (lv_at hl 0 rfl) ?_
  refine v_iconst 1 C (v := (2 : Int32)) dX9_better_1 (by decide) ?_
  refine v_irem 2 C dX9_better_2 (by decide) h (fun v1 h => ?_)
  refine v_if_ne 3 19 C dX9_better_3 (by decide) h (fun h => ?_) (fun h => ?_)
  · refine v_iload_n 19 C dX9_better_19 rfl (lv_at hl 1 rfl) ?_
    refine v_iload_n 20 C dX9_better_20 rfl (lv_at hl 2 rfl) ?_
    refine v_icmp_ge 21 28 C dX9_better_21 (by decide) h (fun h => ?_) (fun h => ?_)
    · refine v_iload_n 28 C dX9_better_28 rfl (lv_at hl 2 rfl) ?_
      exact w_X9_better_b29 C (lv_sub hl [] rfl) h
    · refine v_iload_n 24 C dX9_better_24 rfl (lv_at hl 1 rfl) ?_
      refine v_goto 25 29 C dX9_better_25 (by decide) ?_
      exact w_X9_better_b29 C (lv_sub hl [] rfl) h
  · refine v_iload_n 6 C dX9_better_6 rfl (lv_at hl 1 rfl) ?_
    refine v_iload_n 7 C dX9_better_7 rfl (lv_at hl 2 rfl) ?_
    refine v_icmp_le 8 15 C dX9_better_8 (by decide) h (fun h => ?_) (fun h => ?_)
    · refine v_iload_n 15 C dX9_better_15 rfl (lv_at hl 2 rfl) ?_
      refine v_goto 16 29 C dX9_better_16 (by decide) ?_
      exact w_X9_better_b29 C (lv_sub hl [] rfl) h
    · refine v_iload_n 11 C dX9_better_11 rfl (lv_at hl 1 rfl) ?_
      refine v_goto 12 29 C dX9_better_12 (by decide) ?_
      exact w_X9_better_b29 C (lv_sub hl [] rfl) h
theorem c_X9_better {w : zWd} {l0 : Launch} {x0 : Int32} {x1 : Int32} {x2 : Int32} {S S1 : zMem} {r : Int32} (h : f_X9_better x0 x1 x2 S = some (r, S1)) : zMet LM w l0 yX9_better cX9_better 3 (some .int) 1 [.int x0, .int x1, .int x2] S (some (.int r)) S1 :=
  zMet_of (by decide +kernel) (Nat.le_of_ble_eq_true rfl) (fun X ls C hl => w_X9_better_b0 C hl h)
theorem ml_X9_259 : Cond.methodLink RX9 259 yX9_beginTurn ∈ zT := zT_of (List.mem_of_getElem? (i := 1265) (by decide +kernel)) rfl
theorem hy_X9_beginTurn : zYv yX9_beginTurn cX9_beginTurn 2 none 1 := ⟨⟨zT_of (List.mem_of_getElem? (i := 1268) (by decide +kernel)) rfl, zT_of (List.mem_of_getElem? (i := 78) (by decide +kernel)) rfl, by decide, by decide +kernel, by decide +kernel, by decide +kernel⟩, zT_of (List.mem_of_getElem? (i := 1267) (by decide +kernel)) rfl, zT_of (List.mem_of_getElem? (i := 59) (by decide +kernel)) rfl⟩
theorem ml_X9_265 : Cond.methodLink RX9 265 yX9_better ∈ zT := zT_of (List.mem_of_getElem? (i := 1273) (by decide +kernel)) rfl
theorem hy_X9_better : zYs yX9_better cX9_better 3 (some .int) 3 := ⟨⟨zT_of (List.mem_of_getElem? (i := 1275) (by decide +kernel)) rfl, zT_of (List.mem_of_getElem? (i := 78) (by decide +kernel)) rfl, by decide, by decide +kernel, by decide +kernel, by decide +kernel⟩, zT_of (List.mem_of_getElem? (i := 1274) (by decide +kernel)) rfl⟩
theorem ml_X9_262 : Cond.methodLink RX9 262 yX9_isFree ∈ zT := zT_of (List.mem_of_getElem? (i := 1269) (by decide +kernel)) rfl
theorem hy_X9_isFree : zYv yX9_isFree cX9_isFree 5 (some .boolean) 2 := ⟨⟨zT_of (List.mem_of_getElem? (i := 1272) (by decide +kernel)) rfl, zT_of (List.mem_of_getElem? (i := 78) (by decide +kernel)) rfl, by decide, by decide +kernel, by decide +kernel, by decide +kernel⟩, zT_of (List.mem_of_getElem? (i := 1271) (by decide +kernel)) rfl, zT_of (List.mem_of_getElem? (i := 60) (by decide +kernel)) rfl⟩
theorem dX9_duel_0 : decode cX9_duel 0 = .ok (.iload_n 1, 1) := by decide +kernel
theorem dX9_duel_1 : decode cX9_duel 1 = .ok (.i2l, 1) := by decide +kernel
theorem dX9_duel_2 : decode cX9_duel 2 = .ok (.lconst 0, 1) := by decide +kernel
theorem dX9_duel_3 : decode cX9_duel 3 = .ok (.ldc2_w 69, 3) := by decide +kernel
theorem dX9_duel_6 : decode cX9_duel 6 = .ok (.invokestatic 65, 3) := by decide +kernel
theorem dX9_duel_9 : decode cX9_duel 9 = .ok (.ifCond .ne 5, 3) := by decide +kernel
theorem dX9_duel_12 : decode cX9_duel 12 = .ok (.iconst (-1), 1) := by decide +kernel
theorem dX9_duel_13 : decode cX9_duel 13 = .ok (.ireturn, 1) := by decide +kernel
theorem dX9_duel_14 : decode cX9_duel 14 = .ok (.aload_n 0, 1) := by decide +kernel
theorem dX9_duel_15 : decode cX9_duel 15 = .ok (.getfield 152, 3) := by decide +kernel
theorem dX9_duel_18 : decode cX9_duel 18 = .ok (.ifCond .ne 6, 3) := by decide +kernel
theorem dX9_duel_21 : decode cX9_duel 21 = .ok (.bipush (-4), 2) := by decide +kernel
theorem dX9_duel_23 : decode cX9_duel 23 = .ok (.ireturn, 1) := by decide +kernel
theorem dX9_duel_24 : decode cX9_duel 24 = .ok (.aload_n 0, 1) := by decide +kernel
theorem dX9_duel_25 : decode cX9_duel 25 = .ok (.getfield 152, 3) := by decide +kernel
theorem dX9_duel_28 : decode cX9_duel 28 = .ok (.aload_n 0, 1) := by decide +kernel
theorem dX9_duel_29 : decode cX9_duel 29 = .ok (.getfield 7, 3) := by decide +kernel
theorem dX9_duel_32 : decode cX9_duel 32 = .ok (.iconst 5, 1) := by decide +kernel
theorem dX9_duel_33 : decode cX9_duel 33 = .ok (.iaload, 1) := by decide +kernel
theorem dX9_duel_34 : decode cX9_duel 34 = .ok (.invokestatic 202, 3) := by decide +kernel
theorem dX9_duel_37 : decode cX9_duel 37 = .ok (.isub, 1) := by decide +kernel
theorem dX9_duel_38 : decode cX9_duel 38 = .ok (.istore_n 2, 1) := by decide +kernel
theorem dX9_duel_39 : decode cX9_duel 39 = .ok (.iconst 2, 1) := by decide +kernel
theorem dX9_duel_40 : decode cX9_duel 40 = .ok (.iload_n 1, 1) := by decide +kernel
theorem dX9_duel_41 : decode cX9_duel 41 = .ok (.imul, 1) := by decide +kernel
theorem dX9_duel_42 : decode cX9_duel 42 = .ok (.iload_n 2, 1) := by decide +kernel
theorem dX9_duel_43 : decode cX9_duel 43 = .ok (.if_icmp .ge 9, 3) := by decide +kernel
theorem dX9_duel_46 : decode cX9_duel 46 = .ok (.iconst 2, 1) := by decide +kernel
theorem dX9_duel_47 : decode cX9_duel 47 = .ok (.iload_n 1, 1) := by decide +kernel
theorem dX9_duel_48 : decode cX9_duel 48 = .ok (.imul, 1) := by decide +kernel
theorem dX9_duel_49 : decode cX9_duel 49 = .ok (.goto 4, 3) := by decide +kernel
theorem dX9_duel_52 : decode cX9_duel 52 = .ok (.iload_n 2, 1) := by decide +kernel
theorem dX9_duel_53 : decode cX9_duel 53 = .ok (.istore_n 3, 1) := by decide +kernel
theorem dX9_duel_54 : decode cX9_duel 54 = .ok (.iconst 0, 1) := by decide +kernel
theorem dX9_duel_55 : decode cX9_duel 55 = .ok (.istore 4, 2) := by decide +kernel
theorem dX9_duel_57 : decode cX9_duel 57 = .ok (.aload_n 0, 1) := by decide +kernel
theorem dX9_duel_58 : decode cX9_duel 58 = .ok (.getfield 53, 3) := by decide +kernel
theorem dX9_duel_61 : decode cX9_duel 61 = .ok (.bipush 6, 2) := by decide +kernel
theorem dX9_duel_63 : decode cX9_duel 63 = .ok (.iconst 0, 1) := by decide +kernel
theorem dX9_duel_64 : decode cX9_duel 64 = .ok (.iastore, 1) := by decide +kernel
theorem dX9_duel_65 : decode cX9_duel 65 = .ok (.iload_n 3, 1) := by decide +kernel
theorem dX9_duel_66 : decode cX9_duel 66 = .ok (.ifCond .le 8, 3) := by decide +kernel
theorem dX9_duel_69 : decode cX9_duel 69 = .ok (.aload_n 0, 1) := by decide +kernel
theorem dX9_duel_70 : decode cX9_duel 70 = .ok (.iconst 0, 1) := by decide +kernel
theorem dX9_duel_71 : decode cX9_duel 71 = .ok (.invokevirtual 259, 3) := by decide +kernel
theorem dX9_duel_74 : decode cX9_duel 74 = .ok (.iload_n 3, 1) := by decide +kernel
theorem dX9_duel_75 : decode cX9_duel 75 = .ok (.ifCond .le 188, 3) := by decide +kernel
theorem dX9_duel_78 : decode cX9_duel 78 = .ok (.iload 4, 2) := by decide +kernel
theorem dX9_duel_80 : decode cX9_duel 80 = .ok (.ifCond .lt 183, 3) := by decide +kernel
theorem dX9_duel_83 : decode cX9_duel 83 = .ok (.aload_n 0, 1) := by decide +kernel
theorem dX9_duel_84 : decode cX9_duel 84 = .ok (.getfield 47, 3) := by decide +kernel
theorem dX9_duel_87 : decode cX9_duel 87 = .ok (.iload 4, 2) := by decide +kernel
theorem dX9_duel_89 : decode cX9_duel 89 = .ok (.iaload, 1) := by decide +kernel
theorem dX9_duel_90 : decode cX9_duel 90 = .ok (.aload_n 0, 1) := by decide +kernel
theorem dX9_duel_91 : decode cX9_duel 91 = .ok (.getfield 152, 3) := by decide +kernel
theorem dX9_duel_94 : decode cX9_duel 94 = .ok (.if_icmp .ge 33, 3) := by decide +kernel
theorem dX9_duel_97 : decode cX9_duel 97 = .ok (.aload_n 0, 1) := by decide +kernel
theorem dX9_duel_98 : decode cX9_duel 98 = .ok (.iload 4, 2) := by decide +kernel
theorem dX9_duel_100 : decode cX9_duel 100 = .ok (.aload_n 0, 1) := by decide +kernel
theorem dX9_duel_101 : decode cX9_duel 101 = .ok (.getfield 47, 3) := by decide +kernel
theorem dX9_duel_104 : decode cX9_duel 104 = .ok (.iload 4, 2) := by decide +kernel
theorem dX9_duel_106 : decode cX9_duel 106 = .ok (.iaload, 1) := by decide +kernel
theorem dX9_duel_107 : decode cX9_duel 107 = .ok (.invokevirtual 262, 3) := by decide +kernel
theorem dX9_duel_110 : decode cX9_duel 110 = .ok (.ifCond .ne 17, 3) := by decide +kernel
theorem dX9_duel_113 : decode cX9_duel 113 = .ok (.aload_n 0, 1) := by decide +kernel
theorem dX9_duel_114 : decode cX9_duel 114 = .ok (.getfield 47, 3) := by decide +kernel
theorem dX9_duel_117 : decode cX9_duel 117 = .ok (.iload 4, 2) := by decide +kernel
theorem dX9_duel_119 : decode cX9_duel 119 = .ok (.dup2, 1) := by decide +kernel
theorem dX9_duel_120 : decode cX9_duel 120 = .ok (.iaload, 1) := by decide +kernel
theorem dX9_duel_121 : decode cX9_duel 121 = .ok (.iconst 1, 1) := by decide +kernel
theorem dX9_duel_122 : decode cX9_duel 122 = .ok (.iadd, 1) := by decide +kernel
theorem dX9_duel_123 : decode cX9_duel 123 = .ok (.iastore, 1) := by decide +kernel
theorem dX9_duel_124 : decode cX9_duel 124 = .ok (.goto (-41), 3) := by decide +kernel
theorem dX9_duel_127 : decode cX9_duel 127 = .ok (.aload_n 0, 1) := by decide +kernel
theorem dX9_duel_128 : decode cX9_duel 128 = .ok (.getfield 47, 3) := by decide +kernel
theorem dX9_duel_131 : decode cX9_duel 131 = .ok (.iload 4, 2) := by decide +kernel
theorem dX9_duel_133 : decode cX9_duel 133 = .ok (.iaload, 1) := by decide +kernel
theorem dX9_duel_134 : decode cX9_duel 134 = .ok (.aload_n 0, 1) := by decide +kernel
theorem dX9_duel_135 : decode cX9_duel 135 = .ok (.getfield 152, 3) := by decide +kernel
theorem dX9_duel_138 : decode cX9_duel 138 = .ok (.if_icmp .ne 67, 3) := by decide +kernel
theorem dX9_duel_141 : decode cX9_duel 141 = .ok (.aload_n 0, 1) := by decide +kernel
theorem dX9_duel_142 : decode cX9_duel 142 = .ok (.getfield 53, 3) := by decide +kernel
theorem dX9_duel_145 : decode cX9_duel 145 = .ok (.iload 4, 2) := by decide +kernel
theorem dX9_duel_147 : decode cX9_duel 147 = .ok (.iaload, 1) := by decide +kernel
theorem dX9_duel_148 : decode cX9_duel 148 = .ok (.istore 5, 2) := by decide +kernel
theorem dX9_duel_150 : decode cX9_duel 150 = .ok (.iinc 4 (-1), 3) := by decide +kernel
theorem dX9_duel_153 : decode cX9_duel 153 = .ok (.iload 4, 2) := by decide +kernel
theorem dX9_duel_155 : decode cX9_duel 155 = .ok (.ifCond .lt 38, 3) := by decide +kernel
theorem dX9_duel_158 : decode cX9_duel 158 = .ok (.aload_n 0, 1) := by decide +kernel
theorem dX9_duel_159 : decode cX9_duel 159 = .ok (.getfield 53, 3) := by decide +kernel
theorem dX9_duel_162 : decode cX9_duel 162 = .ok (.iload 4, 2) := by decide +kernel
theorem dX9_duel_164 : decode cX9_duel 164 = .ok (.iload 4, 2) := by decide +kernel
theorem dX9_duel_166 : decode cX9_duel 166 = .ok (.aload_n 0, 1) := by decide +kernel
theorem dX9_duel_167 : decode cX9_duel 167 = .ok (.getfield 53, 3) := by decide +kernel
theorem dX9_duel_170 : decode cX9_duel 170 = .ok (.iload 4, 2) := by decide +kernel
theorem dX9_duel_172 : decode cX9_duel 172 = .ok (.iaload, 1) := by decide +kernel
theorem dX9_duel_173 : decode cX9_duel 173 = .ok (.iload 5, 2) := by decide +kernel
theorem dX9_duel_175 : decode cX9_duel 175 = .ok (.invokestatic 265, 3) := by decide +kernel
theorem dX9_duel_178 : decode cX9_duel 178 = .ok (.iastore, 1) := by decide +kernel
theorem dX9_duel_179 : decode cX9_duel 179 = .ok (.aload_n 0, 1) := by decide +kernel
theorem dX9_duel_180 : decode cX9_duel 180 = .ok (.getfield 47, 3) := by decide +kernel
theorem dX9_duel_183 : decode cX9_duel 183 = .ok (.iload 4, 2) := by decide +kernel
theorem dX9_duel_185 : decode cX9_duel 185 = .ok (.dup2, 1) := by decide +kernel
theorem dX9_duel_186 : decode cX9_duel 186 = .ok (.iaload, 1) := by decide +kernel
theorem dX9_duel_187 : decode cX9_duel 187 = .ok (.iconst 1, 1) := by decide +kernel
theorem dX9_duel_188 : decode cX9_duel 188 = .ok (.iadd, 1) := by decide +kernel
theorem dX9_duel_189 : decode cX9_duel 189 = .ok (.iastore, 1) := by decide +kernel
theorem dX9_duel_190 : decode cX9_duel 190 = .ok (.goto 12, 3) := by decide +kernel
theorem dX9_duel_193 : decode cX9_duel 193 = .ok (.aload_n 0, 1) := by decide +kernel
theorem dX9_duel_194 : decode cX9_duel 194 = .ok (.getfield 53, 3) := by decide +kernel
theorem dX9_duel_197 : decode cX9_duel 197 = .ok (.bipush 6, 2) := by decide +kernel
theorem dX9_duel_199 : decode cX9_duel 199 = .ok (.iload 5, 2) := by decide +kernel
theorem dX9_duel_201 : decode cX9_duel 201 = .ok (.iastore, 1) := by decide +kernel
theorem dX9_duel_202 : decode cX9_duel 202 = .ok (.goto (-128), 3) := by decide +kernel
theorem dX9_duel_205 : decode cX9_duel 205 = .ok (.iload 4, 2) := by decide +kernel
theorem dX9_duel_207 : decode cX9_duel 207 = .ok (.iload_n 3, 1) := by decide +kernel
theorem dX9_duel_208 : decode cX9_duel 208 = .ok (.iconst 1, 1) := by decide +kernel
theorem dX9_duel_209 : decode cX9_duel 209 = .ok (.isub, 1) := by decide +kernel
theorem dX9_duel_210 : decode cX9_duel 210 = .ok (.if_icmp .ne 41, 3) := by decide +kernel
theorem dX9_duel_213 : decode cX9_duel 213 = .ok (.aload_n 0, 1) := by decide +kernel
theorem dX9_duel_214 : decode cX9_duel 214 = .ok (.getfield 53, 3) := by decide +kernel
theorem dX9_duel_217 : decode cX9_duel 217 = .ok (.iload 4, 2) := by decide +kernel
theorem dX9_duel_219 : decode cX9_duel 219 = .ok (.iload 4, 2) := by decide +kernel
theorem dX9_duel_221 : decode cX9_duel 221 = .ok (.aload_n 0, 1) := by decide +kernel
theorem dX9_duel_222 : decode cX9_duel 222 = .ok (.getfield 53, 3) := by decide +kernel
theorem dX9_duel_225 : decode cX9_duel 225 = .ok (.iload 4, 2) := by decide +kernel
theorem dX9_duel_227 : decode cX9_duel 227 = .ok (.iaload, 1) := by decide +kernel
theorem dX9_duel_228 : decode cX9_duel 228 = .ok (.aload_n 0, 1) := by decide +kernel
theorem dX9_duel_229 : decode cX9_duel 229 = .ok (.iload_n 3, 1) := by decide +kernel
theorem dX9_duel_230 : decode cX9_duel 230 = .ok (.invokevirtual 218, 3) := by decide +kernel
theorem dX9_duel_233 : decode cX9_duel 233 = .ok (.invokestatic 265, 3) := by decide +kernel
theorem dX9_duel_236 : decode cX9_duel 236 = .ok (.iastore, 1) := by decide +kernel
theorem dX9_duel_237 : decode cX9_duel 237 = .ok (.aload_n 0, 1) := by decide +kernel
theorem dX9_duel_238 : decode cX9_duel 238 = .ok (.getfield 47, 3) := by decide +kernel
theorem dX9_duel_241 : decode cX9_duel 241 = .ok (.iload 4, 2) := by decide +kernel
theorem dX9_duel_243 : decode cX9_duel 243 = .ok (.dup2, 1) := by decide +kernel
theorem dX9_duel_244 : decode cX9_duel 244 = .ok (.iaload, 1) := by decide +kernel
theorem dX9_duel_245 : decode cX9_duel 245 = .ok (.iconst 1, 1) := by decide +kernel
theorem dX9_duel_246 : decode cX9_duel 246 = .ok (.iadd, 1) := by decide +kernel
theorem dX9_duel_247 : decode cX9_duel 247 = .ok (.iastore, 1) := by decide +kernel
theorem dX9_duel_248 : decode cX9_duel 248 = .ok (.goto (-174), 3) := by decide +kernel
theorem dX9_duel_251 : decode cX9_duel 251 = .ok (.iinc 4 1, 3) := by decide +kernel
theorem dX9_duel_254 : decode cX9_duel 254 = .ok (.aload_n 0, 1) := by decide +kernel
theorem dX9_duel_255 : decode cX9_duel 255 = .ok (.iload 4, 2) := by decide +kernel
theorem dX9_duel_257 : decode cX9_duel 257 = .ok (.invokevirtual 259, 3) := by decide +kernel
theorem dX9_duel_260 : decode cX9_duel 260 = .ok (.goto (-186), 3) := by decide +kernel
theorem dX9_duel_263 : decode cX9_duel 263 = .ok (.aload_n 0, 1) := by decide +kernel
theorem dX9_duel_264 : decode cX9_duel 264 = .ok (.aload_n 0, 1) := by decide +kernel
theorem dX9_duel_265 : decode cX9_duel 265 = .ok (.getfield 53, 3) := by decide +kernel
theorem dX9_duel_268 : decode cX9_duel 268 = .ok (.bipush 6, 2) := by decide +kernel
theorem dX9_duel_270 : decode cX9_duel 270 = .ok (.iaload, 1) := by decide +kernel
theorem dX9_duel_271 : decode cX9_duel 271 = .ok (.putfield 60, 3) := by decide +kernel
theorem dX9_duel_274 : decode cX9_duel 274 = .ok (.iconst 1, 1) := by decide +kernel
theorem dX9_duel_275 : decode cX9_duel 275 = .ok (.ireturn, 1) := by decide +kernel
set_option maxRecDepth 20000 in
theorem w_X9_duel_b202 {w : zWd} {X : zX} {l0 : Launch} {r : Int32} {S1 : zMem} (C : zC LM w X l0 cX9_duel RX9 6 4 (some .int)) {k74 : Int32 → Int32 → zMem → Option (Int32 × zMem)} (hc74 : ∀ (x3 : Int32) (x4 : Int32) (S : zMem) (ls : Array Slot), lv_has ls 6 [(0, .ref (w.2.2.1 0)), (3, .int x3), (4, .int x4)] → k74 x3 x4 S = some (r, S1) → zV LM w X (some (.int r)) S1 S 74 ls []) {x3 : Int32} {x4 : Int32} {S : zMem} {ls : Array Slot} (hl : lv_has ls 6 [(0, .ref (w.2.2.1 0)), (3, .int x3), (4, .int x4)]) (h : X9_duel_b202 k74 x3 x4 S = some (r, S1)) : zV LM w X (some (.int r)) S1 S 202 ls [] := by
  unfold X9_duel_b202 at h
  refine v_goto 202 74 C dX9_duel_202 (by decide) ?_
  exact hc74 _ _ _ _ (lv_sub hl [0, 1, 2] rfl) h
set_option maxRecDepth 20000 in
theorem w_X9_duel_b127 {w : zWd} {X : zX} {l0 : Launch} {r : Int32} {S1 : zMem} (C : zC LM w X l0 cX9_duel RX9 6 4 (some .int)) {k74 : Int32 → Int32 → zMem → Option (Int32 × zMem)} (hc74 : ∀ (x3 : Int32) (x4 : Int32) (S : zMem) (ls : Array Slot), lv_has ls 6 [(0, .ref (w.2.2.1 0)), (3, .int x3), (4, .int x4)] → k74 x3 x4 S = some (r, S1) → zV LM w X (some (.int r)) S1 S 74 ls []) {x3 : Int32} {x4 : Int32} {S : zMem} {ls : Array Slot} (hl : lv_has ls 6 [(0, .ref (w.2.2.1 0)), (3, .int x3), (4, .int x4)]) (h : X9_duel_b127 k74 x3 x4 S = some (r, S1)) : zV LM w X (some (.int r)) S1 S 127 ls [] := by
  unfold X9_duel_b127 at h
  refine v_aload_n 127 C dX9_duel_127 rfl (lv_at hl 0 rfl) ?_
  refine v_getr 128 (12) C dX9_duel_128 fl_X9_47 rfl kM_0 rfl ?_
  refine v_iload 131 C dX9_duel_131 (lv_at hl 2 rfl) ?_
  refine v_iald 133 C dX9_duel_133 kM_12 rfl h (fun v1 h => ?_)
  refine v_aload_n 134 C dX9_duel_134 rfl (lv_at hl 0 rfl) ?_
  refine v_geti 135 C dX9_duel_135 fl_X9_152 rfl kM_0 h (fun v2 h => ?_)
  refine v_icmp_ne 138 205 C dX9_duel_138 (by decide) h (fun h => ?_) (fun h => ?_)
  · refine v_iload 205 C dX9_duel_205 (lv_at hl 2 rfl) ?_
    refine v_iload_n 207 C dX9_duel_207 rfl (lv_at hl 1 rfl) ?_
    refine v_iconst 208 C (v := (1 : Int32)) dX9_duel_208 (by decide) ?_
    refine v_isub 209 C dX9_duel_209 h (fun v3 h => ?_)
    refine v_icmp_ne 210 251 C dX9_duel_210 (by decide) h (fun h => ?_) (fun h => ?_)
    · refine v_iinc 251 C (nn := (1 : Int32)) (fun v => [(4, .int v), (0, .ref (w.2.2.1 0)), (3, .int x3)]) dX9_duel_251 hl (k := 2) rfl (by decide) (by decide) (fun _ => rfl) h (fun v4 ls hl h => ?_)
      refine v_aload_n 254 C dX9_duel_254 rfl (lv_at hl 1 rfl) ?_
      refine v_iload 255 C dX9_duel_255 (lv_at hl 0 rfl) ?_
      obtain ⟨v5, S, hc, h⟩ := zb_e h
      refine v_callVv 257 C (ci := 8) [] dX9_duel_257 ml_X9_259 hy_X9_beginTurn (c_X9_beginTurn  hc) (by decide) rfl hl.1 kM_0 rfl (Nat.le_of_ble_eq_true rfl) rfl ?_
      refine v_goto 260 74 C dX9_duel_260 (by decide) ?_
      exact hc74 _ _ _ _ (lv_sub hl [1, 2, 0] rfl) h
    · refine v_aload_n 213 C dX9_duel_213 rfl (lv_at hl 0 rfl) ?_
      refine v_getr 214 (14) C dX9_duel_214 fl_X9_53 rfl kM_0 rfl ?_
      refine v_iload 217 C dX9_duel_217 (lv_at hl 2 rfl) ?_
      refine v_iload 219 C dX9_duel_219 (lv_at hl 2 rfl) ?_
      refine v_aload_n 221 C dX9_duel_221 rfl (lv_at hl 0 rfl) ?_
      refine v_getr 222 (14) C dX9_duel_222 fl_X9_53 rfl kM_0 rfl ?_
      refine v_iload 225 C dX9_duel_225 (lv_at hl 2 rfl) ?_
      refine v_iald 227 C dX9_duel_227 kM_14 rfl h (fun v6 h => ?_)
      refine v_aload_n 228 C dX9_duel_228 rfl (lv_at hl 0 rfl) ?_
      refine v_iload_n 229 C dX9_duel_229 rfl (lv_at hl 1 rfl) ?_
      obtain ⟨v7, S, hc, h⟩ := zb_e h
      refine v_callVi 230 C (ci := 8) [.int v6, .int x4, .int x4, .ref (w.2.2.1 14)] dX9_duel_230 ml_X9_218 hy_X9_endTogether (c_X9_endTogether  hc) (by decide) rfl hl.1 kM_0 rfl (Nat.le_of_ble_eq_true rfl) rfl ?_
      obtain ⟨v8, S, hc, h⟩ := zb_e h
      refine v_callSi 233 C [.int x4, .ref (w.2.2.1 14)] dX9_duel_233 ml_X9_265 hy_X9_better (c_X9_better  hc) (by decide) rfl hl.1 (Nat.le_of_ble_eq_true rfl) rfl ?_
      refine v_iast 236 C dX9_duel_236 kM_14 rfl h (fun S h => ?_)
      refine v_aload_n 237 C dX9_duel_237 rfl (lv_at hl 0 rfl) ?_
      refine v_getr 238 (12) C dX9_duel_238 fl_X9_47 rfl kM_0 rfl ?_
      refine v_iload 241 C dX9_duel_241 (lv_at hl 2 rfl) ?_
      refine v_dup2 243 C dX9_duel_243 rfl rfl ?_
      refine v_iald 244 C dX9_duel_244 kM_12 rfl h (fun v9 h => ?_)
      refine v_iconst 245 C (v := (1 : Int32)) dX9_duel_245 (by decide) ?_
      refine v_iadd 246 C dX9_duel_246 h (fun v10 h => ?_)
      refine v_iast 247 C dX9_duel_247 kM_12 rfl h (fun S h => ?_)
      refine v_goto 248 74 C dX9_duel_248 (by decide) ?_
      exact hc74 _ _ _ _ (lv_sub hl [0, 1, 2] rfl) h
  · refine v_aload_n 141 C dX9_duel_141 rfl (lv_at hl 0 rfl) ?_
    refine v_getr 142 (14) C dX9_duel_142 fl_X9_53 rfl kM_0 rfl ?_
    refine v_iload 145 C dX9_duel_145 (lv_at hl 2 rfl) ?_
    refine v_iald 147 C dX9_duel_147 kM_14 rfl h (fun v11 h => ?_)
    refine v_istore 148 C [(5, .int v11), (0, .ref (w.2.2.1 0)), (3, .int x3), (4, .int x4)] dX9_duel_148 hl (by decide) rfl (fun ls hl => ?_)
    refine v_iinc 150 C (nn := (-1 : Int32)) (fun v => [(4, .int v), (5, .int v11), (0, .ref (w.2.2.1 0)), (3, .int x3)]) dX9_duel_150 hl (k := 3) rfl (by decide) (by decide) (fun _ => rfl) h (fun v12 ls hl h => ?_)
    refine v_iload 153 C dX9_duel_153 (lv_at hl 0 rfl) ?_
    refine v_if_lt 155 193 C dX9_duel_155 (by decide) h (fun h => ?_) (fun h => ?_)
    · refine v_aload_n 193 C dX9_duel_193 rfl (lv_at hl 2 rfl) ?_
      refine v_getr 194 (14) C dX9_duel_194 fl_X9_53 rfl kM_0 rfl ?_
      refine v_bipush 197 C (v := (6 : Int32)) dX9_duel_197 (by decide) ?_
      refine v_iload 199 C dX9_duel_199 (lv_at hl 1 rfl) ?_
      refine v_iast 201 C dX9_duel_201 kM_14 rfl h (fun S h => ?_)
      exact w_X9_duel_b202 C hc74 (lv_sub hl [2, 3, 0] rfl) h
    · refine v_aload_n 158 C dX9_duel_158 rfl (lv_at hl 2 rfl) ?_
      refine v_getr 159 (14) C dX9_duel_159 fl_X9_53 rfl kM_0 rfl ?_
      refine v_iload 162 C dX9_duel_162 (lv_at hl 0 rfl) ?_
      refine v_iload 164 C dX9_duel_164 (lv_at hl 0 rfl) ?_
      refine v_aload_n 166 C dX9_duel_166 rfl (lv_at hl 2 rfl) ?_
      refine v_getr 167 (14) C dX9_duel_167 fl_X9_53 rfl kM_0 rfl ?_
      refine v_iload 170 C dX9_duel_170 (lv_at hl 0 rfl) ?_
      refine v_iald 172 C dX9_duel_172 kM_14 rfl h (fun v13 h => ?_)
      refine v_iload 173 C dX9_duel_173 (lv_at hl 1 rfl) ?_
      obtain ⟨v14, S, hc, h⟩ := zb_e h
      refine v_callSi 175 C [.int v12, .ref (w.2.2.1 14)] dX9_duel_175 ml_X9_265 hy_X9_better (c_X9_better  hc) (by decide) rfl hl.1 (Nat.le_of_ble_eq_true rfl) rfl ?_
      refine v_iast 178 C dX9_duel_178 kM_14 rfl h (fun S h => ?_)
      refine v_aload_n 179 C dX9_duel_179 rfl (lv_at hl 2 rfl) ?_
      refine v_getr 180 (12) C dX9_duel_180 fl_X9_47 rfl kM_0 rfl ?_
      refine v_iload 183 C dX9_duel_183 (lv_at hl 0 rfl) ?_
      refine v_dup2 185 C dX9_duel_185 rfl rfl ?_
      refine v_iald 186 C dX9_duel_186 kM_12 rfl h (fun v15 h => ?_)
      refine v_iconst 187 C (v := (1 : Int32)) dX9_duel_187 (by decide) ?_
      refine v_iadd 188 C dX9_duel_188 h (fun v16 h => ?_)
      refine v_iast 189 C dX9_duel_189 kM_12 rfl h (fun S h => ?_)
      refine v_goto 190 202 C dX9_duel_190 (by decide) ?_
      exact w_X9_duel_b202 C hc74 (lv_sub hl [2, 3, 0] rfl) h
set_option maxRecDepth 20000 in
theorem w_X9_duel_b83 {w : zWd} {X : zX} {l0 : Launch} {r : Int32} {S1 : zMem} (C : zC LM w X l0 cX9_duel RX9 6 4 (some .int)) {k74 : Int32 → Int32 → zMem → Option (Int32 × zMem)} {k83 : Int32 → Int32 → zMem → Option (Int32 × zMem)} (hc74 : ∀ (x3 : Int32) (x4 : Int32) (S : zMem) (ls : Array Slot), lv_has ls 6 [(0, .ref (w.2.2.1 0)), (3, .int x3), (4, .int x4)] → k74 x3 x4 S = some (r, S1) → zV LM w X (some (.int r)) S1 S 74 ls []) (hc83 : ∀ (x3 : Int32) (x4 : Int32) (S : zMem) (ls : Array Slot), lv_has ls 6 [(0, .ref (w.2.2.1 0)), (3, .int x3), (4, .int x4)] → k83 x3 x4 S = some (r, S1) → zV LM w X (some (.int r)) S1 S 83 ls []) {x3 : Int32} {x4 : Int32} {S : zMem} {ls : Array Slot} (hl : lv_has ls 6 [(0, .ref (w.2.2.1 0)), (3, .int x3), (4, .int x4)]) (h : X9_duel_b83 k74 k83 x3 x4 S = some (r, S1)) : zV LM w X (some (.int r)) S1 S 83 ls [] := by
  unfold X9_duel_b83 at h
  refine v_aload_n 83 C dX9_duel_83 rfl (lv_at hl 0 rfl) ?_
  refine v_getr 84 (12) C dX9_duel_84 fl_X9_47 rfl kM_0 rfl ?_
  refine v_iload 87 C dX9_duel_87 (lv_at hl 2 rfl) ?_
  refine v_iald 89 C dX9_duel_89 kM_12 rfl h (fun v1 h => ?_)
  refine v_aload_n 90 C dX9_duel_90 rfl (lv_at hl 0 rfl) ?_
  refine v_geti 91 C dX9_duel_91 fl_X9_152 rfl kM_0 h (fun v2 h => ?_)
  refine v_icmp_ge 94 127 C dX9_duel_94 (by decide) h (fun h => ?_) (fun h => ?_)
  · exact w_X9_duel_b127 C hc74 (lv_sub hl [0, 1, 2] rfl) h
  · refine v_aload_n 97 C dX9_duel_97 rfl (lv_at hl 0 rfl) ?_
    refine v_iload 98 C dX9_duel_98 (lv_at hl 2 rfl) ?_
    refine v_aload_n 100 C dX9_duel_100 rfl (lv_at hl 0 rfl) ?_
    refine v_getr 101 (12) C dX9_duel_101 fl_X9_47 rfl kM_0 rfl ?_
    refine v_iload 104 C dX9_duel_104 (lv_at hl 2 rfl) ?_
    refine v_iald 106 C dX9_duel_106 kM_12 rfl h (fun v3 h => ?_)
    obtain ⟨v4, S, hc, h⟩ := zb_e h
    refine v_callVi 107 C (ci := 8) [] dX9_duel_107 ml_X9_262 hy_X9_isFree (c_X9_isFree  hc) (by decide) rfl hl.1 kM_0 rfl (Nat.le_of_ble_eq_true rfl) rfl ?_
    refine v_if_ne 110 127 C dX9_duel_110 (by decide) h (fun h => ?_) (fun h => ?_)
    · exact w_X9_duel_b127 C hc74 (lv_sub hl [0, 1, 2] rfl) h
    · refine v_aload_n 113 C dX9_duel_113 rfl (lv_at hl 0 rfl) ?_
      refine v_getr 114 (12) C dX9_duel_114 fl_X9_47 rfl kM_0 rfl ?_
      refine v_iload 117 C dX9_duel_117 (lv_at hl 2 rfl) ?_
      refine v_dup2 119 C dX9_duel_119 rfl rfl ?_
      refine v_iald 120 C dX9_duel_120 kM_12 rfl h (fun v5 h => ?_)
      refine v_iconst 121 C (v := (1 : Int32)) dX9_duel_121 (by decide) ?_
      refine v_iadd 122 C dX9_duel_122 h (fun v6 h => ?_)
      refine v_iast 123 C dX9_duel_123 kM_12 rfl h (fun S h => ?_)
      refine v_goto 124 83 C dX9_duel_124 (by decide) ?_
      exact hc83 _ _ _ _ (lv_sub hl [0, 1, 2] rfl) h
theorem w_X9_duel_l83 {w : zWd} {X : zX} {l0 : Launch} {r : Int32} {S1 : zMem} (C : zC LM w X l0 cX9_duel RX9 6 4 (some .int)) {k74 : Int32 → Int32 → zMem → Option (Int32 × zMem)} (hc74 : ∀ (x3 : Int32) (x4 : Int32) (S : zMem) (ls : Array Slot), lv_has ls 6 [(0, .ref (w.2.2.1 0)), (3, .int x3), (4, .int x4)] → k74 x3 x4 S = some (r, S1) → zV LM w X (some (.int r)) S1 S 74 ls []) : ∀ (n : Nat) (x3 : Int32) (x4 : Int32) (S : zMem) (ls : Array Slot), lv_has ls 6 [(0, .ref (w.2.2.1 0)), (3, .int x3), (4, .int x4)] → X9_duel_l83 k74 n x3 x4 S = some (r, S1) → zV LM w X (some (.int r)) S1 S 83 ls [] := by
  intro n
  induction n with
  | zero =>
    intro x3 x4 S ls hl h
    cases (show (none : Option (Int32 × zMem)) = some _ from h)
  | succ n ih =>
    intro x3 x4 S ls hl h
    exact w_X9_duel_b83 C hc74 ih hl h
set_option maxRecDepth 20000 in
theorem w_X9_duel_b263 {w : zWd} {X : zX} {l0 : Launch} {r : Int32} {S1 : zMem} (C : zC LM w X l0 cX9_duel RX9 6 4 (some .int)) {S : zMem} {ls : Array Slot} (hl : lv_has ls 6 [(0, .ref (w.2.2.1 0))]) (h : X9_duel_b263  S = some (r, S1)) : zV LM w X (some (.int r)) S1 S 263 ls [] := by
  unfold X9_duel_b263 at h
  refine v_aload_n 263 C dX9_duel_263 rfl (lv_at hl 0 rfl) ?_
  refine v_aload_n 264 C dX9_duel_264 rfl (lv_at hl 0 rfl) ?_
  refine v_getr 265 (14) C dX9_duel_265 fl_X9_53 rfl kM_0 rfl ?_
  refine v_bipush 268 C (v := (6 : Int32)) dX9_duel_268 (by decide) ?_
  refine v_iald 270 C dX9_duel_270 kM_14 rfl h (fun v1 h => ?_)
  refine v_puti 271 C dX9_duel_271 fl_X9_60 fp_8_10 rfl kM_0 h (fun S h => ?_)
  refine v_iconst 274 C (v := (1 : Int32)) dX9_duel_274 (by decide) ?_
  exact v_ireturn 275 C dX9_duel_275 h
set_option maxRecDepth 20000 in
theorem w_X9_duel_b74 {w : zWd} {X : zX} {l0 : Launch} {r : Int32} {S1 : zMem} (C : zC LM w X l0 cX9_duel RX9 6 4 (some .int)) {k74 : Int32 → Int32 → zMem → Option (Int32 × zMem)} (hc74 : ∀ (x3 : Int32) (x4 : Int32) (S : zMem) (ls : Array Slot), lv_has ls 6 [(0, .ref (w.2.2.1 0)), (3, .int x3), (4, .int x4)] → k74 x3 x4 S = some (r, S1) → zV LM w X (some (.int r)) S1 S 74 ls []) {x3 : Int32} {x4 : Int32} {S : zMem} {ls : Array Slot} (hl : lv_has ls 6 [(0, .ref (w.2.2.1 0)), (3, .int x3), (4, .int x4)]) (h : X9_duel_b74 k74 x3 x4 S = some (r, S1)) : zV LM w X (some (.int r)) S1 S 74 ls [] := by
  unfold X9_duel_b74 at h
  refine v_iload_n 74 C dX9_duel_74 rfl (lv_at hl 1 rfl) ?_
  refine v_if_le 75 263 C dX9_duel_75 (by decide) h (fun h => ?_) (fun h => ?_)
  · exact w_X9_duel_b263 C (lv_sub hl [0] rfl) h
  · refine v_iload 78 C dX9_duel_78 (lv_at hl 2 rfl) ?_
    refine v_if_lt 80 263 C dX9_duel_80 (by decide) h (fun h => ?_) (fun h => ?_)
    · exact w_X9_duel_b263 C (lv_sub hl [0] rfl) h
    · exact w_X9_duel_l83 C hc74 zF _ _ _ _ (lv_sub hl [0, 1, 2] rfl) h
theorem w_X9_duel_l74 {w : zWd} {X : zX} {l0 : Launch} {r : Int32} {S1 : zMem} (C : zC LM w X l0 cX9_duel RX9 6 4 (some .int)) : ∀ (n : Nat) (x3 : Int32) (x4 : Int32) (S : zMem) (ls : Array Slot), lv_has ls 6 [(0, .ref (w.2.2.1 0)), (3, .int x3), (4, .int x4)] → X9_duel_l74 n x3 x4 S = some (r, S1) → zV LM w X (some (.int r)) S1 S 74 ls [] := by
  intro n
  induction n with
  | zero =>
    intro x3 x4 S ls hl h
    cases (show (none : Option (Int32 × zMem)) = some _ from h)
  | succ n ih =>
    intro x3 x4 S ls hl h
    exact w_X9_duel_b74 C ih hl h
set_option maxRecDepth 20000 in
theorem w_X9_duel_b53 {w : zWd} {X : zX} {l0 : Launch} {r : Int32} {S1 : zMem} (C : zC LM w X l0 cX9_duel RX9 6 4 (some .int)) {s0 : Int32} {S : zMem} {ls : Array Slot} (hl : lv_has ls 6 [(0, .ref (w.2.2.1 0))]) (h : X9_duel_b53 s0 S = some (r, S1)) : zV LM w X (some (.int r)) S1 S 53 ls [.int s0] := by
  unfold X9_duel_b53 at h
  refine v_istore_n 53 C [(3, .int s0), (0, .ref (w.2.2.1 0))] dX9_duel_53 rfl hl (by decide) rfl (fun ls hl => ?_)
  refine v_iconst 54 C (v := (0 : Int32)) dX9_duel_54 (by decide) ?_
  refine v_istore 55 C [(4, .int (0 : Int32)), (3, .int s0), (0, .ref (w.2.2.1 0))] dX9_duel_55 hl (by decide) rfl (fun ls hl => ?_)
  refine v_aload_n 57 C dX9_duel_57 rfl (lv_at hl 2 rfl) ?_
  refine v_getr 58 (14) C dX9_duel_58 fl_X9_53 rfl kM_0 rfl ?_
  refine v_bipush 61 C (v := (6 : Int32)) dX9_duel_61 (by decide) ?_
  refine v_iconst 63 C (v := (0 : Int32)) dX9_duel_63 (by decide) ?_
  refine v_iast 64 C dX9_duel_64 kM_14 rfl h (fun S h => ?_)
  refine v_iload_n 65 C dX9_duel_65 rfl (lv_at hl 1 rfl) ?_
  refine v_if_le 66 74 C dX9_duel_66 (by decide) h (fun h => ?_) (fun h => ?_)
  · exact w_X9_duel_l74 C zF _ _ _ _ (lv_sub hl [2, 1, 0] rfl) h
  · refine v_aload_n 69 C dX9_duel_69 rfl (lv_at hl 2 rfl) ?_
    refine v_iconst 70 C (v := (0 : Int32)) dX9_duel_70 (by decide) ?_
    obtain ⟨v1, S, hc, h⟩ := zb_e h
    refine v_callVv 71 C (ci := 8) [] dX9_duel_71 ml_X9_259 hy_X9_beginTurn (c_X9_beginTurn  hc) (by decide) rfl hl.1 kM_0 rfl (Nat.le_of_ble_eq_true rfl) rfl ?_
    exact w_X9_duel_l74 C zF _ _ _ _ (lv_sub hl [2, 1, 0] rfl) h
set_option maxRecDepth 20000 in
theorem w_X9_duel_b0 {w : zWd} {X : zX} {l0 : Launch} {r : Int32} {S1 : zMem} (C : zC LM w X l0 cX9_duel RX9 6 4 (some .int)) {x1 : Int32} {S : zMem} {ls : Array Slot} (hl : lv_has ls 6 [(0, .ref (w.2.2.1 0)), (1, .int x1)]) (h : X9_duel_b0 x1 S = some (r, S1)) : zV LM w X (some (.int r)) S1 S 0 ls [] := by
  unfold X9_duel_b0 at h
  refine v_iload_n 0 C dX9_duel_0 rfl (lv_at hl 1 rfl) ?_
  refine v_i2l 1 C dX9_duel_1 h (fun v1 h => ?_)
  refine v_lconst 2 C (v := 0) dX9_duel_2 (by decide) ?_
  refine v_ldc2 3 C (v := 3) dX9_duel_3 co_X9_69 ?_
  obtain ⟨v2, S, hc, h⟩ := zb_e h
  refine v_callSi 6 C [] dX9_duel_6 ml_X9_65 hy_X9_in (c_X9_in  hc) (by decide) rfl hl.1 (Nat.le_of_ble_eq_true rfl) rfl ?_
  refine v_if_ne 9 14 C dX9_duel_9 (by decide) h (fun h => ?_) (fun h => ?_)
  · refine v_aload_n 14 C dX9_duel_14 rfl (lv_at hl 0 rfl) ?_
    refine v_geti 15 C dX9_duel_15 fl_X9_152 rfl kM_0 h (fun v3 h => ?_)
    refine v_if_ne 18 24 C dX9_duel_18 (by decide) h (fun h => ?_) (fun h => ?_)
    · refine v_aload_n 24 C dX9_duel_24 rfl (lv_at hl 0 rfl) ?_
      refine v_geti 25 C dX9_duel_25 fl_X9_152 rfl kM_0 h (fun v4 h => ?_)
      refine v_aload_n 28 C dX9_duel_28 rfl (lv_at hl 0 rfl) ?_
      refine v_getr 29 (1) C dX9_duel_29 fl_X9_7 rfl kM_0 rfl ?_
      refine v_iconst 32 C (v := (5 : Int32)) dX9_duel_32 (by decide) ?_
      refine v_iald 33 C dX9_duel_33 kM_1 rfl h (fun v5 h => ?_)
      obtain ⟨v6, S, hc, h⟩ := zb_e h
      refine v_callSi 34 C [.int v4] dX9_duel_34 ml_X9_202 hy_X9_bits (c_X9_bits  hc) (by decide) rfl hl.1 (Nat.le_of_ble_eq_true rfl) rfl ?_
      refine v_isub 37 C dX9_duel_37 h (fun v7 h => ?_)
      refine v_istore_n 38 C [(2, .int v7), (0, .ref (w.2.2.1 0)), (1, .int x1)] dX9_duel_38 rfl hl (by decide) rfl (fun ls hl => ?_)
      refine v_iconst 39 C (v := (2 : Int32)) dX9_duel_39 (by decide) ?_
      refine v_iload_n 40 C dX9_duel_40 rfl (lv_at hl 2 rfl) ?_
      refine v_imul 41 C dX9_duel_41 h (fun v8 h => ?_)
      refine v_iload_n 42 C dX9_duel_42 rfl (lv_at hl 0 rfl) ?_
      refine v_icmp_ge 43 52 C dX9_duel_43 (by decide) h (fun h => ?_) (fun h => ?_)
      · refine v_iload_n 52 C dX9_duel_52 rfl (lv_at hl 0 rfl) ?_
        exact w_X9_duel_b53 C (lv_sub hl [1] rfl) h
      · refine v_iconst 46 C (v := (2 : Int32)) dX9_duel_46 (by decide) ?_
        refine v_iload_n 47 C dX9_duel_47 rfl (lv_at hl 2 rfl) ?_
        refine v_imul 48 C dX9_duel_48 h (fun v9 h => ?_)
        refine v_goto 49 53 C dX9_duel_49 (by decide) ?_
        exact w_X9_duel_b53 C (lv_sub hl [1] rfl) h
    · refine v_bipush 21 C (v := (-4 : Int32)) dX9_duel_21 (by decide) ?_
      exact v_ireturn 23 C dX9_duel_23 h
  · refine v_iconst 12 C (v := (-1 : Int32)) dX9_duel_12 (by decide) ?_
    exact v_ireturn 13 C dX9_duel_13 h
theorem c_X9_duel {w : zWd} {l0 : Launch} {x1 : Int32} {S S1 : zMem} {r : Int32} (h : f_X9_duel x1 S = some (r, S1)) : zMet LM w l0 yX9_duel cX9_duel 6 (some .int) 4 [.ref (w.2.2.1 0), .int x1] S (some (.int r)) S1 :=
  zMet_of (by decide +kernel) (Nat.le_of_ble_eq_true rfl) (fun X ls C hl => w_X9_duel_b0 C hl h)
