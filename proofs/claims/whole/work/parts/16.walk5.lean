-- X9_has X9_layTried X9_kept X9_endsBy X9_carries X9_letterTold X9_letter X9_isOf X9_mark X9_keepPast X9_carry X9_bribe X9_weather X9_bits X9_beginDay X9_day X9_undo X9_copyPost X9_keep X9_on X9_ends X9_bond X9_least X9_beginLine X9_lettersOf X9_endTogether
theorem dX9_has_0 : decode cX9_has 0 = .ok (.iload_n 0, 1) := by decide +kernel
theorem dX9_has_1 : decode cX9_has 1 = .ok (.iload_n 1, 1) := by decide +kernel
theorem dX9_has_2 : decode cX9_has 2 = .ok (.ishr, 1) := by decide +kernel
theorem dX9_has_3 : decode cX9_has 3 = .ok (.iconst 1, 1) := by decide +kernel
theorem dX9_has_4 : decode cX9_has 4 = .ok (.iand, 1) := by decide +kernel
theorem dX9_has_5 : decode cX9_has 5 = .ok (.iconst 1, 1) := by decide +kernel
theorem dX9_has_6 : decode cX9_has 6 = .ok (.if_icmp .ne 7, 3) := by decide +kernel
theorem dX9_has_9 : decode cX9_has 9 = .ok (.iconst 1, 1) := by decide +kernel
theorem dX9_has_10 : decode cX9_has 10 = .ok (.goto 4, 3) := by decide +kernel
theorem dX9_has_13 : decode cX9_has 13 = .ok (.iconst 0, 1) := by decide +kernel
theorem dX9_has_14 : decode cX9_has 14 = .ok (.ireturn, 1) := by decide +kernel
set_option maxRecDepth 20000 in
theorem w_X9_has_b14 {w : zWd} {X : zX} {l0 : Launch} {r : Int32} {S1 : zMem} (C : zC LM w X l0 cX9_has RX9 2 1 (some .boolean)) {s0 : Int32} {S : zMem} {ls : Array Slot} (hl : lv_has ls 2 []) (h : X9_has_b14 s0 S = some (r, S1)) : zV LM w X (some (.int r)) S1 S 14 ls [.int s0] := by
  unfold X9_has_b14 at h
  exact v_zreturn 14 C dX9_has_14 h
set_option maxRecDepth 20000 in
theorem w_X9_has_b0 {w : zWd} {X : zX} {l0 : Launch} {r : Int32} {S1 : zMem} (C : zC LM w X l0 cX9_has RX9 2 1 (some .boolean)) {x0 : Int32} {x1 : Int32} {S : zMem} {ls : Array Slot} (hl : lv_has ls 2 [(0, .int x0), (1, .int x1)]) (h : X9_has_b0 x0 x1 S = some (r, S1)) : zV LM w X (some (.int r)) S1 S 0 ls [] := by
  unfold X9_has_b0 at h
  refine v_iload_n 0 C dX9_has_0 rfl (lv_at hl 0 rfl) ?_
  refine v_iload_n 1 C dX9_has_1 rfl (lv_at hl 1 rfl) ?_
  refine v_ishr 2 C dX9_has_2 h (fun v1 h => ?_)
  refine v_iconst 3 C (v := (1 : Int32)) dX9_has_3 (by decide) ?_
  refine v_iand 4 C dX9_has_4 h (fun v2 h => ?_)
  refine v_iconst 5 C (v := (1 : Int32)) dX9_has_5 (by decide) ?_
  refine v_icmp_ne 6 13 C dX9_has_6 (by decide) h (fun h => ?_) (fun h => ?_)
  · refine v_iconst 13 C (v := (0 : Int32)) dX9_has_13 (by decide) ?_
    exact w_X9_has_b14 C (lv_sub hl [] rfl) h
  · refine v_iconst 9 C (v := (1 : Int32)) dX9_has_9 (by decide) ?_
    refine v_goto 10 14 C dX9_has_10 (by decide) ?_
    exact w_X9_has_b14 C (lv_sub hl [] rfl) h
theorem c_X9_has {w : zWd} {l0 : Launch} {x0 : Int32} {x1 : Int32} {S S1 : zMem} {r : Int32} (h : f_X9_has x0 x1 S = some (r, S1)) : zMet LM w l0 yX9_has cX9_has 2 (some .boolean) 1 [.int x0, .int x1] S (some (.int r)) S1 :=
  zMet_of (by decide +kernel) (Nat.le_of_ble_eq_true rfl) (fun X ls C hl => w_X9_has_b0 C hl h)
theorem dX9_layTried_0 : decode cX9_layTried 0 = .ok (.iconst 0, 1) := by decide +kernel
theorem dX9_layTried_1 : decode cX9_layTried 1 = .ok (.istore_n 1, 1) := by decide +kernel
theorem dX9_layTried_2 : decode cX9_layTried 2 = .ok (.iload_n 1, 1) := by decide +kernel
theorem dX9_layTried_3 : decode cX9_layTried 3 = .ok (.bipush 18, 2) := by decide +kernel
theorem dX9_layTried_5 : decode cX9_layTried 5 = .ok (.if_icmp .ge 25, 3) := by decide +kernel
theorem dX9_layTried_8 : decode cX9_layTried 8 = .ok (.aload_n 0, 1) := by decide +kernel
theorem dX9_layTried_9 : decode cX9_layTried 9 = .ok (.getfield 7, 3) := by decide +kernel
theorem dX9_layTried_12 : decode cX9_layTried 12 = .ok (.sipush 2792, 3) := by decide +kernel
theorem dX9_layTried_15 : decode cX9_layTried 15 = .ok (.iload_n 1, 1) := by decide +kernel
theorem dX9_layTried_16 : decode cX9_layTried 16 = .ok (.iadd, 1) := by decide +kernel
theorem dX9_layTried_17 : decode cX9_layTried 17 = .ok (.aload_n 0, 1) := by decide +kernel
theorem dX9_layTried_18 : decode cX9_layTried 18 = .ok (.getfield 7, 3) := by decide +kernel
theorem dX9_layTried_21 : decode cX9_layTried 21 = .ok (.iload_n 1, 1) := by decide +kernel
theorem dX9_layTried_22 : decode cX9_layTried 22 = .ok (.iaload, 1) := by decide +kernel
theorem dX9_layTried_23 : decode cX9_layTried 23 = .ok (.iastore, 1) := by decide +kernel
theorem dX9_layTried_24 : decode cX9_layTried 24 = .ok (.iinc 1 1, 3) := by decide +kernel
theorem dX9_layTried_27 : decode cX9_layTried 27 = .ok (.goto (-25), 3) := by decide +kernel
theorem dX9_layTried_30 : decode cX9_layTried 30 = .ok (.return_, 1) := by decide +kernel
set_option maxRecDepth 20000 in
theorem w_X9_layTried_b2 {w : zWd} {X : zX} {l0 : Launch} {r : Unit} {S1 : zMem} (C : zC LM w X l0 cX9_layTried RX9 2 1 none) {k2 : Int32 → zMem → Option (Unit × zMem)} (hc2 : ∀ (x1 : Int32) (S : zMem) (ls : Array Slot), lv_has ls 2 [(0, .ref (w.2.2.1 0)), (1, .int x1)] → k2 x1 S = some (r, S1) → zV LM w X none S1 S 2 ls []) {x1 : Int32} {S : zMem} {ls : Array Slot} (hl : lv_has ls 2 [(0, .ref (w.2.2.1 0)), (1, .int x1)]) (h : X9_layTried_b2 k2 x1 S = some (r, S1)) : zV LM w X none S1 S 2 ls [] := by
  unfold X9_layTried_b2 at h
  refine v_iload_n 2 C dX9_layTried_2 rfl (lv_at hl 1 rfl) ?_
  refine v_bipush 3 C (v := (18 : Int32)) dX9_layTried_3 (by decide) ?_
  refine v_icmp_ge 5 30 C dX9_layTried_5 (by decide) h (fun h => ?_) (fun h => ?_)
  · exact v_return 30 C dX9_layTried_30 h
  · refine v_aload_n 8 C dX9_layTried_8 rfl (lv_at hl 0 rfl) ?_
    refine v_getr 9 (1) C dX9_layTried_9 fl_X9_7 rfl kM_0 rfl ?_
    refine v_sipush 12 C (v := (2792 : Int32)) dX9_layTried_12 (by decide) ?_
    refine v_iload_n 15 C dX9_layTried_15 rfl (lv_at hl 1 rfl) ?_
    refine v_iadd 16 C dX9_layTried_16 h (fun v1 h => ?_)
    refine v_aload_n 17 C dX9_layTried_17 rfl (lv_at hl 0 rfl) ?_
    refine v_getr 18 (1) C dX9_layTried_18 fl_X9_7 rfl kM_0 rfl ?_
    refine v_iload_n 21 C dX9_layTried_21 rfl (lv_at hl 1 rfl) ?_
    refine v_iald 22 C dX9_layTried_22 kM_1 rfl h (fun v2 h => ?_)
    refine v_iast 23 C dX9_layTried_23 kM_1 rfl h (fun S h => ?_)
    refine v_iinc 24 C (nn := (1 : Int32)) (fun v => [(1, .int v), (0, .ref (w.2.2.1 0))]) dX9_layTried_24 hl (k := 1) rfl (by decide) (by decide) (fun _ => rfl) h (fun v3 ls hl h => ?_)
    refine v_goto 27 2 C dX9_layTried_27 (by decide) ?_
    exact hc2 _ _ _ (lv_sub hl [1, 0] rfl) h
theorem w_X9_layTried_l2 {w : zWd} {X : zX} {l0 : Launch} {r : Unit} {S1 : zMem} (C : zC LM w X l0 cX9_layTried RX9 2 1 none) : ∀ (n : Nat) (x1 : Int32) (S : zMem) (ls : Array Slot), lv_has ls 2 [(0, .ref (w.2.2.1 0)), (1, .int x1)] → X9_layTried_l2 n x1 S = some (r, S1) → zV LM w X none S1 S 2 ls [] := by
  intro n
  induction n with
  | zero =>
    intro x1 S ls hl h
    cases (show (none : Option (Unit × zMem)) = some _ from h)
  | succ n ih =>
    intro x1 S ls hl h
    exact w_X9_layTried_b2 C ih hl h
set_option maxRecDepth 20000 in
theorem w_X9_layTried_b0 {w : zWd} {X : zX} {l0 : Launch} {r : Unit} {S1 : zMem} (C : zC LM w X l0 cX9_layTried RX9 2 1 none) {S : zMem} {ls : Array Slot} (hl : lv_has ls 2 [(0, .ref (w.2.2.1 0))]) (h : X9_layTried_b0  S = some (r, S1)) : zV LM w X none S1 S 0 ls [] := by
  unfold X9_layTried_b0 at h
  refine v_iconst 0 C (v := (0 : Int32)) dX9_layTried_0 (by decide) ?_
  refine v_istore_n 1 C [(1, .int (0 : Int32)), (0, .ref (w.2.2.1 0))] dX9_layTried_1 rfl hl (by decide) rfl (fun ls hl => ?_)
  exact w_X9_layTried_l2 C zF _ _ _ (lv_sub hl [1, 0] rfl) h
theorem c_X9_layTried {w : zWd} {l0 : Launch} {S S1 : zMem} {r : Unit} (h : f_X9_layTried  S = some (r, S1)) : zMet LM w l0 yX9_layTried cX9_layTried 2 none 1 [.ref (w.2.2.1 0)] S none S1 :=
  zMet_of (by decide +kernel) (Nat.le_of_ble_eq_true rfl) (fun X ls C hl => w_X9_layTried_b0 C hl h)
theorem dX9_kept_0 : decode cX9_kept 0 = .ok (.iload_n 0, 1) := by decide +kernel
theorem dX9_kept_1 : decode cX9_kept 1 = .ok (.ifCond .ge 7, 3) := by decide +kernel
theorem dX9_kept_4 : decode cX9_kept 4 = .ok (.iconst 0, 1) := by decide +kernel
theorem dX9_kept_5 : decode cX9_kept 5 = .ok (.goto 13, 3) := by decide +kernel
theorem dX9_kept_8 : decode cX9_kept 8 = .ok (.iload_n 0, 1) := by decide +kernel
theorem dX9_kept_9 : decode cX9_kept 9 = .ok (.iload_n 1, 1) := by decide +kernel
theorem dX9_kept_10 : decode cX9_kept 10 = .ok (.if_icmp .le 7, 3) := by decide +kernel
theorem dX9_kept_13 : decode cX9_kept 13 = .ok (.iload_n 1, 1) := by decide +kernel
theorem dX9_kept_14 : decode cX9_kept 14 = .ok (.goto 4, 3) := by decide +kernel
theorem dX9_kept_17 : decode cX9_kept 17 = .ok (.iload_n 0, 1) := by decide +kernel
theorem dX9_kept_18 : decode cX9_kept 18 = .ok (.ireturn, 1) := by decide +kernel
set_option maxRecDepth 20000 in
theorem w_X9_kept_b18 {w : zWd} {X : zX} {l0 : Launch} {r : Int32} {S1 : zMem} (C : zC LM w X l0 cX9_kept RX9 2 1 (some .int)) {s0 : Int32} {S : zMem} {ls : Array Slot} (hl : lv_has ls 2 []) (h : X9_kept_b18 s0 S = some (r, S1)) : zV LM w X (some (.int r)) S1 S 18 ls [.int s0] := by
  unfold X9_kept_b18 at h
  exact v_ireturn 18 C dX9_kept_18 h
set_option maxRecDepth 20000 in
theorem w_X9_kept_b0 {w : zWd} {X : zX} {l0 : Launch} {r : Int32} {S1 : zMem} (C : zC LM w X l0 cX9_kept RX9 2 1 (some .int)) {x0 : Int32} {x1 : Int32} {S : zMem} {ls : Array Slot} (hl : lv_has ls 2 [(0, .int x0), (1, .int x1)]) (h : X9_kept_b0 x0 x1 S = some (r, S1)) : zV LM w X (some (.int r)) S1 S 0 ls [] := by
  unfold X9_kept_b0 at h
  refine v_iload_n 0 C dX9_kept_0 rfl (lv_at hl 0 rfl) ?_
  refine v_if_ge 1 8 C dX9_kept_1 (by decide) h (fun h => ?_) (fun h => ?_)
  · refine v_iload_n 8 C dX9_kept_8 rfl (lv_at hl 0 rfl) ?_
    refine v_iload_n 9 C dX9_kept_9 rfl (lv_at hl 1 rfl) ?_
    refine v_icmp_le 10 17 C dX9_kept_10 (by decide) h (fun h => ?_) (fun h => ?_)
    · refine v_iload_n 17 C dX9_kept_17 rfl (lv_at hl 0 rfl) ?_
      exact w_X9_kept_b18 C (lv_sub hl [] rfl) h
    · refine v_iload_n 13 C dX9_kept_13 rfl (lv_at hl 1 rfl) ?_
      refine v_goto 14 18 C dX9_kept_14 (by decide) ?_
      exact w_X9_kept_b18 C (lv_sub hl [] rfl) h
  · refine v_iconst 4 C (v := (0 : Int32)) dX9_kept_4 (by decide) ?_
    refine v_goto 5 18 C dX9_kept_5 (by decide) ?_
    exact w_X9_kept_b18 C (lv_sub hl [] rfl) h
theorem c_X9_kept {w : zWd} {l0 : Launch} {x0 : Int32} {x1 : Int32} {S S1 : zMem} {r : Int32} (h : f_X9_kept x0 x1 S = some (r, S1)) : zMet LM w l0 yX9_kept cX9_kept 2 (some .int) 1 [.int x0, .int x1] S (some (.int r)) S1 :=
  zMet_of (by decide +kernel) (Nat.le_of_ble_eq_true rfl) (fun X ls C hl => w_X9_kept_b0 C hl h)
theorem dX9_endsBy_0 : decode cX9_endsBy 0 = .ok (.iload_n 1, 1) := by decide +kernel
theorem dX9_endsBy_1 : decode cX9_endsBy 1 = .ok (.iload_n 2, 1) := by decide +kernel
theorem dX9_endsBy_2 : decode cX9_endsBy 2 = .ok (.iadd, 1) := by decide +kernel
theorem dX9_endsBy_3 : decode cX9_endsBy 3 = .ok (.iconst 2, 1) := by decide +kernel
theorem dX9_endsBy_4 : decode cX9_endsBy 4 = .ok (.idiv, 1) := by decide +kernel
theorem dX9_endsBy_5 : decode cX9_endsBy 5 = .ok (.istore_n 3, 1) := by decide +kernel
theorem dX9_endsBy_6 : decode cX9_endsBy 6 = .ok (.iload_n 0, 1) := by decide +kernel
theorem dX9_endsBy_7 : decode cX9_endsBy 7 = .ok (.tableswitch 74 1 5 #[33, 35, 46, 63, 46], 33) := by decide +kernel
theorem dX9_endsBy_40 : decode cX9_endsBy 40 = .ok (.iload_n 1, 1) := by decide +kernel
theorem dX9_endsBy_41 : decode cX9_endsBy 41 = .ok (.ireturn, 1) := by decide +kernel
theorem dX9_endsBy_42 : decode cX9_endsBy 42 = .ok (.iload_n 3, 1) := by decide +kernel
theorem dX9_endsBy_43 : decode cX9_endsBy 43 = .ok (.iconst 5, 1) := by decide +kernel
theorem dX9_endsBy_44 : decode cX9_endsBy 44 = .ok (.if_icmp .ge 7, 3) := by decide +kernel
theorem dX9_endsBy_47 : decode cX9_endsBy 47 = .ok (.iconst 5, 1) := by decide +kernel
theorem dX9_endsBy_48 : decode cX9_endsBy 48 = .ok (.goto 4, 3) := by decide +kernel
theorem dX9_endsBy_51 : decode cX9_endsBy 51 = .ok (.iload_n 3, 1) := by decide +kernel
theorem dX9_endsBy_52 : decode cX9_endsBy 52 = .ok (.ireturn, 1) := by decide +kernel
theorem dX9_endsBy_53 : decode cX9_endsBy 53 = .ok (.iload_n 1, 1) := by decide +kernel
theorem dX9_endsBy_54 : decode cX9_endsBy 54 = .ok (.iload_n 2, 1) := by decide +kernel
theorem dX9_endsBy_55 : decode cX9_endsBy 55 = .ok (.iadd, 1) := by decide +kernel
theorem dX9_endsBy_56 : decode cX9_endsBy 56 = .ok (.bipush 9, 2) := by decide +kernel
theorem dX9_endsBy_58 : decode cX9_endsBy 58 = .ok (.if_icmp .le 8, 3) := by decide +kernel
theorem dX9_endsBy_61 : decode cX9_endsBy 61 = .ok (.bipush 9, 2) := by decide +kernel
theorem dX9_endsBy_63 : decode cX9_endsBy 63 = .ok (.goto 6, 3) := by decide +kernel
theorem dX9_endsBy_66 : decode cX9_endsBy 66 = .ok (.iload_n 1, 1) := by decide +kernel
theorem dX9_endsBy_67 : decode cX9_endsBy 67 = .ok (.iload_n 2, 1) := by decide +kernel
theorem dX9_endsBy_68 : decode cX9_endsBy 68 = .ok (.iadd, 1) := by decide +kernel
theorem dX9_endsBy_69 : decode cX9_endsBy 69 = .ok (.ireturn, 1) := by decide +kernel
theorem dX9_endsBy_70 : decode cX9_endsBy 70 = .ok (.iload_n 1, 1) := by decide +kernel
theorem dX9_endsBy_71 : decode cX9_endsBy 71 = .ok (.iconst 5, 1) := by decide +kernel
theorem dX9_endsBy_72 : decode cX9_endsBy 72 = .ok (.if_icmp .ge 7, 3) := by decide +kernel
theorem dX9_endsBy_75 : decode cX9_endsBy 75 = .ok (.iconst 5, 1) := by decide +kernel
theorem dX9_endsBy_76 : decode cX9_endsBy 76 = .ok (.goto 4, 3) := by decide +kernel
theorem dX9_endsBy_79 : decode cX9_endsBy 79 = .ok (.iload_n 1, 1) := by decide +kernel
theorem dX9_endsBy_80 : decode cX9_endsBy 80 = .ok (.ireturn, 1) := by decide +kernel
theorem dX9_endsBy_81 : decode cX9_endsBy 81 = .ok (.iload_n 3, 1) := by decide +kernel
theorem dX9_endsBy_82 : decode cX9_endsBy 82 = .ok (.ireturn, 1) := by decide +kernel
set_option maxRecDepth 20000 in
theorem w_X9_endsBy_b52 {w : zWd} {X : zX} {l0 : Launch} {r : Int32} {S1 : zMem} (C : zC LM w X l0 cX9_endsBy RX9 4 1 (some .int)) {s0 : Int32} {S : zMem} {ls : Array Slot} (hl : lv_has ls 4 []) (h : X9_endsBy_b52 s0 S = some (r, S1)) : zV LM w X (some (.int r)) S1 S 52 ls [.int s0] := by
  unfold X9_endsBy_b52 at h
  exact v_ireturn 52 C dX9_endsBy_52 h
set_option maxRecDepth 20000 in
theorem w_X9_endsBy_b69 {w : zWd} {X : zX} {l0 : Launch} {r : Int32} {S1 : zMem} (C : zC LM w X l0 cX9_endsBy RX9 4 1 (some .int)) {s0 : Int32} {S : zMem} {ls : Array Slot} (hl : lv_has ls 4 []) (h : X9_endsBy_b69 s0 S = some (r, S1)) : zV LM w X (some (.int r)) S1 S 69 ls [.int s0] := by
  unfold X9_endsBy_b69 at h
  exact v_ireturn 69 C dX9_endsBy_69 h
set_option maxRecDepth 20000 in
theorem w_X9_endsBy_b53 {w : zWd} {X : zX} {l0 : Launch} {r : Int32} {S1 : zMem} (C : zC LM w X l0 cX9_endsBy RX9 4 1 (some .int)) {x1 : Int32} {x2 : Int32} {S : zMem} {ls : Array Slot} (hl : lv_has ls 4 [(1, .int x1), (2, .int x2)]) (h : X9_endsBy_b53 x1 x2 S = some (r, S1)) : zV LM w X (some (.int r)) S1 S 53 ls [] := by
  unfold X9_endsBy_b53 at h
  refine v_iload_n 53 C dX9_endsBy_53 rfl (lv_at hl 0 rfl) ?_
  refine v_iload_n 54 C dX9_endsBy_54 rfl (lv_at hl 1 rfl) ?_
  refine v_iadd 55 C dX9_endsBy_55 h (fun v1 h => ?_)
  refine v_bipush 56 C (v := (9 : Int32)) dX9_endsBy_56 (by decide) ?_
  refine v_icmp_le 58 66 C dX9_endsBy_58 (by decide) h (fun h => ?_) (fun h => ?_)
  · refine v_iload_n 66 C dX9_endsBy_66 rfl (lv_at hl 0 rfl) ?_
    refine v_iload_n 67 C dX9_endsBy_67 rfl (lv_at hl 1 rfl) ?_
    refine v_iadd 68 C dX9_endsBy_68 h (fun v2 h => ?_)
    exact w_X9_endsBy_b69 C (lv_sub hl [] rfl) h
  · refine v_bipush 61 C (v := (9 : Int32)) dX9_endsBy_61 (by decide) ?_
    refine v_goto 63 69 C dX9_endsBy_63 (by decide) ?_
    exact w_X9_endsBy_b69 C (lv_sub hl [] rfl) h
set_option maxRecDepth 20000 in
theorem w_X9_endsBy_b80 {w : zWd} {X : zX} {l0 : Launch} {r : Int32} {S1 : zMem} (C : zC LM w X l0 cX9_endsBy RX9 4 1 (some .int)) {s0 : Int32} {S : zMem} {ls : Array Slot} (hl : lv_has ls 4 []) (h : X9_endsBy_b80 s0 S = some (r, S1)) : zV LM w X (some (.int r)) S1 S 80 ls [.int s0] := by
  unfold X9_endsBy_b80 at h
  exact v_ireturn 80 C dX9_endsBy_80 h
set_option maxRecDepth 20000 in
theorem w_X9_endsBy_b0 {w : zWd} {X : zX} {l0 : Launch} {r : Int32} {S1 : zMem} (C : zC LM w X l0 cX9_endsBy RX9 4 1 (some .int)) {x0 : Int32} {x1 : Int32} {x2 : Int32} {S : zMem} {ls : Array Slot} (hl : lv_has ls 4 [(0, .int x0), (1, .int x1), (2, .int x2)]) (h : X9_endsBy_b0 x0 x1 x2 S = some (r, S1)) : zV LM w X (some (.int r)) S1 S 0 ls [] := by
  unfold X9_endsBy_b0 at h
  refine v_iload_n 0 C dX9_endsBy_0 rfl (lv_at hl 1 rfl) ?_
  refine v_iload_n 1 C dX9_endsBy_1 rfl (lv_at hl 2 rfl) ?_
  refine v_iadd 2 C dX9_endsBy_2 h (fun v1 h => ?_)
  refine v_iconst 3 C (v := (2 : Int32)) dX9_endsBy_3 (by decide) ?_
  refine v_idiv 4 C dX9_endsBy_4 (by decide) h (fun v2 h => ?_)
  refine v_istore_n 5 C [(3, .int v2), (0, .int x0), (1, .int x1), (2, .int x2)] dX9_endsBy_5 rfl hl (by decide) rfl (fun ls hl => ?_)
  refine v_iload_n 6 C dX9_endsBy_6 rfl (lv_at hl 1 rfl) ?_
  refine v_ite h (fun hq3 h => ?_) (fun hq3 h => ?_)
  · refine v_tab 7 40 C (x := x0) (off := 33) dX9_endsBy_7 (by rw [hq3]; decide) (by rw [hq3]; decide) (by rw [hq3]; rfl) (by decide) ?_
    refine v_iload_n 40 C dX9_endsBy_40 rfl (lv_at hl 2 rfl) ?_
    exact v_ireturn 41 C dX9_endsBy_41 h
  · refine v_ite h (fun hq4 h => ?_) (fun hq4 h => ?_)
    · refine v_tab 7 42 C (x := x0) (off := 35) dX9_endsBy_7 (by rw [hq4]; decide) (by rw [hq4]; decide) (by rw [hq4]; rfl) (by decide) ?_
      refine v_iload_n 42 C dX9_endsBy_42 rfl (lv_at hl 0 rfl) ?_
      refine v_iconst 43 C (v := (5 : Int32)) dX9_endsBy_43 (by decide) ?_
      refine v_icmp_ge 44 51 C dX9_endsBy_44 (by decide) h (fun h => ?_) (fun h => ?_)
      · refine v_iload_n 51 C dX9_endsBy_51 rfl (lv_at hl 0 rfl) ?_
        exact w_X9_endsBy_b52 C (lv_sub hl [] rfl) h
      · refine v_iconst 47 C (v := (5 : Int32)) dX9_endsBy_47 (by decide) ?_
        refine v_goto 48 52 C dX9_endsBy_48 (by decide) ?_
        exact w_X9_endsBy_b52 C (lv_sub hl [] rfl) h
    · refine v_ite h (fun hq5 h => ?_) (fun hq5 h => ?_)
      · refine v_tab 7 53 C (x := x0) (off := 46) dX9_endsBy_7 (by rw [hq5]; decide) (by rw [hq5]; decide) (by rw [hq5]; rfl) (by decide) ?_
        exact w_X9_endsBy_b53 C (lv_sub hl [2, 3] rfl) h
      · refine v_ite h (fun hq6 h => ?_) (fun hq6 h => ?_)
        · refine v_tab 7 70 C (x := x0) (off := 63) dX9_endsBy_7 (by rw [hq6]; decide) (by rw [hq6]; decide) (by rw [hq6]; rfl) (by decide) ?_
          refine v_iload_n 70 C dX9_endsBy_70 rfl (lv_at hl 2 rfl) ?_
          refine v_iconst 71 C (v := (5 : Int32)) dX9_endsBy_71 (by decide) ?_
          refine v_icmp_ge 72 79 C dX9_endsBy_72 (by decide) h (fun h => ?_) (fun h => ?_)
          · refine v_iload_n 79 C dX9_endsBy_79 rfl (lv_at hl 2 rfl) ?_
            exact w_X9_endsBy_b80 C (lv_sub hl [] rfl) h
          · refine v_iconst 75 C (v := (5 : Int32)) dX9_endsBy_75 (by decide) ?_
            refine v_goto 76 80 C dX9_endsBy_76 (by decide) ?_
            exact w_X9_endsBy_b80 C (lv_sub hl [] rfl) h
        · refine v_ite h (fun hq7 h => ?_) (fun hq7 h => ?_)
          · refine v_tab 7 53 C (x := x0) (off := 46) dX9_endsBy_7 (by rw [hq7]; decide) (by rw [hq7]; decide) (by rw [hq7]; rfl) (by decide) ?_
            exact w_X9_endsBy_b53 C (lv_sub hl [2, 3] rfl) h
          · refine v_tabo 7 81 C (x := x0) dX9_endsBy_7 (by have hq3z := zne hq3 (show ((1 : Int32)).toInt = 1 by decide); have hq4z := zne hq4 (show ((2 : Int32)).toInt = 2 by decide); have hq5z := zne hq5 (show ((3 : Int32)).toInt = 3 by decide); have hq6z := zne hq6 (show ((4 : Int32)).toInt = 4 by decide); have hq7z := zne hq7 (show ((5 : Int32)).toInt = 5 by decide); omega) (by decide) ?_
            refine v_iload_n 81 C dX9_endsBy_81 rfl (lv_at hl 0 rfl) ?_
            exact v_ireturn 82 C dX9_endsBy_82 h
theorem c_X9_endsBy {w : zWd} {l0 : Launch} {x0 : Int32} {x1 : Int32} {x2 : Int32} {S S1 : zMem} {r : Int32} (h : f_X9_endsBy x0 x1 x2 S = some (r, S1)) : zMet LM w l0 yX9_endsBy cX9_endsBy 4 (some .int) 1 [.int x0, .int x1, .int x2] S (some (.int r)) S1 :=
  zMet_of (by decide +kernel) (Nat.le_of_ble_eq_true rfl) (fun X ls C hl => w_X9_endsBy_b0 C hl h)
theorem ml_X9_158 : Cond.methodLink RX9 158 yX9_kept ∈ zT := zT_of (List.mem_of_getElem? (i := 1104) (by decide +kernel)) rfl
theorem hy_X9_kept : zYs yX9_kept cX9_kept 2 (some .int) 2 := ⟨⟨zT_of (List.mem_of_getElem? (i := 1106) (by decide +kernel)) rfl, zT_of (List.mem_of_getElem? (i := 78) (by decide +kernel)) rfl, by decide, by decide +kernel, by decide +kernel, by decide +kernel⟩, zT_of (List.mem_of_getElem? (i := 1105) (by decide +kernel)) rfl⟩
theorem ml_X9_161 : Cond.methodLink RX9 161 yX9_endsBy ∈ zT := zT_of (List.mem_of_getElem? (i := 1107) (by decide +kernel)) rfl
theorem hy_X9_endsBy : zYs yX9_endsBy cX9_endsBy 4 (some .int) 3 := ⟨⟨zT_of (List.mem_of_getElem? (i := 1109) (by decide +kernel)) rfl, zT_of (List.mem_of_getElem? (i := 78) (by decide +kernel)) rfl, by decide, by decide +kernel, by decide +kernel, by decide +kernel⟩, zT_of (List.mem_of_getElem? (i := 1108) (by decide +kernel)) rfl⟩
theorem dX9_carries_0 : decode cX9_carries 0 = .ok (.aload_n 0, 1) := by decide +kernel
theorem dX9_carries_1 : decode cX9_carries 1 = .ok (.iload_n 1, 1) := by decide +kernel
theorem dX9_carries_2 : decode cX9_carries 2 = .ok (.aload_n 0, 1) := by decide +kernel
theorem dX9_carries_3 : decode cX9_carries 3 = .ok (.getfield 16, 3) := by decide +kernel
theorem dX9_carries_6 : decode cX9_carries 6 = .ok (.iload_n 2, 1) := by decide +kernel
theorem dX9_carries_7 : decode cX9_carries 7 = .ok (.iaload, 1) := by decide +kernel
theorem dX9_carries_8 : decode cX9_carries 8 = .ok (.invokevirtual 155, 3) := by decide +kernel
theorem dX9_carries_11 : decode cX9_carries 11 = .ok (.istore_n 3, 1) := by decide +kernel
theorem dX9_carries_12 : decode cX9_carries 12 = .ok (.aload_n 0, 1) := by decide +kernel
theorem dX9_carries_13 : decode cX9_carries 13 = .ok (.getfield 7, 3) := by decide +kernel
theorem dX9_carries_16 : decode cX9_carries 16 = .ok (.iload_n 1, 1) := by decide +kernel
theorem dX9_carries_17 : decode cX9_carries 17 = .ok (.iconst 3, 1) := by decide +kernel
theorem dX9_carries_18 : decode cX9_carries 18 = .ok (.iadd, 1) := by decide +kernel
theorem dX9_carries_19 : decode cX9_carries 19 = .ok (.iaload, 1) := by decide +kernel
theorem dX9_carries_20 : decode cX9_carries 20 = .ok (.ifCond .ne 8, 3) := by decide +kernel
theorem dX9_carries_23 : decode cX9_carries 23 = .ok (.iload_n 3, 1) := by decide +kernel
theorem dX9_carries_24 : decode cX9_carries 24 = .ok (.ineg, 1) := by decide +kernel
theorem dX9_carries_25 : decode cX9_carries 25 = .ok (.goto 20, 3) := by decide +kernel
theorem dX9_carries_28 : decode cX9_carries 28 = .ok (.aload_n 0, 1) := by decide +kernel
theorem dX9_carries_29 : decode cX9_carries 29 = .ok (.getfield 7, 3) := by decide +kernel
theorem dX9_carries_32 : decode cX9_carries 32 = .ok (.iload_n 1, 1) := by decide +kernel
theorem dX9_carries_33 : decode cX9_carries 33 = .ok (.iconst 3, 1) := by decide +kernel
theorem dX9_carries_34 : decode cX9_carries 34 = .ok (.iadd, 1) := by decide +kernel
theorem dX9_carries_35 : decode cX9_carries 35 = .ok (.iaload, 1) := by decide +kernel
theorem dX9_carries_36 : decode cX9_carries 36 = .ok (.iconst 2, 1) := by decide +kernel
theorem dX9_carries_37 : decode cX9_carries 37 = .ok (.if_icmp .ne 7, 3) := by decide +kernel
theorem dX9_carries_40 : decode cX9_carries 40 = .ok (.iload_n 3, 1) := by decide +kernel
theorem dX9_carries_41 : decode cX9_carries 41 = .ok (.goto 4, 3) := by decide +kernel
theorem dX9_carries_44 : decode cX9_carries 44 = .ok (.iconst 0, 1) := by decide +kernel
theorem dX9_carries_45 : decode cX9_carries 45 = .ok (.istore 4, 2) := by decide +kernel
theorem dX9_carries_47 : decode cX9_carries 47 = .ok (.aload_n 0, 1) := by decide +kernel
theorem dX9_carries_48 : decode cX9_carries 48 = .ok (.getfield 7, 3) := by decide +kernel
theorem dX9_carries_51 : decode cX9_carries 51 = .ok (.iload_n 1, 1) := by decide +kernel
theorem dX9_carries_52 : decode cX9_carries 52 = .ok (.iconst 2, 1) := by decide +kernel
theorem dX9_carries_53 : decode cX9_carries 53 = .ok (.iadd, 1) := by decide +kernel
theorem dX9_carries_54 : decode cX9_carries 54 = .ok (.iaload, 1) := by decide +kernel
theorem dX9_carries_55 : decode cX9_carries 55 = .ok (.iload 4, 2) := by decide +kernel
theorem dX9_carries_57 : decode cX9_carries 57 = .ok (.iadd, 1) := by decide +kernel
theorem dX9_carries_58 : decode cX9_carries 58 = .ok (.bipush 9, 2) := by decide +kernel
theorem dX9_carries_60 : decode cX9_carries 60 = .ok (.invokestatic 158, 3) := by decide +kernel
theorem dX9_carries_63 : decode cX9_carries 63 = .ok (.istore 5, 2) := by decide +kernel
theorem dX9_carries_65 : decode cX9_carries 65 = .ok (.aload_n 0, 1) := by decide +kernel
theorem dX9_carries_66 : decode cX9_carries 66 = .ok (.getfield 13, 3) := by decide +kernel
theorem dX9_carries_69 : decode cX9_carries 69 = .ok (.iload_n 2, 1) := by decide +kernel
theorem dX9_carries_70 : decode cX9_carries 70 = .ok (.iaload, 1) := by decide +kernel
theorem dX9_carries_71 : decode cX9_carries 71 = .ok (.aload_n 0, 1) := by decide +kernel
theorem dX9_carries_72 : decode cX9_carries 72 = .ok (.getfield 19, 3) := by decide +kernel
theorem dX9_carries_75 : decode cX9_carries 75 = .ok (.iload_n 2, 1) := by decide +kernel
theorem dX9_carries_76 : decode cX9_carries 76 = .ok (.iaload, 1) := by decide +kernel
theorem dX9_carries_77 : decode cX9_carries 77 = .ok (.iload 5, 2) := by decide +kernel
theorem dX9_carries_79 : decode cX9_carries 79 = .ok (.invokestatic 161, 3) := by decide +kernel
theorem dX9_carries_82 : decode cX9_carries 82 = .ok (.istore 6, 2) := by decide +kernel
theorem dX9_carries_84 : decode cX9_carries 84 = .ok (.aload_n 0, 1) := by decide +kernel
theorem dX9_carries_85 : decode cX9_carries 85 = .ok (.getfield 7, 3) := by decide +kernel
theorem dX9_carries_88 : decode cX9_carries 88 = .ok (.iload_n 1, 1) := by decide +kernel
theorem dX9_carries_89 : decode cX9_carries 89 = .ok (.iconst 4, 1) := by decide +kernel
theorem dX9_carries_90 : decode cX9_carries 90 = .ok (.iadd, 1) := by decide +kernel
theorem dX9_carries_91 : decode cX9_carries 91 = .ok (.aload_n 0, 1) := by decide +kernel
theorem dX9_carries_92 : decode cX9_carries 92 = .ok (.getfield 16, 3) := by decide +kernel
theorem dX9_carries_95 : decode cX9_carries 95 = .ok (.iload_n 2, 1) := by decide +kernel
theorem dX9_carries_96 : decode cX9_carries 96 = .ok (.iaload, 1) := by decide +kernel
theorem dX9_carries_97 : decode cX9_carries 97 = .ok (.iastore, 1) := by decide +kernel
theorem dX9_carries_98 : decode cX9_carries 98 = .ok (.aload_n 0, 1) := by decide +kernel
theorem dX9_carries_99 : decode cX9_carries 99 = .ok (.getfield 7, 3) := by decide +kernel
theorem dX9_carries_102 : decode cX9_carries 102 = .ok (.iload_n 1, 1) := by decide +kernel
theorem dX9_carries_103 : decode cX9_carries 103 = .ok (.bipush 6, 2) := by decide +kernel
theorem dX9_carries_105 : decode cX9_carries 105 = .ok (.iadd, 1) := by decide +kernel
theorem dX9_carries_106 : decode cX9_carries 106 = .ok (.aload_n 0, 1) := by decide +kernel
theorem dX9_carries_107 : decode cX9_carries 107 = .ok (.getfield 16, 3) := by decide +kernel
theorem dX9_carries_110 : decode cX9_carries 110 = .ok (.iload_n 2, 1) := by decide +kernel
theorem dX9_carries_111 : decode cX9_carries 111 = .ok (.iaload, 1) := by decide +kernel
theorem dX9_carries_112 : decode cX9_carries 112 = .ok (.iadd, 1) := by decide +kernel
theorem dX9_carries_113 : decode cX9_carries 113 = .ok (.aload_n 0, 1) := by decide +kernel
theorem dX9_carries_114 : decode cX9_carries 114 = .ok (.getfield 7, 3) := by decide +kernel
theorem dX9_carries_117 : decode cX9_carries 117 = .ok (.iload_n 1, 1) := by decide +kernel
theorem dX9_carries_118 : decode cX9_carries 118 = .ok (.bipush 6, 2) := by decide +kernel
theorem dX9_carries_120 : decode cX9_carries 120 = .ok (.iadd, 1) := by decide +kernel
theorem dX9_carries_121 : decode cX9_carries 121 = .ok (.aload_n 0, 1) := by decide +kernel
theorem dX9_carries_122 : decode cX9_carries 122 = .ok (.getfield 16, 3) := by decide +kernel
theorem dX9_carries_125 : decode cX9_carries 125 = .ok (.iload_n 2, 1) := by decide +kernel
theorem dX9_carries_126 : decode cX9_carries 126 = .ok (.iaload, 1) := by decide +kernel
theorem dX9_carries_127 : decode cX9_carries 127 = .ok (.iadd, 1) := by decide +kernel
theorem dX9_carries_128 : decode cX9_carries 128 = .ok (.iaload, 1) := by decide +kernel
theorem dX9_carries_129 : decode cX9_carries 129 = .ok (.iload 6, 2) := by decide +kernel
theorem dX9_carries_131 : decode cX9_carries 131 = .ok (.iadd, 1) := by decide +kernel
theorem dX9_carries_132 : decode cX9_carries 132 = .ok (.iconst 5, 1) := by decide +kernel
theorem dX9_carries_133 : decode cX9_carries 133 = .ok (.isub, 1) := by decide +kernel
theorem dX9_carries_134 : decode cX9_carries 134 = .ok (.bipush 20, 2) := by decide +kernel
theorem dX9_carries_136 : decode cX9_carries 136 = .ok (.invokestatic 158, 3) := by decide +kernel
theorem dX9_carries_139 : decode cX9_carries 139 = .ok (.iastore, 1) := by decide +kernel
theorem dX9_carries_140 : decode cX9_carries 140 = .ok (.aload_n 0, 1) := by decide +kernel
theorem dX9_carries_141 : decode cX9_carries 141 = .ok (.getfield 13, 3) := by decide +kernel
theorem dX9_carries_144 : decode cX9_carries 144 = .ok (.iload_n 2, 1) := by decide +kernel
theorem dX9_carries_145 : decode cX9_carries 145 = .ok (.iaload, 1) := by decide +kernel
theorem dX9_carries_146 : decode cX9_carries 146 = .ok (.iconst 5, 1) := by decide +kernel
theorem dX9_carries_147 : decode cX9_carries 147 = .ok (.if_icmp .ne 7, 3) := by decide +kernel
theorem dX9_carries_150 : decode cX9_carries 150 = .ok (.iconst 0, 1) := by decide +kernel
theorem dX9_carries_151 : decode cX9_carries 151 = .ok (.goto 24, 3) := by decide +kernel
theorem dX9_carries_154 : decode cX9_carries 154 = .ok (.iload 6, 2) := by decide +kernel
theorem dX9_carries_156 : decode cX9_carries 156 = .ok (.iconst 5, 1) := by decide +kernel
theorem dX9_carries_157 : decode cX9_carries 157 = .ok (.if_icmp .le 7, 3) := by decide +kernel
theorem dX9_carries_160 : decode cX9_carries 160 = .ok (.iconst 1, 1) := by decide +kernel
theorem dX9_carries_161 : decode cX9_carries 161 = .ok (.goto 14, 3) := by decide +kernel
theorem dX9_carries_164 : decode cX9_carries 164 = .ok (.iload 6, 2) := by decide +kernel
theorem dX9_carries_166 : decode cX9_carries 166 = .ok (.iconst 4, 1) := by decide +kernel
theorem dX9_carries_167 : decode cX9_carries 167 = .ok (.if_icmp .ge 7, 3) := by decide +kernel
theorem dX9_carries_170 : decode cX9_carries 170 = .ok (.iconst (-1), 1) := by decide +kernel
theorem dX9_carries_171 : decode cX9_carries 171 = .ok (.goto 4, 3) := by decide +kernel
theorem dX9_carries_174 : decode cX9_carries 174 = .ok (.iconst 0, 1) := by decide +kernel
theorem dX9_carries_175 : decode cX9_carries 175 = .ok (.istore 7, 2) := by decide +kernel
theorem dX9_carries_177 : decode cX9_carries 177 = .ok (.aload_n 0, 1) := by decide +kernel
theorem dX9_carries_178 : decode cX9_carries 178 = .ok (.getfield 7, 3) := by decide +kernel
theorem dX9_carries_181 : decode cX9_carries 181 = .ok (.iload_n 1, 1) := by decide +kernel
theorem dX9_carries_182 : decode cX9_carries 182 = .ok (.iconst 2, 1) := by decide +kernel
theorem dX9_carries_183 : decode cX9_carries 183 = .ok (.iadd, 1) := by decide +kernel
theorem dX9_carries_184 : decode cX9_carries 184 = .ok (.iload 5, 2) := by decide +kernel
theorem dX9_carries_186 : decode cX9_carries 186 = .ok (.iload 7, 2) := by decide +kernel
theorem dX9_carries_188 : decode cX9_carries 188 = .ok (.iadd, 1) := by decide +kernel
theorem dX9_carries_189 : decode cX9_carries 189 = .ok (.bipush 9, 2) := by decide +kernel
theorem dX9_carries_191 : decode cX9_carries 191 = .ok (.invokestatic 158, 3) := by decide +kernel
theorem dX9_carries_194 : decode cX9_carries 194 = .ok (.iastore, 1) := by decide +kernel
theorem dX9_carries_195 : decode cX9_carries 195 = .ok (.aload_n 0, 1) := by decide +kernel
theorem dX9_carries_196 : decode cX9_carries 196 = .ok (.getfield 7, 3) := by decide +kernel
theorem dX9_carries_199 : decode cX9_carries 199 = .ok (.iload_n 1, 1) := by decide +kernel
theorem dX9_carries_200 : decode cX9_carries 200 = .ok (.iconst 5, 1) := by decide +kernel
theorem dX9_carries_201 : decode cX9_carries 201 = .ok (.iadd, 1) := by decide +kernel
theorem dX9_carries_202 : decode cX9_carries 202 = .ok (.dup2, 1) := by decide +kernel
theorem dX9_carries_203 : decode cX9_carries 203 = .ok (.iaload, 1) := by decide +kernel
theorem dX9_carries_204 : decode cX9_carries 204 = .ok (.iconst 1, 1) := by decide +kernel
theorem dX9_carries_205 : decode cX9_carries 205 = .ok (.iload_n 2, 1) := by decide +kernel
theorem dX9_carries_206 : decode cX9_carries 206 = .ok (.ishl, 1) := by decide +kernel
theorem dX9_carries_207 : decode cX9_carries 207 = .ok (.ior, 1) := by decide +kernel
theorem dX9_carries_208 : decode cX9_carries 208 = .ok (.iastore, 1) := by decide +kernel
theorem dX9_carries_209 : decode cX9_carries 209 = .ok (.aload_n 0, 1) := by decide +kernel
theorem dX9_carries_210 : decode cX9_carries 210 = .ok (.getfield 7, 3) := by decide +kernel
theorem dX9_carries_213 : decode cX9_carries 213 = .ok (.iload_n 1, 1) := by decide +kernel
theorem dX9_carries_214 : decode cX9_carries 214 = .ok (.bipush 12, 2) := by decide +kernel
theorem dX9_carries_216 : decode cX9_carries 216 = .ok (.iadd, 1) := by decide +kernel
theorem dX9_carries_217 : decode cX9_carries 217 = .ok (.iload_n 2, 1) := by decide +kernel
theorem dX9_carries_218 : decode cX9_carries 218 = .ok (.iadd, 1) := by decide +kernel
theorem dX9_carries_219 : decode cX9_carries 219 = .ok (.iload 6, 2) := by decide +kernel
theorem dX9_carries_221 : decode cX9_carries 221 = .ok (.iastore, 1) := by decide +kernel
theorem dX9_carries_222 : decode cX9_carries 222 = .ok (.iload 6, 2) := by decide +kernel
theorem dX9_carries_224 : decode cX9_carries 224 = .ok (.ireturn, 1) := by decide +kernel
set_option maxRecDepth 20000 in
theorem w_X9_carries_b175 {w : zWd} {X : zX} {l0 : Launch} {r : Int32} {S1 : zMem} (C : zC LM w X l0 cX9_carries RX9 8 2 (some .int)) {x1 : Int32} {x2 : Int32} {x5 : Int32} {x6 : Int32} {s0 : Int32} {S : zMem} {ls : Array Slot} (hl : lv_has ls 8 [(0, .ref (w.2.2.1 0)), (1, .int x1), (2, .int x2), (5, .int x5), (6, .int x6)]) (h : X9_carries_b175 x1 x2 x5 x6 s0 S = some (r, S1)) : zV LM w X (some (.int r)) S1 S 175 ls [.int s0] := by
  unfold X9_carries_b175 at h
  refine v_istore 175 C [(7, .int s0), (0, .ref (w.2.2.1 0)), (1, .int x1), (2, .int x2), (5, .int x5), (6, .int x6)] dX9_carries_175 hl (by decide) rfl (fun ls hl => ?_)
  refine v_aload_n 177 C dX9_carries_177 rfl (lv_at hl 1 rfl) ?_
  refine v_getr 178 (1) C dX9_carries_178 fl_X9_7 rfl kM_0 rfl ?_
  refine v_iload_n 181 C dX9_carries_181 rfl (lv_at hl 2 rfl) ?_
  refine v_iconst 182 C (v := (2 : Int32)) dX9_carries_182 (by decide) ?_
  refine v_iadd 183 C dX9_carries_183 h (fun v1 h => ?_)
  refine v_iload 184 C dX9_carries_184 (lv_at hl 4 rfl) ?_
  refine v_iload 186 C dX9_carries_186 (lv_at hl 0 rfl) ?_
  refine v_iadd 188 C dX9_carries_188 h (fun v2 h => ?_)
  refine v_bipush 189 C (v := (9 : Int32)) dX9_carries_189 (by decide) ?_
  obtain ⟨v3, S, hc, h⟩ := zb_e h
  refine v_callSi 191 C [.int v1, .ref (w.2.2.1 1)] dX9_carries_191 ml_X9_158 hy_X9_kept (c_X9_kept  hc) (by decide) rfl hl.1 (Nat.le_of_ble_eq_true rfl) rfl ?_
  refine v_iast 194 C dX9_carries_194 kM_1 rfl h (fun S h => ?_)
  refine v_aload_n 195 C dX9_carries_195 rfl (lv_at hl 1 rfl) ?_
  refine v_getr 196 (1) C dX9_carries_196 fl_X9_7 rfl kM_0 rfl ?_
  refine v_iload_n 199 C dX9_carries_199 rfl (lv_at hl 2 rfl) ?_
  refine v_iconst 200 C (v := (5 : Int32)) dX9_carries_200 (by decide) ?_
  refine v_iadd 201 C dX9_carries_201 h (fun v4 h => ?_)
  refine v_dup2 202 C dX9_carries_202 rfl rfl ?_
  refine v_iald 203 C dX9_carries_203 kM_1 rfl h (fun v5 h => ?_)
  refine v_iconst 204 C (v := (1 : Int32)) dX9_carries_204 (by decide) ?_
  refine v_iload_n 205 C dX9_carries_205 rfl (lv_at hl 3 rfl) ?_
  refine v_ishl 206 C dX9_carries_206 h (fun v6 h => ?_)
  refine v_ior 207 C dX9_carries_207 h (fun v7 h => ?_)
  refine v_iast 208 C dX9_carries_208 kM_1 rfl h (fun S h => ?_)
  refine v_aload_n 209 C dX9_carries_209 rfl (lv_at hl 1 rfl) ?_
  refine v_getr 210 (1) C dX9_carries_210 fl_X9_7 rfl kM_0 rfl ?_
  refine v_iload_n 213 C dX9_carries_213 rfl (lv_at hl 2 rfl) ?_
  refine v_bipush 214 C (v := (12 : Int32)) dX9_carries_214 (by decide) ?_
  refine v_iadd 216 C dX9_carries_216 h (fun v8 h => ?_)
  refine v_iload_n 217 C dX9_carries_217 rfl (lv_at hl 3 rfl) ?_
  refine v_iadd 218 C dX9_carries_218 h (fun v9 h => ?_)
  refine v_iload 219 C dX9_carries_219 (lv_at hl 5 rfl) ?_
  refine v_iast 221 C dX9_carries_221 kM_1 rfl h (fun S h => ?_)
  refine v_iload 222 C dX9_carries_222 (lv_at hl 5 rfl) ?_
  exact v_ireturn 224 C dX9_carries_224 h
set_option maxRecDepth 20000 in
theorem w_X9_carries_b45 {w : zWd} {X : zX} {l0 : Launch} {r : Int32} {S1 : zMem} (C : zC LM w X l0 cX9_carries RX9 8 2 (some .int)) {x1 : Int32} {x2 : Int32} {s0 : Int32} {S : zMem} {ls : Array Slot} (hl : lv_has ls 8 [(0, .ref (w.2.2.1 0)), (1, .int x1), (2, .int x2)]) (h : X9_carries_b45 x1 x2 s0 S = some (r, S1)) : zV LM w X (some (.int r)) S1 S 45 ls [.int s0] := by
  unfold X9_carries_b45 at h
  refine v_istore 45 C [(4, .int s0), (0, .ref (w.2.2.1 0)), (1, .int x1), (2, .int x2)] dX9_carries_45 hl (by decide) rfl (fun ls hl => ?_)
  refine v_aload_n 47 C dX9_carries_47 rfl (lv_at hl 1 rfl) ?_
  refine v_getr 48 (1) C dX9_carries_48 fl_X9_7 rfl kM_0 rfl ?_
  refine v_iload_n 51 C dX9_carries_51 rfl (lv_at hl 2 rfl) ?_
  refine v_iconst 52 C (v := (2 : Int32)) dX9_carries_52 (by decide) ?_
  refine v_iadd 53 C dX9_carries_53 h (fun v1 h => ?_)
  refine v_iald 54 C dX9_carries_54 kM_1 rfl h (fun v2 h => ?_)
  refine v_iload 55 C dX9_carries_55 (lv_at hl 0 rfl) ?_
  refine v_iadd 57 C dX9_carries_57 h (fun v3 h => ?_)
  refine v_bipush 58 C (v := (9 : Int32)) dX9_carries_58 (by decide) ?_
  obtain ⟨v4, S, hc, h⟩ := zb_e h
  refine v_callSi 60 C [] dX9_carries_60 ml_X9_158 hy_X9_kept (c_X9_kept  hc) (by decide) rfl hl.1 (Nat.le_of_ble_eq_true rfl) rfl ?_
  refine v_istore 63 C [(5, .int v4), (4, .int s0), (0, .ref (w.2.2.1 0)), (1, .int x1), (2, .int x2)] dX9_carries_63 hl (by decide) rfl (fun ls hl => ?_)
  refine v_aload_n 65 C dX9_carries_65 rfl (lv_at hl 2 rfl) ?_
  refine v_getr 66 (2) C dX9_carries_66 fl_X9_13 rfl kM_0 rfl ?_
  refine v_iload_n 69 C dX9_carries_69 rfl (lv_at hl 4 rfl) ?_
  refine v_iald 70 C dX9_carries_70 kM_2 rfl h (fun v5 h => ?_)
  refine v_aload_n 71 C dX9_carries_71 rfl (lv_at hl 2 rfl) ?_
  refine v_getr 72 (4) C dX9_carries_72 fl_X9_19 rfl kM_0 rfl ?_
  refine v_iload_n 75 C dX9_carries_75 rfl (lv_at hl 4 rfl) ?_
  refine v_iald 76 C dX9_carries_76 kM_4 rfl h (fun v6 h => ?_)
  refine v_iload 77 C dX9_carries_77 (lv_at hl 0 rfl) ?_
  obtain ⟨v7, S, hc, h⟩ := zb_e h
  refine v_callSi 79 C [] dX9_carries_79 ml_X9_161 hy_X9_endsBy (c_X9_endsBy  hc) (by decide) rfl hl.1 (Nat.le_of_ble_eq_true rfl) rfl ?_
  refine v_istore 82 C [(6, .int v7), (5, .int v4), (4, .int s0), (0, .ref (w.2.2.1 0)), (1, .int x1), (2, .int x2)] dX9_carries_82 hl (by decide) rfl (fun ls hl => ?_)
  refine v_aload_n 84 C dX9_carries_84 rfl (lv_at hl 3 rfl) ?_
  refine v_getr 85 (1) C dX9_carries_85 fl_X9_7 rfl kM_0 rfl ?_
  refine v_iload_n 88 C dX9_carries_88 rfl (lv_at hl 4 rfl) ?_
  refine v_iconst 89 C (v := (4 : Int32)) dX9_carries_89 (by decide) ?_
  refine v_iadd 90 C dX9_carries_90 h (fun v8 h => ?_)
  refine v_aload_n 91 C dX9_carries_91 rfl (lv_at hl 3 rfl) ?_
  refine v_getr 92 (3) C dX9_carries_92 fl_X9_16 rfl kM_0 rfl ?_
  refine v_iload_n 95 C dX9_carries_95 rfl (lv_at hl 5 rfl) ?_
  refine v_iald 96 C dX9_carries_96 kM_3 rfl h (fun v9 h => ?_)
  refine v_iast 97 C dX9_carries_97 kM_1 rfl h (fun S h => ?_)
  refine v_aload_n 98 C dX9_carries_98 rfl (lv_at hl 3 rfl) ?_
  refine v_getr 99 (1) C dX9_carries_99 fl_X9_7 rfl kM_0 rfl ?_
  refine v_iload_n 102 C dX9_carries_102 rfl (lv_at hl 4 rfl) ?_
  refine v_bipush 103 C (v := (6 : Int32)) dX9_carries_103 (by decide) ?_
  refine v_iadd 105 C dX9_carries_105 h (fun v10 h => ?_)
  refine v_aload_n 106 C dX9_carries_106 rfl (lv_at hl 3 rfl) ?_
  refine v_getr 107 (3) C dX9_carries_107 fl_X9_16 rfl kM_0 rfl ?_
  refine v_iload_n 110 C dX9_carries_110 rfl (lv_at hl 5 rfl) ?_
  refine v_iald 111 C dX9_carries_111 kM_3 rfl h (fun v11 h => ?_)
  refine v_iadd 112 C dX9_carries_112 h (fun v12 h => ?_)
  refine v_aload_n 113 C dX9_carries_113 rfl (lv_at hl 3 rfl) ?_
  refine v_getr 114 (1) C dX9_carries_114 fl_X9_7 rfl kM_0 rfl ?_
  refine v_iload_n 117 C dX9_carries_117 rfl (lv_at hl 4 rfl) ?_
  refine v_bipush 118 C (v := (6 : Int32)) dX9_carries_118 (by decide) ?_
  refine v_iadd 120 C dX9_carries_120 h (fun v13 h => ?_)
  refine v_aload_n 121 C dX9_carries_121 rfl (lv_at hl 3 rfl) ?_
  refine v_getr 122 (3) C dX9_carries_122 fl_X9_16 rfl kM_0 rfl ?_
  refine v_iload_n 125 C dX9_carries_125 rfl (lv_at hl 5 rfl) ?_
  refine v_iald 126 C dX9_carries_126 kM_3 rfl h (fun v14 h => ?_)
  refine v_iadd 127 C dX9_carries_127 h (fun v15 h => ?_)
  refine v_iald 128 C dX9_carries_128 kM_1 rfl h (fun v16 h => ?_)
  refine v_iload 129 C dX9_carries_129 (lv_at hl 0 rfl) ?_
  refine v_iadd 131 C dX9_carries_131 h (fun v17 h => ?_)
  refine v_iconst 132 C (v := (5 : Int32)) dX9_carries_132 (by decide) ?_
  refine v_isub 133 C dX9_carries_133 h (fun v18 h => ?_)
  refine v_bipush 134 C (v := (20 : Int32)) dX9_carries_134 (by decide) ?_
  obtain ⟨v19, S, hc, h⟩ := zb_e h
  refine v_callSi 136 C [.int v12, .ref (w.2.2.1 1)] dX9_carries_136 ml_X9_158 hy_X9_kept (c_X9_kept  hc) (by decide) rfl hl.1 (Nat.le_of_ble_eq_true rfl) rfl ?_
  refine v_iast 139 C dX9_carries_139 kM_1 rfl h (fun S h => ?_)
  refine v_aload_n 140 C dX9_carries_140 rfl (lv_at hl 3 rfl) ?_
  refine v_getr 141 (2) C dX9_carries_141 fl_X9_13 rfl kM_0 rfl ?_
  refine v_iload_n 144 C dX9_carries_144 rfl (lv_at hl 5 rfl) ?_
  refine v_iald 145 C dX9_carries_145 kM_2 rfl h (fun v20 h => ?_)
  refine v_iconst 146 C (v := (5 : Int32)) dX9_carries_146 (by decide) ?_
  refine v_icmp_ne 147 154 C dX9_carries_147 (by decide) h (fun h => ?_) (fun h => ?_)
  · refine v_iload 154 C dX9_carries_154 (lv_at hl 0 rfl) ?_
    refine v_iconst 156 C (v := (5 : Int32)) dX9_carries_156 (by decide) ?_
    refine v_icmp_le 157 164 C dX9_carries_157 (by decide) h (fun h => ?_) (fun h => ?_)
    · refine v_iload 164 C dX9_carries_164 (lv_at hl 0 rfl) ?_
      refine v_iconst 166 C (v := (4 : Int32)) dX9_carries_166 (by decide) ?_
      refine v_icmp_ge 167 174 C dX9_carries_167 (by decide) h (fun h => ?_) (fun h => ?_)
      · refine v_iconst 174 C (v := (0 : Int32)) dX9_carries_174 (by decide) ?_
        exact w_X9_carries_b175 C (lv_sub hl [3, 4, 5, 1, 0] rfl) h
      · refine v_iconst 170 C (v := (-1 : Int32)) dX9_carries_170 (by decide) ?_
        refine v_goto 171 175 C dX9_carries_171 (by decide) ?_
        exact w_X9_carries_b175 C (lv_sub hl [3, 4, 5, 1, 0] rfl) h
    · refine v_iconst 160 C (v := (1 : Int32)) dX9_carries_160 (by decide) ?_
      refine v_goto 161 175 C dX9_carries_161 (by decide) ?_
      exact w_X9_carries_b175 C (lv_sub hl [3, 4, 5, 1, 0] rfl) h
  · refine v_iconst 150 C (v := (0 : Int32)) dX9_carries_150 (by decide) ?_
    refine v_goto 151 175 C dX9_carries_151 (by decide) ?_
    exact w_X9_carries_b175 C (lv_sub hl [3, 4, 5, 1, 0] rfl) h
set_option maxRecDepth 20000 in
theorem w_X9_carries_b0 {w : zWd} {X : zX} {l0 : Launch} {r : Int32} {S1 : zMem} (C : zC LM w X l0 cX9_carries RX9 8 2 (some .int)) {x1 : Int32} {x2 : Int32} {S : zMem} {ls : Array Slot} (hl : lv_has ls 8 [(0, .ref (w.2.2.1 0)), (1, .int x1), (2, .int x2)]) (h : X9_carries_b0 x1 x2 S = some (r, S1)) : zV LM w X (some (.int r)) S1 S 0 ls [] := by
  unfold X9_carries_b0 at h
  refine v_aload_n 0 C dX9_carries_0 rfl (lv_at hl 0 rfl) ?_
  refine v_iload_n 1 C dX9_carries_1 rfl (lv_at hl 1 rfl) ?_
  refine v_aload_n 2 C dX9_carries_2 rfl (lv_at hl 0 rfl) ?_
  refine v_getr 3 (3) C dX9_carries_3 fl_X9_16 rfl kM_0 rfl ?_
  refine v_iload_n 6 C dX9_carries_6 rfl (lv_at hl 2 rfl) ?_
  refine v_iald 7 C dX9_carries_7 kM_3 rfl h (fun v1 h => ?_)
  obtain ⟨v2, S, hc, h⟩ := zb_e h
  refine v_callVi 8 C (ci := 8) [] dX9_carries_8 ml_X9_155 hy_X9_farFrom (c_X9_farFrom  hc) (by decide) rfl hl.1 kM_0 rfl (Nat.le_of_ble_eq_true rfl) rfl ?_
  refine v_istore_n 11 C [(3, .int v2), (0, .ref (w.2.2.1 0)), (1, .int x1), (2, .int x2)] dX9_carries_11 rfl hl (by decide) rfl (fun ls hl => ?_)
  refine v_aload_n 12 C dX9_carries_12 rfl (lv_at hl 1 rfl) ?_
  refine v_getr 13 (1) C dX9_carries_13 fl_X9_7 rfl kM_0 rfl ?_
  refine v_iload_n 16 C dX9_carries_16 rfl (lv_at hl 2 rfl) ?_
  refine v_iconst 17 C (v := (3 : Int32)) dX9_carries_17 (by decide) ?_
  refine v_iadd 18 C dX9_carries_18 h (fun v3 h => ?_)
  refine v_iald 19 C dX9_carries_19 kM_1 rfl h (fun v4 h => ?_)
  refine v_if_ne 20 28 C dX9_carries_20 (by decide) h (fun h => ?_) (fun h => ?_)
  · refine v_aload_n 28 C dX9_carries_28 rfl (lv_at hl 1 rfl) ?_
    refine v_getr 29 (1) C dX9_carries_29 fl_X9_7 rfl kM_0 rfl ?_
    refine v_iload_n 32 C dX9_carries_32 rfl (lv_at hl 2 rfl) ?_
    refine v_iconst 33 C (v := (3 : Int32)) dX9_carries_33 (by decide) ?_
    refine v_iadd 34 C dX9_carries_34 h (fun v5 h => ?_)
    refine v_iald 35 C dX9_carries_35 kM_1 rfl h (fun v6 h => ?_)
    refine v_iconst 36 C (v := (2 : Int32)) dX9_carries_36 (by decide) ?_
    refine v_icmp_ne 37 44 C dX9_carries_37 (by decide) h (fun h => ?_) (fun h => ?_)
    · refine v_iconst 44 C (v := (0 : Int32)) dX9_carries_44 (by decide) ?_
      exact w_X9_carries_b45 C (lv_sub hl [1, 2, 3] rfl) h
    · refine v_iload_n 40 C dX9_carries_40 rfl (lv_at hl 0 rfl) ?_
      refine v_goto 41 45 C dX9_carries_41 (by decide) ?_
      exact w_X9_carries_b45 C (lv_sub hl [1, 2, 3] rfl) h
  · refine v_iload_n 23 C dX9_carries_23 rfl (lv_at hl 0 rfl) ?_
    refine v_ineg 24 C dX9_carries_24 h (fun v7 h => ?_)
    refine v_goto 25 45 C dX9_carries_25 (by decide) ?_
    exact w_X9_carries_b45 C (lv_sub hl [1, 2, 3] rfl) h
theorem c_X9_carries {w : zWd} {l0 : Launch} {x1 : Int32} {x2 : Int32} {S S1 : zMem} {r : Int32} (h : f_X9_carries x1 x2 S = some (r, S1)) : zMet LM w l0 yX9_carries cX9_carries 8 (some .int) 2 [.ref (w.2.2.1 0), .int x1, .int x2] S (some (.int r)) S1 :=
  zMet_of (by decide +kernel) (Nat.le_of_ble_eq_true rfl) (fun X ls C hl => w_X9_carries_b0 C hl h)
theorem ml_X9_176 : Cond.methodLink RX9 176 yX9_has ∈ zT := zT_of (List.mem_of_getElem? (i := 1093) (by decide +kernel)) rfl
theorem hy_X9_has : zYs yX9_has cX9_has 2 (some .boolean) 2 := ⟨⟨zT_of (List.mem_of_getElem? (i := 1095) (by decide +kernel)) rfl, zT_of (List.mem_of_getElem? (i := 78) (by decide +kernel)) rfl, by decide, by decide +kernel, by decide +kernel, by decide +kernel⟩, zT_of (List.mem_of_getElem? (i := 1094) (by decide +kernel)) rfl⟩
theorem ml_X9_180 : Cond.methodLink RX9 180 yX9_layTried ∈ zT := zT_of (List.mem_of_getElem? (i := 1096) (by decide +kernel)) rfl
theorem hy_X9_layTried : zYv yX9_layTried cX9_layTried 2 none 0 := ⟨⟨zT_of (List.mem_of_getElem? (i := 1099) (by decide +kernel)) rfl, zT_of (List.mem_of_getElem? (i := 78) (by decide +kernel)) rfl, by decide, by decide +kernel, by decide +kernel, by decide +kernel⟩, zT_of (List.mem_of_getElem? (i := 1098) (by decide +kernel)) rfl, zT_of (List.mem_of_getElem? (i := 40) (by decide +kernel)) rfl⟩
theorem ml_X9_183 : Cond.methodLink RX9 183 yX9_carries ∈ zT := zT_of (List.mem_of_getElem? (i := 1100) (by decide +kernel)) rfl
theorem hy_X9_carries : zYv yX9_carries cX9_carries 8 (some .int) 2 := ⟨⟨zT_of (List.mem_of_getElem? (i := 1103) (by decide +kernel)) rfl, zT_of (List.mem_of_getElem? (i := 78) (by decide +kernel)) rfl, by decide, by decide +kernel, by decide +kernel, by decide +kernel⟩, zT_of (List.mem_of_getElem? (i := 1102) (by decide +kernel)) rfl, zT_of (List.mem_of_getElem? (i := 41) (by decide +kernel)) rfl⟩
theorem dX9_letterTold_0 : decode cX9_letterTold 0 = .ok (.iload_n 2, 1) := by decide +kernel
theorem dX9_letterTold_1 : decode cX9_letterTold 1 = .ok (.tableswitch 80 0 3 #[31, 38, 45, 52], 31) := by decide +kernel
theorem dX9_letterTold_32 : decode cX9_letterTold 32 = .ok (.aload_n 0, 1) := by decide +kernel
theorem dX9_letterTold_33 : decode cX9_letterTold 33 = .ok (.getfield 13, 3) := by decide +kernel
theorem dX9_letterTold_36 : decode cX9_letterTold 36 = .ok (.iload_n 1, 1) := by decide +kernel
theorem dX9_letterTold_37 : decode cX9_letterTold 37 = .ok (.iaload, 1) := by decide +kernel
theorem dX9_letterTold_38 : decode cX9_letterTold 38 = .ok (.ireturn, 1) := by decide +kernel
theorem dX9_letterTold_39 : decode cX9_letterTold 39 = .ok (.aload_n 0, 1) := by decide +kernel
theorem dX9_letterTold_40 : decode cX9_letterTold 40 = .ok (.getfield 16, 3) := by decide +kernel
theorem dX9_letterTold_43 : decode cX9_letterTold 43 = .ok (.iload_n 1, 1) := by decide +kernel
theorem dX9_letterTold_44 : decode cX9_letterTold 44 = .ok (.iaload, 1) := by decide +kernel
theorem dX9_letterTold_45 : decode cX9_letterTold 45 = .ok (.ireturn, 1) := by decide +kernel
theorem dX9_letterTold_46 : decode cX9_letterTold 46 = .ok (.aload_n 0, 1) := by decide +kernel
theorem dX9_letterTold_47 : decode cX9_letterTold 47 = .ok (.getfield 19, 3) := by decide +kernel
theorem dX9_letterTold_50 : decode cX9_letterTold 50 = .ok (.iload_n 1, 1) := by decide +kernel
theorem dX9_letterTold_51 : decode cX9_letterTold 51 = .ok (.iaload, 1) := by decide +kernel
theorem dX9_letterTold_52 : decode cX9_letterTold 52 = .ok (.ireturn, 1) := by decide +kernel
theorem dX9_letterTold_53 : decode cX9_letterTold 53 = .ok (.aload_n 0, 1) := by decide +kernel
theorem dX9_letterTold_54 : decode cX9_letterTold 54 = .ok (.getfield 7, 3) := by decide +kernel
theorem dX9_letterTold_57 : decode cX9_letterTold 57 = .ok (.iconst 5, 1) := by decide +kernel
theorem dX9_letterTold_58 : decode cX9_letterTold 58 = .ok (.iaload, 1) := by decide +kernel
theorem dX9_letterTold_59 : decode cX9_letterTold 59 = .ok (.iload_n 1, 1) := by decide +kernel
theorem dX9_letterTold_60 : decode cX9_letterTold 60 = .ok (.invokestatic 176, 3) := by decide +kernel
theorem dX9_letterTold_63 : decode cX9_letterTold 63 = .ok (.ifCond .eq 15, 3) := by decide +kernel
theorem dX9_letterTold_66 : decode cX9_letterTold 66 = .ok (.aload_n 0, 1) := by decide +kernel
theorem dX9_letterTold_67 : decode cX9_letterTold 67 = .ok (.getfield 7, 3) := by decide +kernel
theorem dX9_letterTold_70 : decode cX9_letterTold 70 = .ok (.bipush 12, 2) := by decide +kernel
theorem dX9_letterTold_72 : decode cX9_letterTold 72 = .ok (.iload_n 1, 1) := by decide +kernel
theorem dX9_letterTold_73 : decode cX9_letterTold 73 = .ok (.iadd, 1) := by decide +kernel
theorem dX9_letterTold_74 : decode cX9_letterTold 74 = .ok (.iaload, 1) := by decide +kernel
theorem dX9_letterTold_75 : decode cX9_letterTold 75 = .ok (.goto 5, 3) := by decide +kernel
theorem dX9_letterTold_78 : decode cX9_letterTold 78 = .ok (.bipush (-9), 2) := by decide +kernel
theorem dX9_letterTold_80 : decode cX9_letterTold 80 = .ok (.ireturn, 1) := by decide +kernel
theorem dX9_letterTold_81 : decode cX9_letterTold 81 = .ok (.aload_n 0, 1) := by decide +kernel
theorem dX9_letterTold_82 : decode cX9_letterTold 82 = .ok (.invokevirtual 180, 3) := by decide +kernel
theorem dX9_letterTold_85 : decode cX9_letterTold 85 = .ok (.aload_n 0, 1) := by decide +kernel
theorem dX9_letterTold_86 : decode cX9_letterTold 86 = .ok (.sipush 2792, 3) := by decide +kernel
theorem dX9_letterTold_89 : decode cX9_letterTold 89 = .ok (.iload_n 1, 1) := by decide +kernel
theorem dX9_letterTold_90 : decode cX9_letterTold 90 = .ok (.invokevirtual 183, 3) := by decide +kernel
theorem dX9_letterTold_93 : decode cX9_letterTold 93 = .ok (.ireturn, 1) := by decide +kernel
set_option maxRecDepth 20000 in
theorem w_X9_letterTold_b80 {w : zWd} {X : zX} {l0 : Launch} {r : Int32} {S1 : zMem} (C : zC LM w X l0 cX9_letterTold RX9 3 3 (some .int)) {s0 : Int32} {S : zMem} {ls : Array Slot} (hl : lv_has ls 3 []) (h : X9_letterTold_b80 s0 S = some (r, S1)) : zV LM w X (some (.int r)) S1 S 80 ls [.int s0] := by
  unfold X9_letterTold_b80 at h
  exact v_ireturn 80 C dX9_letterTold_80 h
set_option maxRecDepth 20000 in
theorem w_X9_letterTold_b0 {w : zWd} {X : zX} {l0 : Launch} {r : Int32} {S1 : zMem} (C : zC LM w X l0 cX9_letterTold RX9 3 3 (some .int)) {x1 : Int32} {x2 : Int32} {S : zMem} {ls : Array Slot} (hl : lv_has ls 3 [(0, .ref (w.2.2.1 0)), (1, .int x1), (2, .int x2)]) (h : X9_letterTold_b0 x1 x2 S = some (r, S1)) : zV LM w X (some (.int r)) S1 S 0 ls [] := by
  unfold X9_letterTold_b0 at h
  refine v_iload_n 0 C dX9_letterTold_0 rfl (lv_at hl 2 rfl) ?_
  refine v_ite h (fun hq2 h => ?_) (fun hq2 h => ?_)
  · refine v_tab 1 32 C (x := x2) (off := 31) dX9_letterTold_1 (by rw [hq2]; decide) (by rw [hq2]; decide) (by rw [hq2]; rfl) (by decide) ?_
    refine v_aload_n 32 C dX9_letterTold_32 rfl (lv_at hl 0 rfl) ?_
    refine v_getr 33 (2) C dX9_letterTold_33 fl_X9_13 rfl kM_0 rfl ?_
    refine v_iload_n 36 C dX9_letterTold_36 rfl (lv_at hl 1 rfl) ?_
    refine v_iald 37 C dX9_letterTold_37 kM_2 rfl h (fun v1 h => ?_)
    exact v_ireturn 38 C dX9_letterTold_38 h
  · refine v_ite h (fun hq4 h => ?_) (fun hq4 h => ?_)
    · refine v_tab 1 39 C (x := x2) (off := 38) dX9_letterTold_1 (by rw [hq4]; decide) (by rw [hq4]; decide) (by rw [hq4]; rfl) (by decide) ?_
      refine v_aload_n 39 C dX9_letterTold_39 rfl (lv_at hl 0 rfl) ?_
      refine v_getr 40 (3) C dX9_letterTold_40 fl_X9_16 rfl kM_0 rfl ?_
      refine v_iload_n 43 C dX9_letterTold_43 rfl (lv_at hl 1 rfl) ?_
      refine v_iald 44 C dX9_letterTold_44 kM_3 rfl h (fun v3 h => ?_)
      exact v_ireturn 45 C dX9_letterTold_45 h
    · refine v_ite h (fun hq6 h => ?_) (fun hq6 h => ?_)
      · refine v_tab 1 46 C (x := x2) (off := 45) dX9_letterTold_1 (by rw [hq6]; decide) (by rw [hq6]; decide) (by rw [hq6]; rfl) (by decide) ?_
        refine v_aload_n 46 C dX9_letterTold_46 rfl (lv_at hl 0 rfl) ?_
        refine v_getr 47 (4) C dX9_letterTold_47 fl_X9_19 rfl kM_0 rfl ?_
        refine v_iload_n 50 C dX9_letterTold_50 rfl (lv_at hl 1 rfl) ?_
        refine v_iald 51 C dX9_letterTold_51 kM_4 rfl h (fun v5 h => ?_)
        exact v_ireturn 52 C dX9_letterTold_52 h
      · refine v_ite h (fun hq11 h => ?_) (fun hq11 h => ?_)
        · refine v_tab 1 53 C (x := x2) (off := 52) dX9_letterTold_1 (by rw [hq11]; decide) (by rw [hq11]; decide) (by rw [hq11]; rfl) (by decide) ?_
          refine v_aload_n 53 C dX9_letterTold_53 rfl (lv_at hl 0 rfl) ?_
          refine v_getr 54 (1) C dX9_letterTold_54 fl_X9_7 rfl kM_0 rfl ?_
          refine v_iconst 57 C (v := (5 : Int32)) dX9_letterTold_57 (by decide) ?_
          refine v_iald 58 C dX9_letterTold_58 kM_1 rfl h (fun v7 h => ?_)
          refine v_iload_n 59 C dX9_letterTold_59 rfl (lv_at hl 1 rfl) ?_
          obtain ⟨v8, S, hc, h⟩ := zb_e h
          refine v_callSi 60 C [] dX9_letterTold_60 ml_X9_176 hy_X9_has (c_X9_has  hc) (by decide) rfl hl.1 (Nat.le_of_ble_eq_true rfl) rfl ?_
          refine v_if_eq 63 78 C dX9_letterTold_63 (by decide) h (fun h => ?_) (fun h => ?_)
          · refine v_bipush 78 C (v := (-9 : Int32)) dX9_letterTold_78 (by decide) ?_
            exact w_X9_letterTold_b80 C (lv_sub hl [] rfl) h
          · refine v_aload_n 66 C dX9_letterTold_66 rfl (lv_at hl 0 rfl) ?_
            refine v_getr 67 (1) C dX9_letterTold_67 fl_X9_7 rfl kM_0 rfl ?_
            refine v_bipush 70 C (v := (12 : Int32)) dX9_letterTold_70 (by decide) ?_
            refine v_iload_n 72 C dX9_letterTold_72 rfl (lv_at hl 1 rfl) ?_
            refine v_iadd 73 C dX9_letterTold_73 h (fun v9 h => ?_)
            refine v_iald 74 C dX9_letterTold_74 kM_1 rfl h (fun v10 h => ?_)
            refine v_goto 75 80 C dX9_letterTold_75 (by decide) ?_
            exact w_X9_letterTold_b80 C (lv_sub hl [] rfl) h
        · refine v_tabo 1 81 C (x := x2) dX9_letterTold_1 (by have hq2z := zne hq2 (show ((0 : Int32)).toInt = 0 by decide); have hq4z := zne hq4 (show ((1 : Int32)).toInt = 1 by decide); have hq6z := zne hq6 (show ((2 : Int32)).toInt = 2 by decide); have hq11z := zne hq11 (show ((3 : Int32)).toInt = 3 by decide); omega) (by decide) ?_
          refine v_aload_n 81 C dX9_letterTold_81 rfl (lv_at hl 0 rfl) ?_
          obtain ⟨v12, S, hc, h⟩ := zb_e h
          refine v_callVv 82 C (ci := 8) [] dX9_letterTold_82 ml_X9_180 hy_X9_layTried (c_X9_layTried  hc) (by decide) rfl hl.1 kM_0 rfl (Nat.le_of_ble_eq_true rfl) rfl ?_
          refine v_aload_n 85 C dX9_letterTold_85 rfl (lv_at hl 0 rfl) ?_
          refine v_sipush 86 C (v := (2792 : Int32)) dX9_letterTold_86 (by decide) ?_
          refine v_iload_n 89 C dX9_letterTold_89 rfl (lv_at hl 1 rfl) ?_
          obtain ⟨v13, S, hc, h⟩ := zb_e h
          refine v_callVi 90 C (ci := 8) [] dX9_letterTold_90 ml_X9_183 hy_X9_carries (c_X9_carries  hc) (by decide) rfl hl.1 kM_0 rfl (Nat.le_of_ble_eq_true rfl) rfl ?_
          exact v_ireturn 93 C dX9_letterTold_93 h
theorem c_X9_letterTold {w : zWd} {l0 : Launch} {x1 : Int32} {x2 : Int32} {S S1 : zMem} {r : Int32} (h : f_X9_letterTold x1 x2 S = some (r, S1)) : zMet LM w l0 yX9_letterTold cX9_letterTold 3 (some .int) 3 [.ref (w.2.2.1 0), .int x1, .int x2] S (some (.int r)) S1 :=
  zMet_of (by decide +kernel) (Nat.le_of_ble_eq_true rfl) (fun X ls C hl => w_X9_letterTold_b0 C hl h)
theorem ml_X9_186 : Cond.methodLink RX9 186 yX9_isLetter ∈ zT := zT_of (List.mem_of_getElem? (i := 1084) (by decide +kernel)) rfl
theorem hy_X9_isLetter : zYv yX9_isLetter cX9_isLetter 2 (some .boolean) 1 := ⟨⟨zT_of (List.mem_of_getElem? (i := 1087) (by decide +kernel)) rfl, zT_of (List.mem_of_getElem? (i := 78) (by decide +kernel)) rfl, by decide, by decide +kernel, by decide +kernel, by decide +kernel⟩, zT_of (List.mem_of_getElem? (i := 1086) (by decide +kernel)) rfl, zT_of (List.mem_of_getElem? (i := 38) (by decide +kernel)) rfl⟩
theorem co_X9_189 : Cond.constantLong RX9 189 4 ∈ zT := zT_of (List.mem_of_getElem? (i := 1088) (by decide +kernel)) rfl
theorem ml_X9_191 : Cond.methodLink RX9 191 yX9_letterTold ∈ zT := zT_of (List.mem_of_getElem? (i := 1089) (by decide +kernel)) rfl
theorem hy_X9_letterTold : zYv yX9_letterTold cX9_letterTold 3 (some .int) 2 := ⟨⟨zT_of (List.mem_of_getElem? (i := 1092) (by decide +kernel)) rfl, zT_of (List.mem_of_getElem? (i := 78) (by decide +kernel)) rfl, by decide, by decide +kernel, by decide +kernel, by decide +kernel⟩, zT_of (List.mem_of_getElem? (i := 1091) (by decide +kernel)) rfl, zT_of (List.mem_of_getElem? (i := 39) (by decide +kernel)) rfl⟩
theorem dX9_letter_0 : decode cX9_letter 0 = .ok (.aload_n 0, 1) := by decide +kernel
theorem dX9_letter_1 : decode cX9_letter 1 = .ok (.iload_n 1, 1) := by decide +kernel
theorem dX9_letter_2 : decode cX9_letter 2 = .ok (.invokevirtual 186, 3) := by decide +kernel
theorem dX9_letter_5 : decode cX9_letter 5 = .ok (.ifCond .eq 28, 3) := by decide +kernel
theorem dX9_letter_8 : decode cX9_letter 8 = .ok (.iload_n 2, 1) := by decide +kernel
theorem dX9_letter_9 : decode cX9_letter 9 = .ok (.i2l, 1) := by decide +kernel
theorem dX9_letter_10 : decode cX9_letter 10 = .ok (.lconst 0, 1) := by decide +kernel
theorem dX9_letter_11 : decode cX9_letter 11 = .ok (.ldc2_w 189, 3) := by decide +kernel
theorem dX9_letter_14 : decode cX9_letter 14 = .ok (.invokestatic 65, 3) := by decide +kernel
theorem dX9_letter_17 : decode cX9_letter 17 = .ok (.ifCond .eq 16, 3) := by decide +kernel
theorem dX9_letter_20 : decode cX9_letter 20 = .ok (.aload_n 0, 1) := by decide +kernel
theorem dX9_letter_21 : decode cX9_letter 21 = .ok (.aload_n 0, 1) := by decide +kernel
theorem dX9_letter_22 : decode cX9_letter 22 = .ok (.iload_n 1, 1) := by decide +kernel
theorem dX9_letter_23 : decode cX9_letter 23 = .ok (.iload_n 2, 1) := by decide +kernel
theorem dX9_letter_24 : decode cX9_letter 24 = .ok (.invokevirtual 191, 3) := by decide +kernel
theorem dX9_letter_27 : decode cX9_letter 27 = .ok (.invokevirtual 87, 3) := by decide +kernel
theorem dX9_letter_30 : decode cX9_letter 30 = .ok (.goto 4, 3) := by decide +kernel
theorem dX9_letter_33 : decode cX9_letter 33 = .ok (.iconst (-1), 1) := by decide +kernel
theorem dX9_letter_34 : decode cX9_letter 34 = .ok (.ireturn, 1) := by decide +kernel
set_option maxRecDepth 20000 in
theorem w_X9_letter_b34 {w : zWd} {X : zX} {l0 : Launch} {r : Int32} {S1 : zMem} (C : zC LM w X l0 cX9_letter RX9 3 4 (some .int)) {s0 : Int32} {S : zMem} {ls : Array Slot} (hl : lv_has ls 3 []) (h : X9_letter_b34 s0 S = some (r, S1)) : zV LM w X (some (.int r)) S1 S 34 ls [.int s0] := by
  unfold X9_letter_b34 at h
  exact v_ireturn 34 C dX9_letter_34 h
set_option maxRecDepth 20000 in
theorem w_X9_letter_b33 {w : zWd} {X : zX} {l0 : Launch} {r : Int32} {S1 : zMem} (C : zC LM w X l0 cX9_letter RX9 3 4 (some .int)) {S : zMem} {ls : Array Slot} (hl : lv_has ls 3 []) (h : X9_letter_b33  S = some (r, S1)) : zV LM w X (some (.int r)) S1 S 33 ls [] := by
  unfold X9_letter_b33 at h
  refine v_iconst 33 C (v := (-1 : Int32)) dX9_letter_33 (by decide) ?_
  exact w_X9_letter_b34 C (lv_sub hl [] rfl) h
set_option maxRecDepth 20000 in
theorem w_X9_letter_b0 {w : zWd} {X : zX} {l0 : Launch} {r : Int32} {S1 : zMem} (C : zC LM w X l0 cX9_letter RX9 3 4 (some .int)) {x1 : Int32} {x2 : Int32} {S : zMem} {ls : Array Slot} (hl : lv_has ls 3 [(0, .ref (w.2.2.1 0)), (1, .int x1), (2, .int x2)]) (h : X9_letter_b0 x1 x2 S = some (r, S1)) : zV LM w X (some (.int r)) S1 S 0 ls [] := by
  unfold X9_letter_b0 at h
  refine v_aload_n 0 C dX9_letter_0 rfl (lv_at hl 0 rfl) ?_
  refine v_iload_n 1 C dX9_letter_1 rfl (lv_at hl 1 rfl) ?_
  obtain ⟨v1, S, hc, h⟩ := zb_e h
  refine v_callVi 2 C (ci := 8) [] dX9_letter_2 ml_X9_186 hy_X9_isLetter (c_X9_isLetter  hc) (by decide) rfl hl.1 kM_0 rfl (Nat.le_of_ble_eq_true rfl) rfl ?_
  refine v_if_eq 5 33 C dX9_letter_5 (by decide) h (fun h => ?_) (fun h => ?_)
  · exact w_X9_letter_b33 C (lv_sub hl [] rfl) h
  · refine v_iload_n 8 C dX9_letter_8 rfl (lv_at hl 2 rfl) ?_
    refine v_i2l 9 C dX9_letter_9 h (fun v2 h => ?_)
    refine v_lconst 10 C (v := 0) dX9_letter_10 (by decide) ?_
    refine v_ldc2 11 C (v := 4) dX9_letter_11 co_X9_189 ?_
    obtain ⟨v3, S, hc, h⟩ := zb_e h
    refine v_callSi 14 C [] dX9_letter_14 ml_X9_65 hy_X9_in (c_X9_in  hc) (by decide) rfl hl.1 (Nat.le_of_ble_eq_true rfl) rfl ?_
    refine v_if_eq 17 33 C dX9_letter_17 (by decide) h (fun h => ?_) (fun h => ?_)
    · exact w_X9_letter_b33 C (lv_sub hl [] rfl) h
    · refine v_aload_n 20 C dX9_letter_20 rfl (lv_at hl 0 rfl) ?_
      refine v_aload_n 21 C dX9_letter_21 rfl (lv_at hl 0 rfl) ?_
      refine v_iload_n 22 C dX9_letter_22 rfl (lv_at hl 1 rfl) ?_
      refine v_iload_n 23 C dX9_letter_23 rfl (lv_at hl 2 rfl) ?_
      obtain ⟨v4, S, hc, h⟩ := zb_e h
      refine v_callVi 24 C (ci := 8) [.ref (w.2.2.1 0)] dX9_letter_24 ml_X9_191 hy_X9_letterTold (c_X9_letterTold  hc) (by decide) rfl hl.1 kM_0 rfl (Nat.le_of_ble_eq_true rfl) rfl ?_
      obtain ⟨v5, S, hc, h⟩ := zb_e h
      refine v_callVi 27 C (ci := 8) [] dX9_letter_27 ml_X9_87 hy_X9_tell (c_X9_tell  hc) (by decide) rfl hl.1 kM_0 rfl (Nat.le_of_ble_eq_true rfl) rfl ?_
      refine v_goto 30 34 C dX9_letter_30 (by decide) ?_
      exact w_X9_letter_b34 C (lv_sub hl [] rfl) h
theorem c_X9_letter {w : zWd} {l0 : Launch} {x1 : Int32} {x2 : Int32} {S S1 : zMem} {r : Int32} (h : f_X9_letter x1 x2 S = some (r, S1)) : zMet LM w l0 yX9_letter cX9_letter 3 (some .int) 4 [.ref (w.2.2.1 0), .int x1, .int x2] S (some (.int r)) S1 :=
  zMet_of (by decide +kernel) (Nat.le_of_ble_eq_true rfl) (fun X ls C hl => w_X9_letter_b0 C hl h)
theorem dX9_isOf_0 : decode cX9_isOf 0 = .ok (.aload_n 0, 1) := by decide +kernel
theorem dX9_isOf_1 : decode cX9_isOf 1 = .ok (.getfield 13, 3) := by decide +kernel
theorem dX9_isOf_4 : decode cX9_isOf 4 = .ok (.iload_n 1, 1) := by decide +kernel
theorem dX9_isOf_5 : decode cX9_isOf 5 = .ok (.iaload, 1) := by decide +kernel
theorem dX9_isOf_6 : decode cX9_isOf 6 = .ok (.istore_n 3, 1) := by decide +kernel
theorem dX9_isOf_7 : decode cX9_isOf 7 = .ok (.iload_n 3, 1) := by decide +kernel
theorem dX9_isOf_8 : decode cX9_isOf 8 = .ok (.iload_n 2, 1) := by decide +kernel
theorem dX9_isOf_9 : decode cX9_isOf 9 = .ok (.if_icmp .eq 23, 3) := by decide +kernel
theorem dX9_isOf_12 : decode cX9_isOf 12 = .ok (.iload_n 2, 1) := by decide +kernel
theorem dX9_isOf_13 : decode cX9_isOf 13 = .ok (.iconst 1, 1) := by decide +kernel
theorem dX9_isOf_14 : decode cX9_isOf 14 = .ok (.if_icmp .ne 8, 3) := by decide +kernel
theorem dX9_isOf_17 : decode cX9_isOf 17 = .ok (.iload_n 3, 1) := by decide +kernel
theorem dX9_isOf_18 : decode cX9_isOf 18 = .ok (.iconst 4, 1) := by decide +kernel
theorem dX9_isOf_19 : decode cX9_isOf 19 = .ok (.if_icmp .eq 13, 3) := by decide +kernel
theorem dX9_isOf_22 : decode cX9_isOf 22 = .ok (.iload_n 2, 1) := by decide +kernel
theorem dX9_isOf_23 : decode cX9_isOf 23 = .ok (.iconst 3, 1) := by decide +kernel
theorem dX9_isOf_24 : decode cX9_isOf 24 = .ok (.if_icmp .ne 12, 3) := by decide +kernel
theorem dX9_isOf_27 : decode cX9_isOf 27 = .ok (.iload_n 3, 1) := by decide +kernel
theorem dX9_isOf_28 : decode cX9_isOf 28 = .ok (.iconst 5, 1) := by decide +kernel
theorem dX9_isOf_29 : decode cX9_isOf 29 = .ok (.if_icmp .ne 7, 3) := by decide +kernel
theorem dX9_isOf_32 : decode cX9_isOf 32 = .ok (.iconst 1, 1) := by decide +kernel
theorem dX9_isOf_33 : decode cX9_isOf 33 = .ok (.goto 4, 3) := by decide +kernel
theorem dX9_isOf_36 : decode cX9_isOf 36 = .ok (.iconst 0, 1) := by decide +kernel
theorem dX9_isOf_37 : decode cX9_isOf 37 = .ok (.ireturn, 1) := by decide +kernel
set_option maxRecDepth 20000 in
theorem w_X9_isOf_b37 {w : zWd} {X : zX} {l0 : Launch} {r : Int32} {S1 : zMem} (C : zC LM w X l0 cX9_isOf RX9 4 1 (some .boolean)) {s0 : Int32} {S : zMem} {ls : Array Slot} (hl : lv_has ls 4 []) (h : X9_isOf_b37 s0 S = some (r, S1)) : zV LM w X (some (.int r)) S1 S 37 ls [.int s0] := by
  unfold X9_isOf_b37 at h
  exact v_zreturn 37 C dX9_isOf_37 h
set_option maxRecDepth 20000 in
theorem w_X9_isOf_b32 {w : zWd} {X : zX} {l0 : Launch} {r : Int32} {S1 : zMem} (C : zC LM w X l0 cX9_isOf RX9 4 1 (some .boolean)) {S : zMem} {ls : Array Slot} (hl : lv_has ls 4 []) (h : X9_isOf_b32  S = some (r, S1)) : zV LM w X (some (.int r)) S1 S 32 ls [] := by
  unfold X9_isOf_b32 at h
  refine v_iconst 32 C (v := (1 : Int32)) dX9_isOf_32 (by decide) ?_
  refine v_goto 33 37 C dX9_isOf_33 (by decide) ?_
  exact w_X9_isOf_b37 C (lv_sub hl [] rfl) h
set_option maxRecDepth 20000 in
theorem w_X9_isOf_b36 {w : zWd} {X : zX} {l0 : Launch} {r : Int32} {S1 : zMem} (C : zC LM w X l0 cX9_isOf RX9 4 1 (some .boolean)) {S : zMem} {ls : Array Slot} (hl : lv_has ls 4 []) (h : X9_isOf_b36  S = some (r, S1)) : zV LM w X (some (.int r)) S1 S 36 ls [] := by
  unfold X9_isOf_b36 at h
  refine v_iconst 36 C (v := (0 : Int32)) dX9_isOf_36 (by decide) ?_
  exact w_X9_isOf_b37 C (lv_sub hl [] rfl) h
set_option maxRecDepth 20000 in
theorem w_X9_isOf_b22 {w : zWd} {X : zX} {l0 : Launch} {r : Int32} {S1 : zMem} (C : zC LM w X l0 cX9_isOf RX9 4 1 (some .boolean)) {x2 : Int32} {x3 : Int32} {S : zMem} {ls : Array Slot} (hl : lv_has ls 4 [(2, .int x2), (3, .int x3)]) (h : X9_isOf_b22 x2 x3 S = some (r, S1)) : zV LM w X (some (.int r)) S1 S 22 ls [] := by
  unfold X9_isOf_b22 at h
  refine v_iload_n 22 C dX9_isOf_22 rfl (lv_at hl 0 rfl) ?_
  refine v_iconst 23 C (v := (3 : Int32)) dX9_isOf_23 (by decide) ?_
  refine v_icmp_ne 24 36 C dX9_isOf_24 (by decide) h (fun h => ?_) (fun h => ?_)
  · exact w_X9_isOf_b36 C (lv_sub hl [] rfl) h
  · refine v_iload_n 27 C dX9_isOf_27 rfl (lv_at hl 1 rfl) ?_
    refine v_iconst 28 C (v := (5 : Int32)) dX9_isOf_28 (by decide) ?_
    refine v_icmp_ne 29 36 C dX9_isOf_29 (by decide) h (fun h => ?_) (fun h => ?_)
    · exact w_X9_isOf_b36 C (lv_sub hl [] rfl) h
    · exact w_X9_isOf_b32 C (lv_sub hl [] rfl) h
set_option maxRecDepth 20000 in
theorem w_X9_isOf_b0 {w : zWd} {X : zX} {l0 : Launch} {r : Int32} {S1 : zMem} (C : zC LM w X l0 cX9_isOf RX9 4 1 (some .boolean)) {x1 : Int32} {x2 : Int32} {S : zMem} {ls : Array Slot} (hl : lv_has ls 4 [(0, .ref (w.2.2.1 0)), (1, .int x1), (2, .int x2)]) (h : X9_isOf_b0 x1 x2 S = some (r, S1)) : zV LM w X (some (.int r)) S1 S 0 ls [] := by
  unfold X9_isOf_b0 at h
  refine v_aload_n 0 C dX9_isOf_0 rfl (lv_at hl 0 rfl) ?_
  refine v_getr 1 (2) C dX9_isOf_1 fl_X9_13 rfl kM_0 rfl ?_
  refine v_iload_n 4 C dX9_isOf_4 rfl (lv_at hl 1 rfl) ?_
  refine v_iald 5 C dX9_isOf_5 kM_2 rfl h (fun v1 h => ?_)
  refine v_istore_n 6 C [(3, .int v1), (0, .ref (w.2.2.1 0)), (1, .int x1), (2, .int x2)] dX9_isOf_6 rfl hl (by decide) rfl (fun ls hl => ?_)
  refine v_iload_n 7 C dX9_isOf_7 rfl (lv_at hl 0 rfl) ?_
  refine v_iload_n 8 C dX9_isOf_8 rfl (lv_at hl 3 rfl) ?_
  refine v_icmp_eq 9 32 C dX9_isOf_9 (by decide) h (fun h => ?_) (fun h => ?_)
  · exact w_X9_isOf_b32 C (lv_sub hl [] rfl) h
  · refine v_iload_n 12 C dX9_isOf_12 rfl (lv_at hl 3 rfl) ?_
    refine v_iconst 13 C (v := (1 : Int32)) dX9_isOf_13 (by decide) ?_
    refine v_icmp_ne 14 22 C dX9_isOf_14 (by decide) h (fun h => ?_) (fun h => ?_)
    · exact w_X9_isOf_b22 C (lv_sub hl [3, 0] rfl) h
    · refine v_iload_n 17 C dX9_isOf_17 rfl (lv_at hl 0 rfl) ?_
      refine v_iconst 18 C (v := (4 : Int32)) dX9_isOf_18 (by decide) ?_
      refine v_icmp_eq 19 32 C dX9_isOf_19 (by decide) h (fun h => ?_) (fun h => ?_)
      · exact w_X9_isOf_b32 C (lv_sub hl [] rfl) h
      · exact w_X9_isOf_b22 C (lv_sub hl [3, 0] rfl) h
theorem c_X9_isOf {w : zWd} {l0 : Launch} {x1 : Int32} {x2 : Int32} {S S1 : zMem} {r : Int32} (h : f_X9_isOf x1 x2 S = some (r, S1)) : zMet LM w l0 yX9_isOf cX9_isOf 4 (some .boolean) 1 [.ref (w.2.2.1 0), .int x1, .int x2] S (some (.int r)) S1 :=
  zMet_of (by decide +kernel) (Nat.le_of_ble_eq_true rfl) (fun X ls C hl => w_X9_isOf_b0 C hl h)
theorem ml_X9_194 : Cond.methodLink RX9 194 yX9_isOf ∈ zT := zT_of (List.mem_of_getElem? (i := 1114) (by decide +kernel)) rfl
theorem hy_X9_isOf : zYv yX9_isOf cX9_isOf 4 (some .boolean) 2 := ⟨⟨zT_of (List.mem_of_getElem? (i := 1117) (by decide +kernel)) rfl, zT_of (List.mem_of_getElem? (i := 78) (by decide +kernel)) rfl, by decide, by decide +kernel, by decide +kernel, by decide +kernel⟩, zT_of (List.mem_of_getElem? (i := 1116) (by decide +kernel)) rfl, zT_of (List.mem_of_getElem? (i := 42) (by decide +kernel)) rfl⟩
theorem dX9_mark_0 : decode cX9_mark 0 = .ok (.aload_n 0, 1) := by decide +kernel
theorem dX9_mark_1 : decode cX9_mark 1 = .ok (.iload_n 1, 1) := by decide +kernel
theorem dX9_mark_2 : decode cX9_mark 2 = .ok (.invokevirtual 186, 3) := by decide +kernel
theorem dX9_mark_5 : decode cX9_mark 5 = .ok (.ifCond .eq 15, 3) := by decide +kernel
theorem dX9_mark_8 : decode cX9_mark 8 = .ok (.iload_n 2, 1) := by decide +kernel
theorem dX9_mark_9 : decode cX9_mark 9 = .ok (.i2l, 1) := by decide +kernel
theorem dX9_mark_10 : decode cX9_mark 10 = .ok (.lconst 1, 1) := by decide +kernel
theorem dX9_mark_11 : decode cX9_mark 11 = .ok (.ldc2_w 63, 3) := by decide +kernel
theorem dX9_mark_14 : decode cX9_mark 14 = .ok (.invokestatic 65, 3) := by decide +kernel
theorem dX9_mark_17 : decode cX9_mark 17 = .ok (.ifCond .ne 5, 3) := by decide +kernel
theorem dX9_mark_20 : decode cX9_mark 20 = .ok (.iconst (-1), 1) := by decide +kernel
theorem dX9_mark_21 : decode cX9_mark 21 = .ok (.ireturn, 1) := by decide +kernel
theorem dX9_mark_22 : decode cX9_mark 22 = .ok (.aload_n 0, 1) := by decide +kernel
theorem dX9_mark_23 : decode cX9_mark 23 = .ok (.iload_n 1, 1) := by decide +kernel
theorem dX9_mark_24 : decode cX9_mark 24 = .ok (.iload_n 2, 1) := by decide +kernel
theorem dX9_mark_25 : decode cX9_mark 25 = .ok (.invokevirtual 194, 3) := by decide +kernel
theorem dX9_mark_28 : decode cX9_mark 28 = .ok (.ifCond .ne 9, 3) := by decide +kernel
theorem dX9_mark_31 : decode cX9_mark 31 = .ok (.aload_n 0, 1) := by decide +kernel
theorem dX9_mark_32 : decode cX9_mark 32 = .ok (.iconst 3, 1) := by decide +kernel
theorem dX9_mark_33 : decode cX9_mark 33 = .ok (.invokevirtual 75, 3) := by decide +kernel
theorem dX9_mark_36 : decode cX9_mark 36 = .ok (.ireturn, 1) := by decide +kernel
theorem dX9_mark_37 : decode cX9_mark 37 = .ok (.aload_n 0, 1) := by decide +kernel
theorem dX9_mark_38 : decode cX9_mark 38 = .ok (.getfield 7, 3) := by decide +kernel
theorem dX9_mark_41 : decode cX9_mark 41 = .ok (.iconst 2, 1) := by decide +kernel
theorem dX9_mark_42 : decode cX9_mark 42 = .ok (.iaload, 1) := by decide +kernel
theorem dX9_mark_43 : decode cX9_mark 43 = .ok (.istore_n 3, 1) := by decide +kernel
theorem dX9_mark_44 : decode cX9_mark 44 = .ok (.aload_n 0, 1) := by decide +kernel
theorem dX9_mark_45 : decode cX9_mark 45 = .ok (.getfield 19, 3) := by decide +kernel
theorem dX9_mark_48 : decode cX9_mark 48 = .ok (.iload_n 1, 1) := by decide +kernel
theorem dX9_mark_49 : decode cX9_mark 49 = .ok (.iaload, 1) := by decide +kernel
theorem dX9_mark_50 : decode cX9_mark 50 = .ok (.istore 4, 2) := by decide +kernel
theorem dX9_mark_52 : decode cX9_mark 52 = .ok (.iload_n 2, 1) := by decide +kernel
theorem dX9_mark_53 : decode cX9_mark 53 = .ok (.tableswitch 82 1 4 #[31, 49, 65, 71], 31) := by decide +kernel
theorem dX9_mark_84 : decode cX9_mark 84 = .ok (.iload_n 3, 1) := by decide +kernel
theorem dX9_mark_85 : decode cX9_mark 85 = .ok (.iload 4, 2) := by decide +kernel
theorem dX9_mark_87 : decode cX9_mark 87 = .ok (.if_icmp .le 10, 3) := by decide +kernel
theorem dX9_mark_90 : decode cX9_mark 90 = .ok (.iload_n 3, 1) := by decide +kernel
theorem dX9_mark_91 : decode cX9_mark 91 = .ok (.iload 4, 2) := by decide +kernel
theorem dX9_mark_93 : decode cX9_mark 93 = .ok (.isub, 1) := by decide +kernel
theorem dX9_mark_94 : decode cX9_mark 94 = .ok (.goto 7, 3) := by decide +kernel
theorem dX9_mark_97 : decode cX9_mark 97 = .ok (.iload 4, 2) := by decide +kernel
theorem dX9_mark_99 : decode cX9_mark 99 = .ok (.iload_n 3, 1) := by decide +kernel
theorem dX9_mark_100 : decode cX9_mark 100 = .ok (.isub, 1) := by decide +kernel
theorem dX9_mark_101 : decode cX9_mark 101 = .ok (.ireturn, 1) := by decide +kernel
theorem dX9_mark_102 : decode cX9_mark 102 = .ok (.iconst 2, 1) := by decide +kernel
theorem dX9_mark_103 : decode cX9_mark 103 = .ok (.iload 4, 2) := by decide +kernel
theorem dX9_mark_105 : decode cX9_mark 105 = .ok (.iload_n 3, 1) := by decide +kernel
theorem dX9_mark_106 : decode cX9_mark 106 = .ok (.invokestatic 161, 3) := by decide +kernel
theorem dX9_mark_109 : decode cX9_mark 109 = .ok (.iconst 0, 1) := by decide +kernel
theorem dX9_mark_110 : decode cX9_mark 110 = .ok (.iload 4, 2) := by decide +kernel
theorem dX9_mark_112 : decode cX9_mark 112 = .ok (.iload_n 3, 1) := by decide +kernel
theorem dX9_mark_113 : decode cX9_mark 113 = .ok (.invokestatic 161, 3) := by decide +kernel
theorem dX9_mark_116 : decode cX9_mark 116 = .ok (.isub, 1) := by decide +kernel
theorem dX9_mark_117 : decode cX9_mark 117 = .ok (.ireturn, 1) := by decide +kernel
theorem dX9_mark_118 : decode cX9_mark 118 = .ok (.bipush 9, 2) := by decide +kernel
theorem dX9_mark_120 : decode cX9_mark 120 = .ok (.iload 4, 2) := by decide +kernel
theorem dX9_mark_122 : decode cX9_mark 122 = .ok (.isub, 1) := by decide +kernel
theorem dX9_mark_123 : decode cX9_mark 123 = .ok (.ireturn, 1) := by decide +kernel
theorem dX9_mark_124 : decode cX9_mark 124 = .ok (.iconst 4, 1) := by decide +kernel
theorem dX9_mark_125 : decode cX9_mark 125 = .ok (.iload 4, 2) := by decide +kernel
theorem dX9_mark_127 : decode cX9_mark 127 = .ok (.iconst 0, 1) := by decide +kernel
theorem dX9_mark_128 : decode cX9_mark 128 = .ok (.invokestatic 161, 3) := by decide +kernel
theorem dX9_mark_131 : decode cX9_mark 131 = .ok (.iload 4, 2) := by decide +kernel
theorem dX9_mark_133 : decode cX9_mark 133 = .ok (.isub, 1) := by decide +kernel
theorem dX9_mark_134 : decode cX9_mark 134 = .ok (.ireturn, 1) := by decide +kernel
theorem dX9_mark_135 : decode cX9_mark 135 = .ok (.iconst 5, 1) := by decide +kernel
theorem dX9_mark_136 : decode cX9_mark 136 = .ok (.iload 4, 2) := by decide +kernel
theorem dX9_mark_138 : decode cX9_mark 138 = .ok (.bipush 9, 2) := by decide +kernel
theorem dX9_mark_140 : decode cX9_mark 140 = .ok (.iload_n 3, 1) := by decide +kernel
theorem dX9_mark_141 : decode cX9_mark 141 = .ok (.isub, 1) := by decide +kernel
theorem dX9_mark_142 : decode cX9_mark 142 = .ok (.invokestatic 161, 3) := by decide +kernel
theorem dX9_mark_145 : decode cX9_mark 145 = .ok (.ireturn, 1) := by decide +kernel
set_option maxRecDepth 20000 in
theorem w_X9_mark_b20 {w : zWd} {X : zX} {l0 : Launch} {r : Int32} {S1 : zMem} (C : zC LM w X l0 cX9_mark RX9 5 3 (some .int)) {S : zMem} {ls : Array Slot} (hl : lv_has ls 5 []) (h : X9_mark_b20  S = some (r, S1)) : zV LM w X (some (.int r)) S1 S 20 ls [] := by
  unfold X9_mark_b20 at h
  refine v_iconst 20 C (v := (-1 : Int32)) dX9_mark_20 (by decide) ?_
  exact v_ireturn 21 C dX9_mark_21 h
set_option maxRecDepth 20000 in
theorem w_X9_mark_b101 {w : zWd} {X : zX} {l0 : Launch} {r : Int32} {S1 : zMem} (C : zC LM w X l0 cX9_mark RX9 5 3 (some .int)) {s0 : Int32} {S : zMem} {ls : Array Slot} (hl : lv_has ls 5 []) (h : X9_mark_b101 s0 S = some (r, S1)) : zV LM w X (some (.int r)) S1 S 101 ls [.int s0] := by
  unfold X9_mark_b101 at h
  exact v_ireturn 101 C dX9_mark_101 h
set_option maxRecDepth 20000 in
theorem w_X9_mark_b8 {w : zWd} {X : zX} {l0 : Launch} {r : Int32} {S1 : zMem} (C : zC LM w X l0 cX9_mark RX9 5 3 (some .int)) {x1 : Int32} {x2 : Int32} {S : zMem} {ls : Array Slot} (hl : lv_has ls 5 [(0, .ref (w.2.2.1 0)), (1, .int x1), (2, .int x2)]) (h : X9_mark_b8 x1 x2 S = some (r, S1)) : zV LM w X (some (.int r)) S1 S 8 ls [] := by
  unfold X9_mark_b8 at h
  refine v_iload_n 8 C dX9_mark_8 rfl (lv_at hl 2 rfl) ?_
  refine v_i2l 9 C dX9_mark_9 h (fun v1 h => ?_)
  refine v_lconst 10 C (v := 1) dX9_mark_10 (by decide) ?_
  refine v_ldc2 11 C (v := 5) dX9_mark_11 co_X9_63 ?_
  obtain ⟨v2, S, hc, h⟩ := zb_e h
  refine v_callSi 14 C [] dX9_mark_14 ml_X9_65 hy_X9_in (c_X9_in  hc) (by decide) rfl hl.1 (Nat.le_of_ble_eq_true rfl) rfl ?_
  refine v_if_ne 17 22 C dX9_mark_17 (by decide) h (fun h => ?_) (fun h => ?_)
  · refine v_aload_n 22 C dX9_mark_22 rfl (lv_at hl 0 rfl) ?_
    refine v_iload_n 23 C dX9_mark_23 rfl (lv_at hl 1 rfl) ?_
    refine v_iload_n 24 C dX9_mark_24 rfl (lv_at hl 2 rfl) ?_
    obtain ⟨v3, S, hc, h⟩ := zb_e h
    refine v_callVi 25 C (ci := 8) [] dX9_mark_25 ml_X9_194 hy_X9_isOf (c_X9_isOf  hc) (by decide) rfl hl.1 kM_0 rfl (Nat.le_of_ble_eq_true rfl) rfl ?_
    refine v_if_ne 28 37 C dX9_mark_28 (by decide) h (fun h => ?_) (fun h => ?_)
    · refine v_aload_n 37 C dX9_mark_37 rfl (lv_at hl 0 rfl) ?_
      refine v_getr 38 (1) C dX9_mark_38 fl_X9_7 rfl kM_0 rfl ?_
      refine v_iconst 41 C (v := (2 : Int32)) dX9_mark_41 (by decide) ?_
      refine v_iald 42 C dX9_mark_42 kM_1 rfl h (fun v4 h => ?_)
      refine v_istore_n 43 C [(3, .int v4), (0, .ref (w.2.2.1 0)), (1, .int x1), (2, .int x2)] dX9_mark_43 rfl hl (by decide) rfl (fun ls hl => ?_)
      refine v_aload_n 44 C dX9_mark_44 rfl (lv_at hl 1 rfl) ?_
      refine v_getr 45 (4) C dX9_mark_45 fl_X9_19 rfl kM_0 rfl ?_
      refine v_iload_n 48 C dX9_mark_48 rfl (lv_at hl 2 rfl) ?_
      refine v_iald 49 C dX9_mark_49 kM_4 rfl h (fun v5 h => ?_)
      refine v_istore 50 C [(4, .int v5), (3, .int v4), (0, .ref (w.2.2.1 0)), (1, .int x1), (2, .int x2)] dX9_mark_50 hl (by decide) rfl (fun ls hl => ?_)
      refine v_iload_n 52 C dX9_mark_52 rfl (lv_at hl 4 rfl) ?_
      refine v_ite h (fun hq8 h => ?_) (fun hq8 h => ?_)
      · refine v_tab 53 84 C (x := x2) (off := 31) dX9_mark_53 (by rw [hq8]; decide) (by rw [hq8]; decide) (by rw [hq8]; rfl) (by decide) ?_
        refine v_iload_n 84 C dX9_mark_84 rfl (lv_at hl 1 rfl) ?_
        refine v_iload 85 C dX9_mark_85 (lv_at hl 0 rfl) ?_
        refine v_icmp_le 87 97 C dX9_mark_87 (by decide) h (fun h => ?_) (fun h => ?_)
        · refine v_iload 97 C dX9_mark_97 (lv_at hl 0 rfl) ?_
          refine v_iload_n 99 C dX9_mark_99 rfl (lv_at hl 1 rfl) ?_
          refine v_isub 100 C dX9_mark_100 h (fun v6 h => ?_)
          exact w_X9_mark_b101 C (lv_sub hl [] rfl) h
        · refine v_iload_n 90 C dX9_mark_90 rfl (lv_at hl 1 rfl) ?_
          refine v_iload 91 C dX9_mark_91 (lv_at hl 0 rfl) ?_
          refine v_isub 93 C dX9_mark_93 h (fun v7 h => ?_)
          refine v_goto 94 101 C dX9_mark_94 (by decide) ?_
          exact w_X9_mark_b101 C (lv_sub hl [] rfl) h
      · refine v_ite h (fun hq12 h => ?_) (fun hq12 h => ?_)
        · refine v_tab 53 102 C (x := x2) (off := 49) dX9_mark_53 (by rw [hq12]; decide) (by rw [hq12]; decide) (by rw [hq12]; rfl) (by decide) ?_
          refine v_iconst 102 C (v := (2 : Int32)) dX9_mark_102 (by decide) ?_
          refine v_iload 103 C dX9_mark_103 (lv_at hl 0 rfl) ?_
          refine v_iload_n 105 C dX9_mark_105 rfl (lv_at hl 1 rfl) ?_
          obtain ⟨v9, S, hc, h⟩ := zb_e h
          refine v_callSi 106 C [] dX9_mark_106 ml_X9_161 hy_X9_endsBy (c_X9_endsBy  hc) (by decide) rfl hl.1 (Nat.le_of_ble_eq_true rfl) rfl ?_
          refine v_iconst 109 C (v := (0 : Int32)) dX9_mark_109 (by decide) ?_
          refine v_iload 110 C dX9_mark_110 (lv_at hl 0 rfl) ?_
          refine v_iload_n 112 C dX9_mark_112 rfl (lv_at hl 1 rfl) ?_
          obtain ⟨v10, S, hc, h⟩ := zb_e h
          refine v_callSi 113 C [.int v9] dX9_mark_113 ml_X9_161 hy_X9_endsBy (c_X9_endsBy  hc) (by decide) rfl hl.1 (Nat.le_of_ble_eq_true rfl) rfl ?_
          refine v_isub 116 C dX9_mark_116 h (fun v11 h => ?_)
          exact v_ireturn 117 C dX9_mark_117 h
        · refine v_ite h (fun hq14 h => ?_) (fun hq14 h => ?_)
          · refine v_tab 53 118 C (x := x2) (off := 65) dX9_mark_53 (by rw [hq14]; decide) (by rw [hq14]; decide) (by rw [hq14]; rfl) (by decide) ?_
            refine v_bipush 118 C (v := (9 : Int32)) dX9_mark_118 (by decide) ?_
            refine v_iload 120 C dX9_mark_120 (lv_at hl 0 rfl) ?_
            refine v_isub 122 C dX9_mark_122 h (fun v13 h => ?_)
            exact v_ireturn 123 C dX9_mark_123 h
          · refine v_ite h (fun hq17 h => ?_) (fun hq17 h => ?_)
            · refine v_tab 53 124 C (x := x2) (off := 71) dX9_mark_53 (by rw [hq17]; decide) (by rw [hq17]; decide) (by rw [hq17]; rfl) (by decide) ?_
              refine v_iconst 124 C (v := (4 : Int32)) dX9_mark_124 (by decide) ?_
              refine v_iload 125 C dX9_mark_125 (lv_at hl 0 rfl) ?_
              refine v_iconst 127 C (v := (0 : Int32)) dX9_mark_127 (by decide) ?_
              obtain ⟨v15, S, hc, h⟩ := zb_e h
              refine v_callSi 128 C [] dX9_mark_128 ml_X9_161 hy_X9_endsBy (c_X9_endsBy  hc) (by decide) rfl hl.1 (Nat.le_of_ble_eq_true rfl) rfl ?_
              refine v_iload 131 C dX9_mark_131 (lv_at hl 0 rfl) ?_
              refine v_isub 133 C dX9_mark_133 h (fun v16 h => ?_)
              exact v_ireturn 134 C dX9_mark_134 h
            · refine v_tabo 53 135 C (x := x2) dX9_mark_53 (by have hq8z := zne hq8 (show ((1 : Int32)).toInt = 1 by decide); have hq12z := zne hq12 (show ((2 : Int32)).toInt = 2 by decide); have hq14z := zne hq14 (show ((3 : Int32)).toInt = 3 by decide); have hq17z := zne hq17 (show ((4 : Int32)).toInt = 4 by decide); omega) (by decide) ?_
              refine v_iconst 135 C (v := (5 : Int32)) dX9_mark_135 (by decide) ?_
              refine v_iload 136 C dX9_mark_136 (lv_at hl 0 rfl) ?_
              refine v_bipush 138 C (v := (9 : Int32)) dX9_mark_138 (by decide) ?_
              refine v_iload_n 140 C dX9_mark_140 rfl (lv_at hl 1 rfl) ?_
              refine v_isub 141 C dX9_mark_141 h (fun v18 h => ?_)
              obtain ⟨v19, S, hc, h⟩ := zb_e h
              refine v_callSi 142 C [] dX9_mark_142 ml_X9_161 hy_X9_endsBy (c_X9_endsBy  hc) (by decide) rfl hl.1 (Nat.le_of_ble_eq_true rfl) rfl ?_
              exact v_ireturn 145 C dX9_mark_145 h
    · refine v_aload_n 31 C dX9_mark_31 rfl (lv_at hl 0 rfl) ?_
      refine v_iconst 32 C (v := (3 : Int32)) dX9_mark_32 (by decide) ?_
      obtain ⟨v20, S, hc, h⟩ := zb_e h
      refine v_callVi 33 C (ci := 8) [] dX9_mark_33 ml_X9_75 hy_X9_find (c_X9_find  hc) (by decide) rfl hl.1 kM_0 rfl (Nat.le_of_ble_eq_true rfl) rfl ?_
      exact v_ireturn 36 C dX9_mark_36 h
  · exact w_X9_mark_b20 C (lv_sub hl [] rfl) h
set_option maxRecDepth 20000 in
theorem w_X9_mark_b0 {w : zWd} {X : zX} {l0 : Launch} {r : Int32} {S1 : zMem} (C : zC LM w X l0 cX9_mark RX9 5 3 (some .int)) {x1 : Int32} {x2 : Int32} {S : zMem} {ls : Array Slot} (hl : lv_has ls 5 [(0, .ref (w.2.2.1 0)), (1, .int x1), (2, .int x2)]) (h : X9_mark_b0 x1 x2 S = some (r, S1)) : zV LM w X (some (.int r)) S1 S 0 ls [] := by
  unfold X9_mark_b0 at h
  refine v_aload_n 0 C dX9_mark_0 rfl (lv_at hl 0 rfl) ?_
  refine v_iload_n 1 C dX9_mark_1 rfl (lv_at hl 1 rfl) ?_
  obtain ⟨v1, S, hc, h⟩ := zb_e h
  refine v_callVi 2 C (ci := 8) [] dX9_mark_2 ml_X9_186 hy_X9_isLetter (c_X9_isLetter  hc) (by decide) rfl hl.1 kM_0 rfl (Nat.le_of_ble_eq_true rfl) rfl ?_
  refine v_if_eq 5 20 C dX9_mark_5 (by decide) h (fun h => ?_) (fun h => ?_)
  · exact w_X9_mark_b20 C (lv_sub hl [] rfl) h
  · exact w_X9_mark_b8 C (lv_sub hl [0, 1, 2] rfl) h
theorem c_X9_mark {w : zWd} {l0 : Launch} {x1 : Int32} {x2 : Int32} {S S1 : zMem} {r : Int32} (h : f_X9_mark x1 x2 S = some (r, S1)) : zMet LM w l0 yX9_mark cX9_mark 5 (some .int) 3 [.ref (w.2.2.1 0), .int x1, .int x2] S (some (.int r)) S1 :=
  zMet_of (by decide +kernel) (Nat.le_of_ble_eq_true rfl) (fun X ls C hl => w_X9_mark_b0 C hl h)
theorem dX9_keepPast_0 : decode cX9_keepPast 0 = .ok (.iconst 0, 1) := by decide +kernel
theorem dX9_keepPast_1 : decode cX9_keepPast 1 = .ok (.istore_n 1, 1) := by decide +kernel
theorem dX9_keepPast_2 : decode cX9_keepPast 2 = .ok (.iload_n 1, 1) := by decide +kernel
theorem dX9_keepPast_3 : decode cX9_keepPast 3 = .ok (.bipush 17, 2) := by decide +kernel
theorem dX9_keepPast_5 : decode cX9_keepPast 5 = .ok (.if_icmp .ge 36, 3) := by decide +kernel
theorem dX9_keepPast_8 : decode cX9_keepPast 8 = .ok (.aload_n 0, 1) := by decide +kernel
theorem dX9_keepPast_9 : decode cX9_keepPast 9 = .ok (.getfield 7, 3) := by decide +kernel
theorem dX9_keepPast_12 : decode cX9_keepPast 12 = .ok (.bipush 18, 2) := by decide +kernel
theorem dX9_keepPast_14 : decode cX9_keepPast 14 = .ok (.bipush 17, 2) := by decide +kernel
theorem dX9_keepPast_16 : decode cX9_keepPast 16 = .ok (.aload_n 0, 1) := by decide +kernel
theorem dX9_keepPast_17 : decode cX9_keepPast 17 = .ok (.getfield 7, 3) := by decide +kernel
theorem dX9_keepPast_20 : decode cX9_keepPast 20 = .ok (.iconst 0, 1) := by decide +kernel
theorem dX9_keepPast_21 : decode cX9_keepPast 21 = .ok (.iaload, 1) := by decide +kernel
theorem dX9_keepPast_22 : decode cX9_keepPast 22 = .ok (.imul, 1) := by decide +kernel
theorem dX9_keepPast_23 : decode cX9_keepPast 23 = .ok (.iadd, 1) := by decide +kernel
theorem dX9_keepPast_24 : decode cX9_keepPast 24 = .ok (.iload_n 1, 1) := by decide +kernel
theorem dX9_keepPast_25 : decode cX9_keepPast 25 = .ok (.iadd, 1) := by decide +kernel
theorem dX9_keepPast_26 : decode cX9_keepPast 26 = .ok (.aload_n 0, 1) := by decide +kernel
theorem dX9_keepPast_27 : decode cX9_keepPast 27 = .ok (.getfield 7, 3) := by decide +kernel
theorem dX9_keepPast_30 : decode cX9_keepPast 30 = .ok (.iconst 1, 1) := by decide +kernel
theorem dX9_keepPast_31 : decode cX9_keepPast 31 = .ok (.iload_n 1, 1) := by decide +kernel
theorem dX9_keepPast_32 : decode cX9_keepPast 32 = .ok (.iadd, 1) := by decide +kernel
theorem dX9_keepPast_33 : decode cX9_keepPast 33 = .ok (.iaload, 1) := by decide +kernel
theorem dX9_keepPast_34 : decode cX9_keepPast 34 = .ok (.iastore, 1) := by decide +kernel
theorem dX9_keepPast_35 : decode cX9_keepPast 35 = .ok (.iinc 1 1, 3) := by decide +kernel
theorem dX9_keepPast_38 : decode cX9_keepPast 38 = .ok (.goto (-36), 3) := by decide +kernel
theorem dX9_keepPast_41 : decode cX9_keepPast 41 = .ok (.aload_n 0, 1) := by decide +kernel
theorem dX9_keepPast_42 : decode cX9_keepPast 42 = .ok (.getfield 7, 3) := by decide +kernel
theorem dX9_keepPast_45 : decode cX9_keepPast 45 = .ok (.iconst 0, 1) := by decide +kernel
theorem dX9_keepPast_46 : decode cX9_keepPast 46 = .ok (.dup2, 1) := by decide +kernel
theorem dX9_keepPast_47 : decode cX9_keepPast 47 = .ok (.iaload, 1) := by decide +kernel
theorem dX9_keepPast_48 : decode cX9_keepPast 48 = .ok (.iconst 1, 1) := by decide +kernel
theorem dX9_keepPast_49 : decode cX9_keepPast 49 = .ok (.iadd, 1) := by decide +kernel
theorem dX9_keepPast_50 : decode cX9_keepPast 50 = .ok (.iastore, 1) := by decide +kernel
theorem dX9_keepPast_51 : decode cX9_keepPast 51 = .ok (.return_, 1) := by decide +kernel
set_option maxRecDepth 20000 in
theorem w_X9_keepPast_b2 {w : zWd} {X : zX} {l0 : Launch} {r : Unit} {S1 : zMem} (C : zC LM w X l0 cX9_keepPast RX9 2 1 none) {k2 : Int32 → zMem → Option (Unit × zMem)} (hc2 : ∀ (x1 : Int32) (S : zMem) (ls : Array Slot), lv_has ls 2 [(0, .ref (w.2.2.1 0)), (1, .int x1)] → k2 x1 S = some (r, S1) → zV LM w X none S1 S 2 ls []) {x1 : Int32} {S : zMem} {ls : Array Slot} (hl : lv_has ls 2 [(0, .ref (w.2.2.1 0)), (1, .int x1)]) (h : X9_keepPast_b2 k2 x1 S = some (r, S1)) : zV LM w X none S1 S 2 ls [] := by
  unfold X9_keepPast_b2 at h
  refine v_iload_n 2 C dX9_keepPast_2 rfl (lv_at hl 1 rfl) ?_
  refine v_bipush 3 C (v := (17 : Int32)) dX9_keepPast_3 (by decide) ?_
  refine v_icmp_ge 5 41 C dX9_keepPast_5 (by decide) h (fun h => ?_) (fun h => ?_)
  · refine v_aload_n 41 C dX9_keepPast_41 rfl (lv_at hl 0 rfl) ?_
    refine v_getr 42 (1) C dX9_keepPast_42 fl_X9_7 rfl kM_0 rfl ?_
    refine v_iconst 45 C (v := (0 : Int32)) dX9_keepPast_45 (by decide) ?_
    refine v_dup2 46 C dX9_keepPast_46 rfl rfl ?_
    refine v_iald 47 C dX9_keepPast_47 kM_1 rfl h (fun v1 h => ?_)
    refine v_iconst 48 C (v := (1 : Int32)) dX9_keepPast_48 (by decide) ?_
    refine v_iadd 49 C dX9_keepPast_49 h (fun v2 h => ?_)
    refine v_iast 50 C dX9_keepPast_50 kM_1 rfl h (fun S h => ?_)
    exact v_return 51 C dX9_keepPast_51 h
  · refine v_aload_n 8 C dX9_keepPast_8 rfl (lv_at hl 0 rfl) ?_
    refine v_getr 9 (1) C dX9_keepPast_9 fl_X9_7 rfl kM_0 rfl ?_
    refine v_bipush 12 C (v := (18 : Int32)) dX9_keepPast_12 (by decide) ?_
    refine v_bipush 14 C (v := (17 : Int32)) dX9_keepPast_14 (by decide) ?_
    refine v_aload_n 16 C dX9_keepPast_16 rfl (lv_at hl 0 rfl) ?_
    refine v_getr 17 (1) C dX9_keepPast_17 fl_X9_7 rfl kM_0 rfl ?_
    refine v_iconst 20 C (v := (0 : Int32)) dX9_keepPast_20 (by decide) ?_
    refine v_iald 21 C dX9_keepPast_21 kM_1 rfl h (fun v3 h => ?_)
    refine v_imul 22 C dX9_keepPast_22 h (fun v4 h => ?_)
    refine v_iadd 23 C dX9_keepPast_23 h (fun v5 h => ?_)
    refine v_iload_n 24 C dX9_keepPast_24 rfl (lv_at hl 1 rfl) ?_
    refine v_iadd 25 C dX9_keepPast_25 h (fun v6 h => ?_)
    refine v_aload_n 26 C dX9_keepPast_26 rfl (lv_at hl 0 rfl) ?_
    refine v_getr 27 (1) C dX9_keepPast_27 fl_X9_7 rfl kM_0 rfl ?_
    refine v_iconst 30 C (v := (1 : Int32)) dX9_keepPast_30 (by decide) ?_
    refine v_iload_n 31 C dX9_keepPast_31 rfl (lv_at hl 1 rfl) ?_
    refine v_iadd 32 C dX9_keepPast_32 h (fun v7 h => ?_)
    refine v_iald 33 C dX9_keepPast_33 kM_1 rfl h (fun v8 h => ?_)
    refine v_iast 34 C dX9_keepPast_34 kM_1 rfl h (fun S h => ?_)
    refine v_iinc 35 C (nn := (1 : Int32)) (fun v => [(1, .int v), (0, .ref (w.2.2.1 0))]) dX9_keepPast_35 hl (k := 1) rfl (by decide) (by decide) (fun _ => rfl) h (fun v9 ls hl h => ?_)
    refine v_goto 38 2 C dX9_keepPast_38 (by decide) ?_
    exact hc2 _ _ _ (lv_sub hl [1, 0] rfl) h
theorem w_X9_keepPast_l2 {w : zWd} {X : zX} {l0 : Launch} {r : Unit} {S1 : zMem} (C : zC LM w X l0 cX9_keepPast RX9 2 1 none) : ∀ (n : Nat) (x1 : Int32) (S : zMem) (ls : Array Slot), lv_has ls 2 [(0, .ref (w.2.2.1 0)), (1, .int x1)] → X9_keepPast_l2 n x1 S = some (r, S1) → zV LM w X none S1 S 2 ls [] := by
  intro n
  induction n with
  | zero =>
    intro x1 S ls hl h
    cases (show (none : Option (Unit × zMem)) = some _ from h)
  | succ n ih =>
    intro x1 S ls hl h
    exact w_X9_keepPast_b2 C ih hl h
set_option maxRecDepth 20000 in
theorem w_X9_keepPast_b0 {w : zWd} {X : zX} {l0 : Launch} {r : Unit} {S1 : zMem} (C : zC LM w X l0 cX9_keepPast RX9 2 1 none) {S : zMem} {ls : Array Slot} (hl : lv_has ls 2 [(0, .ref (w.2.2.1 0))]) (h : X9_keepPast_b0  S = some (r, S1)) : zV LM w X none S1 S 0 ls [] := by
  unfold X9_keepPast_b0 at h
  refine v_iconst 0 C (v := (0 : Int32)) dX9_keepPast_0 (by decide) ?_
  refine v_istore_n 1 C [(1, .int (0 : Int32)), (0, .ref (w.2.2.1 0))] dX9_keepPast_1 rfl hl (by decide) rfl (fun ls hl => ?_)
  exact w_X9_keepPast_l2 C zF _ _ _ (lv_sub hl [1, 0] rfl) h
theorem c_X9_keepPast {w : zWd} {l0 : Launch} {S S1 : zMem} {r : Unit} (h : f_X9_keepPast  S = some (r, S1)) : zMet LM w l0 yX9_keepPast cX9_keepPast 2 none 1 [.ref (w.2.2.1 0)] S none S1 :=
  zMet_of (by decide +kernel) (Nat.le_of_ble_eq_true rfl) (fun X ls C hl => w_X9_keepPast_b0 C hl h)
theorem ml_X9_197 : Cond.methodLink RX9 197 yX9_keepPast ∈ zT := zT_of (List.mem_of_getElem? (i := 1122) (by decide +kernel)) rfl
theorem hy_X9_keepPast : zYv yX9_keepPast cX9_keepPast 2 none 0 := ⟨⟨zT_of (List.mem_of_getElem? (i := 1125) (by decide +kernel)) rfl, zT_of (List.mem_of_getElem? (i := 78) (by decide +kernel)) rfl, by decide, by decide +kernel, by decide +kernel, by decide +kernel⟩, zT_of (List.mem_of_getElem? (i := 1124) (by decide +kernel)) rfl, zT_of (List.mem_of_getElem? (i := 43) (by decide +kernel)) rfl⟩
theorem dX9_carry_0 : decode cX9_carry 0 = .ok (.aload_n 0, 1) := by decide +kernel
theorem dX9_carry_1 : decode cX9_carry 1 = .ok (.iload_n 1, 1) := by decide +kernel
theorem dX9_carry_2 : decode cX9_carry 2 = .ok (.invokevirtual 186, 3) := by decide +kernel
theorem dX9_carry_5 : decode cX9_carry 5 = .ok (.ifCond .ne 5, 3) := by decide +kernel
theorem dX9_carry_8 : decode cX9_carry 8 = .ok (.iconst (-1), 1) := by decide +kernel
theorem dX9_carry_9 : decode cX9_carry 9 = .ok (.ireturn, 1) := by decide +kernel
theorem dX9_carry_10 : decode cX9_carry 10 = .ok (.aload_n 0, 1) := by decide +kernel
theorem dX9_carry_11 : decode cX9_carry 11 = .ok (.getfield 7, 3) := by decide +kernel
theorem dX9_carry_14 : decode cX9_carry 14 = .ok (.iconst 5, 1) := by decide +kernel
theorem dX9_carry_15 : decode cX9_carry 15 = .ok (.iaload, 1) := by decide +kernel
theorem dX9_carry_16 : decode cX9_carry 16 = .ok (.iload_n 1, 1) := by decide +kernel
theorem dX9_carry_17 : decode cX9_carry 17 = .ok (.invokestatic 176, 3) := by decide +kernel
theorem dX9_carry_20 : decode cX9_carry 20 = .ok (.ifCond .eq 6, 3) := by decide +kernel
theorem dX9_carry_23 : decode cX9_carry 23 = .ok (.bipush (-4), 2) := by decide +kernel
theorem dX9_carry_25 : decode cX9_carry 25 = .ok (.ireturn, 1) := by decide +kernel
theorem dX9_carry_26 : decode cX9_carry 26 = .ok (.aload_n 0, 1) := by decide +kernel
theorem dX9_carry_27 : decode cX9_carry 27 = .ok (.getfield 7, 3) := by decide +kernel
theorem dX9_carry_30 : decode cX9_carry 30 = .ok (.iconst 0, 1) := by decide +kernel
theorem dX9_carry_31 : decode cX9_carry 31 = .ok (.iaload, 1) := by decide +kernel
theorem dX9_carry_32 : decode cX9_carry 32 = .ok (.bipush 40, 2) := by decide +kernel
theorem dX9_carry_34 : decode cX9_carry 34 = .ok (.if_icmp .ne 6, 3) := by decide +kernel
theorem dX9_carry_37 : decode cX9_carry 37 = .ok (.bipush (-2), 2) := by decide +kernel
theorem dX9_carry_39 : decode cX9_carry 39 = .ok (.ireturn, 1) := by decide +kernel
theorem dX9_carry_40 : decode cX9_carry 40 = .ok (.aload_n 0, 1) := by decide +kernel
theorem dX9_carry_41 : decode cX9_carry 41 = .ok (.invokevirtual 197, 3) := by decide +kernel
theorem dX9_carry_44 : decode cX9_carry 44 = .ok (.aload_n 0, 1) := by decide +kernel
theorem dX9_carry_45 : decode cX9_carry 45 = .ok (.iconst 0, 1) := by decide +kernel
theorem dX9_carry_46 : decode cX9_carry 46 = .ok (.iload_n 1, 1) := by decide +kernel
theorem dX9_carry_47 : decode cX9_carry 47 = .ok (.invokevirtual 183, 3) := by decide +kernel
theorem dX9_carry_50 : decode cX9_carry 50 = .ok (.ireturn, 1) := by decide +kernel
set_option maxRecDepth 20000 in
theorem w_X9_carry_b0 {w : zWd} {X : zX} {l0 : Launch} {r : Int32} {S1 : zMem} (C : zC LM w X l0 cX9_carry RX9 2 3 (some .int)) {x1 : Int32} {S : zMem} {ls : Array Slot} (hl : lv_has ls 2 [(0, .ref (w.2.2.1 0)), (1, .int x1)]) (h : X9_carry_b0 x1 S = some (r, S1)) : zV LM w X (some (.int r)) S1 S 0 ls [] := by
  unfold X9_carry_b0 at h
  refine v_aload_n 0 C dX9_carry_0 rfl (lv_at hl 0 rfl) ?_
  refine v_iload_n 1 C dX9_carry_1 rfl (lv_at hl 1 rfl) ?_
  obtain ⟨v1, S, hc, h⟩ := zb_e h
  refine v_callVi 2 C (ci := 8) [] dX9_carry_2 ml_X9_186 hy_X9_isLetter (c_X9_isLetter  hc) (by decide) rfl hl.1 kM_0 rfl (Nat.le_of_ble_eq_true rfl) rfl ?_
  refine v_if_ne 5 10 C dX9_carry_5 (by decide) h (fun h => ?_) (fun h => ?_)
  · refine v_aload_n 10 C dX9_carry_10 rfl (lv_at hl 0 rfl) ?_
    refine v_getr 11 (1) C dX9_carry_11 fl_X9_7 rfl kM_0 rfl ?_
    refine v_iconst 14 C (v := (5 : Int32)) dX9_carry_14 (by decide) ?_
    refine v_iald 15 C dX9_carry_15 kM_1 rfl h (fun v2 h => ?_)
    refine v_iload_n 16 C dX9_carry_16 rfl (lv_at hl 1 rfl) ?_
    obtain ⟨v3, S, hc, h⟩ := zb_e h
    refine v_callSi 17 C [] dX9_carry_17 ml_X9_176 hy_X9_has (c_X9_has  hc) (by decide) rfl hl.1 (Nat.le_of_ble_eq_true rfl) rfl ?_
    refine v_if_eq 20 26 C dX9_carry_20 (by decide) h (fun h => ?_) (fun h => ?_)
    · refine v_aload_n 26 C dX9_carry_26 rfl (lv_at hl 0 rfl) ?_
      refine v_getr 27 (1) C dX9_carry_27 fl_X9_7 rfl kM_0 rfl ?_
      refine v_iconst 30 C (v := (0 : Int32)) dX9_carry_30 (by decide) ?_
      refine v_iald 31 C dX9_carry_31 kM_1 rfl h (fun v4 h => ?_)
      refine v_bipush 32 C (v := (40 : Int32)) dX9_carry_32 (by decide) ?_
      refine v_icmp_ne 34 40 C dX9_carry_34 (by decide) h (fun h => ?_) (fun h => ?_)
      · refine v_aload_n 40 C dX9_carry_40 rfl (lv_at hl 0 rfl) ?_
        obtain ⟨v5, S, hc, h⟩ := zb_e h
        refine v_callVv 41 C (ci := 8) [] dX9_carry_41 ml_X9_197 hy_X9_keepPast (c_X9_keepPast  hc) (by decide) rfl hl.1 kM_0 rfl (Nat.le_of_ble_eq_true rfl) rfl ?_
        refine v_aload_n 44 C dX9_carry_44 rfl (lv_at hl 0 rfl) ?_
        refine v_iconst 45 C (v := (0 : Int32)) dX9_carry_45 (by decide) ?_
        refine v_iload_n 46 C dX9_carry_46 rfl (lv_at hl 1 rfl) ?_
        obtain ⟨v6, S, hc, h⟩ := zb_e h
        refine v_callVi 47 C (ci := 8) [] dX9_carry_47 ml_X9_183 hy_X9_carries (c_X9_carries  hc) (by decide) rfl hl.1 kM_0 rfl (Nat.le_of_ble_eq_true rfl) rfl ?_
        exact v_ireturn 50 C dX9_carry_50 h
      · refine v_bipush 37 C (v := (-2 : Int32)) dX9_carry_37 (by decide) ?_
        exact v_ireturn 39 C dX9_carry_39 h
    · refine v_bipush 23 C (v := (-4 : Int32)) dX9_carry_23 (by decide) ?_
      exact v_ireturn 25 C dX9_carry_25 h
  · refine v_iconst 8 C (v := (-1 : Int32)) dX9_carry_8 (by decide) ?_
    exact v_ireturn 9 C dX9_carry_9 h
theorem c_X9_carry {w : zWd} {l0 : Launch} {x1 : Int32} {S S1 : zMem} {r : Int32} (h : f_X9_carry x1 S = some (r, S1)) : zMet LM w l0 yX9_carry cX9_carry 2 (some .int) 3 [.ref (w.2.2.1 0), .int x1] S (some (.int r)) S1 :=
  zMet_of (by decide +kernel) (Nat.le_of_ble_eq_true rfl) (fun X ls C hl => w_X9_carry_b0 C hl h)
theorem co_X9_200 : Cond.constantLong RX9 200 9 ∈ zT := zT_of (List.mem_of_getElem? (i := 1130) (by decide +kernel)) rfl
theorem dX9_bribe_0 : decode cX9_bribe 0 = .ok (.iload_n 1, 1) := by decide +kernel
theorem dX9_bribe_1 : decode cX9_bribe 1 = .ok (.i2l, 1) := by decide +kernel
theorem dX9_bribe_2 : decode cX9_bribe 2 = .ok (.lconst 1, 1) := by decide +kernel
theorem dX9_bribe_3 : decode cX9_bribe 3 = .ok (.ldc2_w 200, 3) := by decide +kernel
theorem dX9_bribe_6 : decode cX9_bribe 6 = .ok (.invokestatic 65, 3) := by decide +kernel
theorem dX9_bribe_9 : decode cX9_bribe 9 = .ok (.ifCond .ne 5, 3) := by decide +kernel
theorem dX9_bribe_12 : decode cX9_bribe 12 = .ok (.iconst (-1), 1) := by decide +kernel
theorem dX9_bribe_13 : decode cX9_bribe 13 = .ok (.ireturn, 1) := by decide +kernel
theorem dX9_bribe_14 : decode cX9_bribe 14 = .ok (.aload_n 0, 1) := by decide +kernel
theorem dX9_bribe_15 : decode cX9_bribe 15 = .ok (.getfield 152, 3) := by decide +kernel
theorem dX9_bribe_18 : decode cX9_bribe 18 = .ok (.ifCond .eq 14, 3) := by decide +kernel
theorem dX9_bribe_21 : decode cX9_bribe 21 = .ok (.aload_n 0, 1) := by decide +kernel
theorem dX9_bribe_22 : decode cX9_bribe 22 = .ok (.getfield 7, 3) := by decide +kernel
theorem dX9_bribe_25 : decode cX9_bribe 25 = .ok (.iconst 2, 1) := by decide +kernel
theorem dX9_bribe_26 : decode cX9_bribe 26 = .ok (.iaload, 1) := by decide +kernel
theorem dX9_bribe_27 : decode cX9_bribe 27 = .ok (.bipush 9, 2) := by decide +kernel
theorem dX9_bribe_29 : decode cX9_bribe 29 = .ok (.if_icmp .ne 6, 3) := by decide +kernel
theorem dX9_bribe_32 : decode cX9_bribe 32 = .ok (.bipush (-4), 2) := by decide +kernel
theorem dX9_bribe_34 : decode cX9_bribe 34 = .ok (.ireturn, 1) := by decide +kernel
theorem dX9_bribe_35 : decode cX9_bribe 35 = .ok (.aload_n 0, 1) := by decide +kernel
theorem dX9_bribe_36 : decode cX9_bribe 36 = .ok (.getfield 7, 3) := by decide +kernel
theorem dX9_bribe_39 : decode cX9_bribe 39 = .ok (.iconst 0, 1) := by decide +kernel
theorem dX9_bribe_40 : decode cX9_bribe 40 = .ok (.iaload, 1) := by decide +kernel
theorem dX9_bribe_41 : decode cX9_bribe 41 = .ok (.bipush 40, 2) := by decide +kernel
theorem dX9_bribe_43 : decode cX9_bribe 43 = .ok (.if_icmp .ne 6, 3) := by decide +kernel
theorem dX9_bribe_46 : decode cX9_bribe 46 = .ok (.bipush (-2), 2) := by decide +kernel
theorem dX9_bribe_48 : decode cX9_bribe 48 = .ok (.ireturn, 1) := by decide +kernel
theorem dX9_bribe_49 : decode cX9_bribe 49 = .ok (.aload_n 0, 1) := by decide +kernel
theorem dX9_bribe_50 : decode cX9_bribe 50 = .ok (.invokevirtual 197, 3) := by decide +kernel
theorem dX9_bribe_53 : decode cX9_bribe 53 = .ok (.aload_n 0, 1) := by decide +kernel
theorem dX9_bribe_54 : decode cX9_bribe 54 = .ok (.getfield 7, 3) := by decide +kernel
theorem dX9_bribe_57 : decode cX9_bribe 57 = .ok (.iconst 2, 1) := by decide +kernel
theorem dX9_bribe_58 : decode cX9_bribe 58 = .ok (.aload_n 0, 1) := by decide +kernel
theorem dX9_bribe_59 : decode cX9_bribe 59 = .ok (.getfield 7, 3) := by decide +kernel
theorem dX9_bribe_62 : decode cX9_bribe 62 = .ok (.iconst 2, 1) := by decide +kernel
theorem dX9_bribe_63 : decode cX9_bribe 63 = .ok (.iaload, 1) := by decide +kernel
theorem dX9_bribe_64 : decode cX9_bribe 64 = .ok (.iload_n 1, 1) := by decide +kernel
theorem dX9_bribe_65 : decode cX9_bribe 65 = .ok (.iadd, 1) := by decide +kernel
theorem dX9_bribe_66 : decode cX9_bribe 66 = .ok (.bipush 9, 2) := by decide +kernel
theorem dX9_bribe_68 : decode cX9_bribe 68 = .ok (.invokestatic 158, 3) := by decide +kernel
theorem dX9_bribe_71 : decode cX9_bribe 71 = .ok (.iastore, 1) := by decide +kernel
theorem dX9_bribe_72 : decode cX9_bribe 72 = .ok (.aload_n 0, 1) := by decide +kernel
theorem dX9_bribe_73 : decode cX9_bribe 73 = .ok (.getfield 7, 3) := by decide +kernel
theorem dX9_bribe_76 : decode cX9_bribe 76 = .ok (.iconst 2, 1) := by decide +kernel
theorem dX9_bribe_77 : decode cX9_bribe 77 = .ok (.iaload, 1) := by decide +kernel
theorem dX9_bribe_78 : decode cX9_bribe 78 = .ok (.ireturn, 1) := by decide +kernel
set_option maxRecDepth 20000 in
theorem w_X9_bribe_b32 {w : zWd} {X : zX} {l0 : Launch} {r : Int32} {S1 : zMem} (C : zC LM w X l0 cX9_bribe RX9 2 2 (some .int)) {S : zMem} {ls : Array Slot} (hl : lv_has ls 2 []) (h : X9_bribe_b32  S = some (r, S1)) : zV LM w X (some (.int r)) S1 S 32 ls [] := by
  unfold X9_bribe_b32 at h
  refine v_bipush 32 C (v := (-4 : Int32)) dX9_bribe_32 (by decide) ?_
  exact v_ireturn 34 C dX9_bribe_34 h
set_option maxRecDepth 20000 in
theorem w_X9_bribe_b0 {w : zWd} {X : zX} {l0 : Launch} {r : Int32} {S1 : zMem} (C : zC LM w X l0 cX9_bribe RX9 2 2 (some .int)) {x1 : Int32} {S : zMem} {ls : Array Slot} (hl : lv_has ls 2 [(0, .ref (w.2.2.1 0)), (1, .int x1)]) (h : X9_bribe_b0 x1 S = some (r, S1)) : zV LM w X (some (.int r)) S1 S 0 ls [] := by
  unfold X9_bribe_b0 at h
  refine v_iload_n 0 C dX9_bribe_0 rfl (lv_at hl 1 rfl) ?_
  refine v_i2l 1 C dX9_bribe_1 h (fun v1 h => ?_)
  refine v_lconst 2 C (v := 1) dX9_bribe_2 (by decide) ?_
  refine v_ldc2 3 C (v := 9) dX9_bribe_3 co_X9_200 ?_
  obtain ⟨v2, S, hc, h⟩ := zb_e h
  refine v_callSi 6 C [] dX9_bribe_6 ml_X9_65 hy_X9_in (c_X9_in  hc) (by decide) rfl hl.1 (Nat.le_of_ble_eq_true rfl) rfl ?_
  refine v_if_ne 9 14 C dX9_bribe_9 (by decide) h (fun h => ?_) (fun h => ?_)
  · refine v_aload_n 14 C dX9_bribe_14 rfl (lv_at hl 0 rfl) ?_
    refine v_geti 15 C dX9_bribe_15 fl_X9_152 rfl kM_0 h (fun v3 h => ?_)
    refine v_if_eq 18 32 C dX9_bribe_18 (by decide) h (fun h => ?_) (fun h => ?_)
    · exact w_X9_bribe_b32 C (lv_sub hl [] rfl) h
    · refine v_aload_n 21 C dX9_bribe_21 rfl (lv_at hl 0 rfl) ?_
      refine v_getr 22 (1) C dX9_bribe_22 fl_X9_7 rfl kM_0 rfl ?_
      refine v_iconst 25 C (v := (2 : Int32)) dX9_bribe_25 (by decide) ?_
      refine v_iald 26 C dX9_bribe_26 kM_1 rfl h (fun v4 h => ?_)
      refine v_bipush 27 C (v := (9 : Int32)) dX9_bribe_27 (by decide) ?_
      refine v_icmp_ne 29 35 C dX9_bribe_29 (by decide) h (fun h => ?_) (fun h => ?_)
      · refine v_aload_n 35 C dX9_bribe_35 rfl (lv_at hl 0 rfl) ?_
        refine v_getr 36 (1) C dX9_bribe_36 fl_X9_7 rfl kM_0 rfl ?_
        refine v_iconst 39 C (v := (0 : Int32)) dX9_bribe_39 (by decide) ?_
        refine v_iald 40 C dX9_bribe_40 kM_1 rfl h (fun v5 h => ?_)
        refine v_bipush 41 C (v := (40 : Int32)) dX9_bribe_41 (by decide) ?_
        refine v_icmp_ne 43 49 C dX9_bribe_43 (by decide) h (fun h => ?_) (fun h => ?_)
        · refine v_aload_n 49 C dX9_bribe_49 rfl (lv_at hl 0 rfl) ?_
          obtain ⟨v6, S, hc, h⟩ := zb_e h
          refine v_callVv 50 C (ci := 8) [] dX9_bribe_50 ml_X9_197 hy_X9_keepPast (c_X9_keepPast  hc) (by decide) rfl hl.1 kM_0 rfl (Nat.le_of_ble_eq_true rfl) rfl ?_
          refine v_aload_n 53 C dX9_bribe_53 rfl (lv_at hl 0 rfl) ?_
          refine v_getr 54 (1) C dX9_bribe_54 fl_X9_7 rfl kM_0 rfl ?_
          refine v_iconst 57 C (v := (2 : Int32)) dX9_bribe_57 (by decide) ?_
          refine v_aload_n 58 C dX9_bribe_58 rfl (lv_at hl 0 rfl) ?_
          refine v_getr 59 (1) C dX9_bribe_59 fl_X9_7 rfl kM_0 rfl ?_
          refine v_iconst 62 C (v := (2 : Int32)) dX9_bribe_62 (by decide) ?_
          refine v_iald 63 C dX9_bribe_63 kM_1 rfl h (fun v7 h => ?_)
          refine v_iload_n 64 C dX9_bribe_64 rfl (lv_at hl 1 rfl) ?_
          refine v_iadd 65 C dX9_bribe_65 h (fun v8 h => ?_)
          refine v_bipush 66 C (v := (9 : Int32)) dX9_bribe_66 (by decide) ?_
          obtain ⟨v9, S, hc, h⟩ := zb_e h
          refine v_callSi 68 C [.int (2 : Int32), .ref (w.2.2.1 1)] dX9_bribe_68 ml_X9_158 hy_X9_kept (c_X9_kept  hc) (by decide) rfl hl.1 (Nat.le_of_ble_eq_true rfl) rfl ?_
          refine v_iast 71 C dX9_bribe_71 kM_1 rfl h (fun S h => ?_)
          refine v_aload_n 72 C dX9_bribe_72 rfl (lv_at hl 0 rfl) ?_
          refine v_getr 73 (1) C dX9_bribe_73 fl_X9_7 rfl kM_0 rfl ?_
          refine v_iconst 76 C (v := (2 : Int32)) dX9_bribe_76 (by decide) ?_
          refine v_iald 77 C dX9_bribe_77 kM_1 rfl h (fun v10 h => ?_)
          exact v_ireturn 78 C dX9_bribe_78 h
        · refine v_bipush 46 C (v := (-2 : Int32)) dX9_bribe_46 (by decide) ?_
          exact v_ireturn 48 C dX9_bribe_48 h
      · exact w_X9_bribe_b32 C (lv_sub hl [] rfl) h
  · refine v_iconst 12 C (v := (-1 : Int32)) dX9_bribe_12 (by decide) ?_
    exact v_ireturn 13 C dX9_bribe_13 h
theorem c_X9_bribe {w : zWd} {l0 : Launch} {x1 : Int32} {S S1 : zMem} {r : Int32} (h : f_X9_bribe x1 S = some (r, S1)) : zMet LM w l0 yX9_bribe cX9_bribe 2 (some .int) 2 [.ref (w.2.2.1 0), .int x1] S (some (.int r)) S1 :=
  zMet_of (by decide +kernel) (Nat.le_of_ble_eq_true rfl) (fun X ls C hl => w_X9_bribe_b0 C hl h)
theorem dX9_weather_0 : decode cX9_weather 0 = .ok (.iload_n 1, 1) := by decide +kernel
theorem dX9_weather_1 : decode cX9_weather 1 = .ok (.i2l, 1) := by decide +kernel
theorem dX9_weather_2 : decode cX9_weather 2 = .ok (.lconst 0, 1) := by decide +kernel
theorem dX9_weather_3 : decode cX9_weather 3 = .ok (.ldc2_w 171, 3) := by decide +kernel
theorem dX9_weather_6 : decode cX9_weather 6 = .ok (.invokestatic 65, 3) := by decide +kernel
theorem dX9_weather_9 : decode cX9_weather 9 = .ok (.ifCond .ne 5, 3) := by decide +kernel
theorem dX9_weather_12 : decode cX9_weather 12 = .ok (.iconst (-1), 1) := by decide +kernel
theorem dX9_weather_13 : decode cX9_weather 13 = .ok (.ireturn, 1) := by decide +kernel
theorem dX9_weather_14 : decode cX9_weather 14 = .ok (.aload_n 0, 1) := by decide +kernel
theorem dX9_weather_15 : decode cX9_weather 15 = .ok (.getfield 7, 3) := by decide +kernel
theorem dX9_weather_18 : decode cX9_weather 18 = .ok (.iconst 3, 1) := by decide +kernel
theorem dX9_weather_19 : decode cX9_weather 19 = .ok (.iaload, 1) := by decide +kernel
theorem dX9_weather_20 : decode cX9_weather 20 = .ok (.istore_n 2, 1) := by decide +kernel
theorem dX9_weather_21 : decode cX9_weather 21 = .ok (.aload_n 0, 1) := by decide +kernel
theorem dX9_weather_22 : decode cX9_weather 22 = .ok (.getfield 152, 3) := by decide +kernel
theorem dX9_weather_25 : decode cX9_weather 25 = .ok (.ifCond .eq 8, 3) := by decide +kernel
theorem dX9_weather_28 : decode cX9_weather 28 = .ok (.iload_n 2, 1) := by decide +kernel
theorem dX9_weather_29 : decode cX9_weather 29 = .ok (.iload_n 1, 1) := by decide +kernel
theorem dX9_weather_30 : decode cX9_weather 30 = .ok (.if_icmp .ne 6, 3) := by decide +kernel
theorem dX9_weather_33 : decode cX9_weather 33 = .ok (.bipush (-4), 2) := by decide +kernel
theorem dX9_weather_35 : decode cX9_weather 35 = .ok (.ireturn, 1) := by decide +kernel
theorem dX9_weather_36 : decode cX9_weather 36 = .ok (.aload_n 0, 1) := by decide +kernel
theorem dX9_weather_37 : decode cX9_weather 37 = .ok (.getfield 7, 3) := by decide +kernel
theorem dX9_weather_40 : decode cX9_weather 40 = .ok (.iconst 0, 1) := by decide +kernel
theorem dX9_weather_41 : decode cX9_weather 41 = .ok (.iaload, 1) := by decide +kernel
theorem dX9_weather_42 : decode cX9_weather 42 = .ok (.bipush 40, 2) := by decide +kernel
theorem dX9_weather_44 : decode cX9_weather 44 = .ok (.if_icmp .ne 6, 3) := by decide +kernel
theorem dX9_weather_47 : decode cX9_weather 47 = .ok (.bipush (-2), 2) := by decide +kernel
theorem dX9_weather_49 : decode cX9_weather 49 = .ok (.ireturn, 1) := by decide +kernel
theorem dX9_weather_50 : decode cX9_weather 50 = .ok (.aload_n 0, 1) := by decide +kernel
theorem dX9_weather_51 : decode cX9_weather 51 = .ok (.invokevirtual 197, 3) := by decide +kernel
theorem dX9_weather_54 : decode cX9_weather 54 = .ok (.aload_n 0, 1) := by decide +kernel
theorem dX9_weather_55 : decode cX9_weather 55 = .ok (.getfield 7, 3) := by decide +kernel
theorem dX9_weather_58 : decode cX9_weather 58 = .ok (.iconst 3, 1) := by decide +kernel
theorem dX9_weather_59 : decode cX9_weather 59 = .ok (.iload_n 1, 1) := by decide +kernel
theorem dX9_weather_60 : decode cX9_weather 60 = .ok (.iastore, 1) := by decide +kernel
theorem dX9_weather_61 : decode cX9_weather 61 = .ok (.iload_n 2, 1) := by decide +kernel
theorem dX9_weather_62 : decode cX9_weather 62 = .ok (.ireturn, 1) := by decide +kernel
set_option maxRecDepth 20000 in
theorem w_X9_weather_b33 {w : zWd} {X : zX} {l0 : Launch} {r : Int32} {S1 : zMem} (C : zC LM w X l0 cX9_weather RX9 3 2 (some .int)) {S : zMem} {ls : Array Slot} (hl : lv_has ls 3 []) (h : X9_weather_b33  S = some (r, S1)) : zV LM w X (some (.int r)) S1 S 33 ls [] := by
  unfold X9_weather_b33 at h
  refine v_bipush 33 C (v := (-4 : Int32)) dX9_weather_33 (by decide) ?_
  exact v_ireturn 35 C dX9_weather_35 h
set_option maxRecDepth 20000 in
theorem w_X9_weather_b0 {w : zWd} {X : zX} {l0 : Launch} {r : Int32} {S1 : zMem} (C : zC LM w X l0 cX9_weather RX9 3 2 (some .int)) {x1 : Int32} {S : zMem} {ls : Array Slot} (hl : lv_has ls 3 [(0, .ref (w.2.2.1 0)), (1, .int x1)]) (h : X9_weather_b0 x1 S = some (r, S1)) : zV LM w X (some (.int r)) S1 S 0 ls [] := by
  unfold X9_weather_b0 at h
  refine v_iload_n 0 C dX9_weather_0 rfl (lv_at hl 1 rfl) ?_
  refine v_i2l 1 C dX9_weather_1 h (fun v1 h => ?_)
  refine v_lconst 2 C (v := 0) dX9_weather_2 (by decide) ?_
  refine v_ldc2 3 C (v := 2) dX9_weather_3 co_X9_171 ?_
  obtain ⟨v2, S, hc, h⟩ := zb_e h
  refine v_callSi 6 C [] dX9_weather_6 ml_X9_65 hy_X9_in (c_X9_in  hc) (by decide) rfl hl.1 (Nat.le_of_ble_eq_true rfl) rfl ?_
  refine v_if_ne 9 14 C dX9_weather_9 (by decide) h (fun h => ?_) (fun h => ?_)
  · refine v_aload_n 14 C dX9_weather_14 rfl (lv_at hl 0 rfl) ?_
    refine v_getr 15 (1) C dX9_weather_15 fl_X9_7 rfl kM_0 rfl ?_
    refine v_iconst 18 C (v := (3 : Int32)) dX9_weather_18 (by decide) ?_
    refine v_iald 19 C dX9_weather_19 kM_1 rfl h (fun v3 h => ?_)
    refine v_istore_n 20 C [(2, .int v3), (0, .ref (w.2.2.1 0)), (1, .int x1)] dX9_weather_20 rfl hl (by decide) rfl (fun ls hl => ?_)
    refine v_aload_n 21 C dX9_weather_21 rfl (lv_at hl 1 rfl) ?_
    refine v_geti 22 C dX9_weather_22 fl_X9_152 rfl kM_0 h (fun v4 h => ?_)
    refine v_if_eq 25 33 C dX9_weather_25 (by decide) h (fun h => ?_) (fun h => ?_)
    · exact w_X9_weather_b33 C (lv_sub hl [] rfl) h
    · refine v_iload_n 28 C dX9_weather_28 rfl (lv_at hl 0 rfl) ?_
      refine v_iload_n 29 C dX9_weather_29 rfl (lv_at hl 2 rfl) ?_
      refine v_icmp_ne 30 36 C dX9_weather_30 (by decide) h (fun h => ?_) (fun h => ?_)
      · refine v_aload_n 36 C dX9_weather_36 rfl (lv_at hl 1 rfl) ?_
        refine v_getr 37 (1) C dX9_weather_37 fl_X9_7 rfl kM_0 rfl ?_
        refine v_iconst 40 C (v := (0 : Int32)) dX9_weather_40 (by decide) ?_
        refine v_iald 41 C dX9_weather_41 kM_1 rfl h (fun v5 h => ?_)
        refine v_bipush 42 C (v := (40 : Int32)) dX9_weather_42 (by decide) ?_
        refine v_icmp_ne 44 50 C dX9_weather_44 (by decide) h (fun h => ?_) (fun h => ?_)
        · refine v_aload_n 50 C dX9_weather_50 rfl (lv_at hl 1 rfl) ?_
          obtain ⟨v6, S, hc, h⟩ := zb_e h
          refine v_callVv 51 C (ci := 8) [] dX9_weather_51 ml_X9_197 hy_X9_keepPast (c_X9_keepPast  hc) (by decide) rfl hl.1 kM_0 rfl (Nat.le_of_ble_eq_true rfl) rfl ?_
          refine v_aload_n 54 C dX9_weather_54 rfl (lv_at hl 1 rfl) ?_
          refine v_getr 55 (1) C dX9_weather_55 fl_X9_7 rfl kM_0 rfl ?_
          refine v_iconst 58 C (v := (3 : Int32)) dX9_weather_58 (by decide) ?_
          refine v_iload_n 59 C dX9_weather_59 rfl (lv_at hl 2 rfl) ?_
          refine v_iast 60 C dX9_weather_60 kM_1 rfl h (fun S h => ?_)
          refine v_iload_n 61 C dX9_weather_61 rfl (lv_at hl 0 rfl) ?_
          exact v_ireturn 62 C dX9_weather_62 h
        · refine v_bipush 47 C (v := (-2 : Int32)) dX9_weather_47 (by decide) ?_
          exact v_ireturn 49 C dX9_weather_49 h
      · exact w_X9_weather_b33 C (lv_sub hl [] rfl) h
  · refine v_iconst 12 C (v := (-1 : Int32)) dX9_weather_12 (by decide) ?_
    exact v_ireturn 13 C dX9_weather_13 h
theorem c_X9_weather {w : zWd} {l0 : Launch} {x1 : Int32} {S S1 : zMem} {r : Int32} (h : f_X9_weather x1 S = some (r, S1)) : zMet LM w l0 yX9_weather cX9_weather 3 (some .int) 2 [.ref (w.2.2.1 0), .int x1] S (some (.int r)) S1 :=
  zMet_of (by decide +kernel) (Nat.le_of_ble_eq_true rfl) (fun X ls C hl => w_X9_weather_b0 C hl h)
theorem dX9_bits_0 : decode cX9_bits 0 = .ok (.iconst 0, 1) := by decide +kernel
theorem dX9_bits_1 : decode cX9_bits 1 = .ok (.istore_n 1, 1) := by decide +kernel
theorem dX9_bits_2 : decode cX9_bits 2 = .ok (.iconst 0, 1) := by decide +kernel
theorem dX9_bits_3 : decode cX9_bits 3 = .ok (.istore_n 2, 1) := by decide +kernel
theorem dX9_bits_4 : decode cX9_bits 4 = .ok (.iload_n 2, 1) := by decide +kernel
theorem dX9_bits_5 : decode cX9_bits 5 = .ok (.bipush 6, 2) := by decide +kernel
theorem dX9_bits_7 : decode cX9_bits 7 = .ok (.if_icmp .ge 17, 3) := by decide +kernel
theorem dX9_bits_10 : decode cX9_bits 10 = .ok (.iload_n 1, 1) := by decide +kernel
theorem dX9_bits_11 : decode cX9_bits 11 = .ok (.iload_n 0, 1) := by decide +kernel
theorem dX9_bits_12 : decode cX9_bits 12 = .ok (.iload_n 2, 1) := by decide +kernel
theorem dX9_bits_13 : decode cX9_bits 13 = .ok (.ishr, 1) := by decide +kernel
theorem dX9_bits_14 : decode cX9_bits 14 = .ok (.iconst 1, 1) := by decide +kernel
theorem dX9_bits_15 : decode cX9_bits 15 = .ok (.iand, 1) := by decide +kernel
theorem dX9_bits_16 : decode cX9_bits 16 = .ok (.iadd, 1) := by decide +kernel
theorem dX9_bits_17 : decode cX9_bits 17 = .ok (.istore_n 1, 1) := by decide +kernel
theorem dX9_bits_18 : decode cX9_bits 18 = .ok (.iinc 2 1, 3) := by decide +kernel
theorem dX9_bits_21 : decode cX9_bits 21 = .ok (.goto (-17), 3) := by decide +kernel
theorem dX9_bits_24 : decode cX9_bits 24 = .ok (.iload_n 1, 1) := by decide +kernel
theorem dX9_bits_25 : decode cX9_bits 25 = .ok (.ireturn, 1) := by decide +kernel
set_option maxRecDepth 20000 in
theorem w_X9_bits_b4 {w : zWd} {X : zX} {l0 : Launch} {r : Int32} {S1 : zMem} (C : zC LM w X l0 cX9_bits RX9 3 1 (some .int)) {k4 : Int32 → Int32 → Int32 → zMem → Option (Int32 × zMem)} (hc4 : ∀ (x0 : Int32) (x1 : Int32) (x2 : Int32) (S : zMem) (ls : Array Slot), lv_has ls 3 [(0, .int x0), (1, .int x1), (2, .int x2)] → k4 x0 x1 x2 S = some (r, S1) → zV LM w X (some (.int r)) S1 S 4 ls []) {x0 : Int32} {x1 : Int32} {x2 : Int32} {S : zMem} {ls : Array Slot} (hl : lv_has ls 3 [(0, .int x0), (1, .int x1), (2, .int x2)]) (h : X9_bits_b4 k4 x0 x1 x2 S = some (r, S1)) : zV LM w X (some (.int r)) S1 S 4 ls [] := by
  unfold X9_bits_b4 at h
  refine v_iload_n 4 C dX9_bits_4 rfl (lv_at hl 2 rfl) ?_
  refine v_bipush 5 C (v := (6 : Int32)) dX9_bits_5 (by decide) ?_
  refine v_icmp_ge 7 24 C dX9_bits_7 (by decide) h (fun h => ?_) (fun h => ?_)
  · refine v_iload_n 24 C dX9_bits_24 rfl (lv_at hl 1 rfl) ?_
    exact v_ireturn 25 C dX9_bits_25 h
  · refine v_iload_n 10 C dX9_bits_10 rfl (lv_at hl 1 rfl) ?_
    refine v_iload_n 11 C dX9_bits_11 rfl (lv_at hl 0 rfl) ?_
    refine v_iload_n 12 C dX9_bits_12 rfl (lv_at hl 2 rfl) ?_
    refine v_ishr 13 C dX9_bits_13 h (fun v1 h => ?_)
    refine v_iconst 14 C (v := (1 : Int32)) dX9_bits_14 (by decide) ?_
    refine v_iand 15 C dX9_bits_15 h (fun v2 h => ?_)
    refine v_iadd 16 C dX9_bits_16 h (fun v3 h => ?_)
    refine v_istore_n 17 C [(1, .int v3), (0, .int x0), (2, .int x2)] dX9_bits_17 rfl hl (by decide) rfl (fun ls hl => ?_)
    refine v_iinc 18 C (nn := (1 : Int32)) (fun v => [(2, .int v), (1, .int v3), (0, .int x0)]) dX9_bits_18 hl (k := 2) rfl (by decide) (by decide) (fun _ => rfl) h (fun v4 ls hl h => ?_)
    refine v_goto 21 4 C dX9_bits_21 (by decide) ?_
    exact hc4 _ _ _ _ _ (lv_sub hl [2, 1, 0] rfl) h
theorem w_X9_bits_l4 {w : zWd} {X : zX} {l0 : Launch} {r : Int32} {S1 : zMem} (C : zC LM w X l0 cX9_bits RX9 3 1 (some .int)) : ∀ (n : Nat) (x0 : Int32) (x1 : Int32) (x2 : Int32) (S : zMem) (ls : Array Slot), lv_has ls 3 [(0, .int x0), (1, .int x1), (2, .int x2)] → X9_bits_l4 n x0 x1 x2 S = some (r, S1) → zV LM w X (some (.int r)) S1 S 4 ls [] := by
  intro n
  induction n with
  | zero =>
    intro x0 x1 x2 S ls hl h
    cases (show (none : Option (Int32 × zMem)) = some _ from h)
  | succ n ih =>
    intro x0 x1 x2 S ls hl h
    exact w_X9_bits_b4 C ih hl h
set_option maxRecDepth 20000 in
theorem w_X9_bits_b0 {w : zWd} {X : zX} {l0 : Launch} {r : Int32} {S1 : zMem} (C : zC LM w X l0 cX9_bits RX9 3 1 (some .int)) {x0 : Int32} {S : zMem} {ls : Array Slot} (hl : lv_has ls 3 [(0, .int x0)]) (h : X9_bits_b0 x0 S = some (r, S1)) : zV LM w X (some (.int r)) S1 S 0 ls [] := by
  unfold X9_bits_b0 at h
  refine v_iconst 0 C (v := (0 : Int32)) dX9_bits_0 (by decide) ?_
  refine v_istore_n 1 C [(1, .int (0 : Int32)), (0, .int x0)] dX9_bits_1 rfl hl (by decide) rfl (fun ls hl => ?_)
  refine v_iconst 2 C (v := (0 : Int32)) dX9_bits_2 (by decide) ?_
  refine v_istore_n 3 C [(2, .int (0 : Int32)), (1, .int (0 : Int32)), (0, .int x0)] dX9_bits_3 rfl hl (by decide) rfl (fun ls hl => ?_)
  exact w_X9_bits_l4 C zF _ _ _ _ _ (lv_sub hl [2, 1, 0] rfl) h
theorem c_X9_bits {w : zWd} {l0 : Launch} {x0 : Int32} {S S1 : zMem} {r : Int32} (h : f_X9_bits x0 S = some (r, S1)) : zMet LM w l0 yX9_bits cX9_bits 3 (some .int) 1 [.int x0] S (some (.int r)) S1 :=
  zMet_of (by decide +kernel) (Nat.le_of_ble_eq_true rfl) (fun X ls C hl => w_X9_bits_b0 C hl h)
theorem dX9_beginDay_0 : decode cX9_beginDay 0 = .ok (.aload_n 0, 1) := by decide +kernel
theorem dX9_beginDay_1 : decode cX9_beginDay 1 = .ok (.getfield 7, 3) := by decide +kernel
theorem dX9_beginDay_4 : decode cX9_beginDay 4 = .ok (.iload_n 1, 1) := by decide +kernel
theorem dX9_beginDay_5 : decode cX9_beginDay 5 = .ok (.iconst 4, 1) := by decide +kernel
theorem dX9_beginDay_6 : decode cX9_beginDay 6 = .ok (.iadd, 1) := by decide +kernel
theorem dX9_beginDay_7 : decode cX9_beginDay 7 = .ok (.iconst 0, 1) := by decide +kernel
theorem dX9_beginDay_8 : decode cX9_beginDay 8 = .ok (.iastore, 1) := by decide +kernel
theorem dX9_beginDay_9 : decode cX9_beginDay 9 = .ok (.aload_n 0, 1) := by decide +kernel
theorem dX9_beginDay_10 : decode cX9_beginDay 10 = .ok (.getfield 7, 3) := by decide +kernel
theorem dX9_beginDay_13 : decode cX9_beginDay 13 = .ok (.iload_n 1, 1) := by decide +kernel
theorem dX9_beginDay_14 : decode cX9_beginDay 14 = .ok (.iconst 5, 1) := by decide +kernel
theorem dX9_beginDay_15 : decode cX9_beginDay 15 = .ok (.iadd, 1) := by decide +kernel
theorem dX9_beginDay_16 : decode cX9_beginDay 16 = .ok (.iconst 0, 1) := by decide +kernel
theorem dX9_beginDay_17 : decode cX9_beginDay 17 = .ok (.iastore, 1) := by decide +kernel
theorem dX9_beginDay_18 : decode cX9_beginDay 18 = .ok (.aload_n 0, 1) := by decide +kernel
theorem dX9_beginDay_19 : decode cX9_beginDay 19 = .ok (.getfield 7, 3) := by decide +kernel
theorem dX9_beginDay_22 : decode cX9_beginDay 22 = .ok (.iload_n 1, 1) := by decide +kernel
theorem dX9_beginDay_23 : decode cX9_beginDay 23 = .ok (.iconst 1, 1) := by decide +kernel
theorem dX9_beginDay_24 : decode cX9_beginDay 24 = .ok (.iadd, 1) := by decide +kernel
theorem dX9_beginDay_25 : decode cX9_beginDay 25 = .ok (.dup2, 1) := by decide +kernel
theorem dX9_beginDay_26 : decode cX9_beginDay 26 = .ok (.iaload, 1) := by decide +kernel
theorem dX9_beginDay_27 : decode cX9_beginDay 27 = .ok (.iconst 1, 1) := by decide +kernel
theorem dX9_beginDay_28 : decode cX9_beginDay 28 = .ok (.iadd, 1) := by decide +kernel
theorem dX9_beginDay_29 : decode cX9_beginDay 29 = .ok (.iastore, 1) := by decide +kernel
theorem dX9_beginDay_30 : decode cX9_beginDay 30 = .ok (.return_, 1) := by decide +kernel
set_option maxRecDepth 20000 in
theorem w_X9_beginDay_b0 {w : zWd} {X : zX} {l0 : Launch} {r : Unit} {S1 : zMem} (C : zC LM w X l0 cX9_beginDay RX9 2 1 none) {x1 : Int32} {S : zMem} {ls : Array Slot} (hl : lv_has ls 2 [(0, .ref (w.2.2.1 0)), (1, .int x1)]) (h : X9_beginDay_b0 x1 S = some (r, S1)) : zV LM w X none S1 S 0 ls [] := by
  unfold X9_beginDay_b0 at h
  refine v_aload_n 0 C dX9_beginDay_0 rfl (lv_at hl 0 rfl) ?_
  refine v_getr 1 (1) C dX9_beginDay_1 fl_X9_7 rfl kM_0 rfl ?_
  refine v_iload_n 4 C dX9_beginDay_4 rfl (lv_at hl 1 rfl) ?_
  refine v_iconst 5 C (v := (4 : Int32)) dX9_beginDay_5 (by decide) ?_
  refine v_iadd 6 C dX9_beginDay_6 h (fun v1 h => ?_)
  refine v_iconst 7 C (v := (0 : Int32)) dX9_beginDay_7 (by decide) ?_
  refine v_iast 8 C dX9_beginDay_8 kM_1 rfl h (fun S h => ?_)
  refine v_aload_n 9 C dX9_beginDay_9 rfl (lv_at hl 0 rfl) ?_
  refine v_getr 10 (1) C dX9_beginDay_10 fl_X9_7 rfl kM_0 rfl ?_
  refine v_iload_n 13 C dX9_beginDay_13 rfl (lv_at hl 1 rfl) ?_
  refine v_iconst 14 C (v := (5 : Int32)) dX9_beginDay_14 (by decide) ?_
  refine v_iadd 15 C dX9_beginDay_15 h (fun v2 h => ?_)
  refine v_iconst 16 C (v := (0 : Int32)) dX9_beginDay_16 (by decide) ?_
  refine v_iast 17 C dX9_beginDay_17 kM_1 rfl h (fun S h => ?_)
  refine v_aload_n 18 C dX9_beginDay_18 rfl (lv_at hl 0 rfl) ?_
  refine v_getr 19 (1) C dX9_beginDay_19 fl_X9_7 rfl kM_0 rfl ?_
  refine v_iload_n 22 C dX9_beginDay_22 rfl (lv_at hl 1 rfl) ?_
  refine v_iconst 23 C (v := (1 : Int32)) dX9_beginDay_23 (by decide) ?_
  refine v_iadd 24 C dX9_beginDay_24 h (fun v3 h => ?_)
  refine v_dup2 25 C dX9_beginDay_25 rfl rfl ?_
  refine v_iald 26 C dX9_beginDay_26 kM_1 rfl h (fun v4 h => ?_)
  refine v_iconst 27 C (v := (1 : Int32)) dX9_beginDay_27 (by decide) ?_
  refine v_iadd 28 C dX9_beginDay_28 h (fun v5 h => ?_)
  refine v_iast 29 C dX9_beginDay_29 kM_1 rfl h (fun S h => ?_)
  exact v_return 30 C dX9_beginDay_30 h
theorem c_X9_beginDay {w : zWd} {l0 : Launch} {x1 : Int32} {S S1 : zMem} {r : Unit} (h : f_X9_beginDay x1 S = some (r, S1)) : zMet LM w l0 yX9_beginDay cX9_beginDay 2 none 1 [.ref (w.2.2.1 0), .int x1] S none S1 :=
  zMet_of (by decide +kernel) (Nat.le_of_ble_eq_true rfl) (fun X ls C hl => w_X9_beginDay_b0 C hl h)
theorem ml_X9_202 : Cond.methodLink RX9 202 yX9_bits ∈ zT := zT_of (List.mem_of_getElem? (i := 1139) (by decide +kernel)) rfl
theorem hy_X9_bits : zYs yX9_bits cX9_bits 3 (some .int) 1 := ⟨⟨zT_of (List.mem_of_getElem? (i := 1141) (by decide +kernel)) rfl, zT_of (List.mem_of_getElem? (i := 78) (by decide +kernel)) rfl, by decide, by decide +kernel, by decide +kernel, by decide +kernel⟩, zT_of (List.mem_of_getElem? (i := 1140) (by decide +kernel)) rfl⟩
theorem ml_X9_205 : Cond.methodLink RX9 205 yX9_beginDay ∈ zT := zT_of (List.mem_of_getElem? (i := 1142) (by decide +kernel)) rfl
theorem hy_X9_beginDay : zYv yX9_beginDay cX9_beginDay 2 none 1 := ⟨⟨zT_of (List.mem_of_getElem? (i := 1145) (by decide +kernel)) rfl, zT_of (List.mem_of_getElem? (i := 78) (by decide +kernel)) rfl, by decide, by decide +kernel, by decide +kernel, by decide +kernel⟩, zT_of (List.mem_of_getElem? (i := 1144) (by decide +kernel)) rfl, zT_of (List.mem_of_getElem? (i := 44) (by decide +kernel)) rfl⟩
theorem dX9_day_0 : decode cX9_day 0 = .ok (.aload_n 0, 1) := by decide +kernel
theorem dX9_day_1 : decode cX9_day 1 = .ok (.getfield 152, 3) := by decide +kernel
theorem dX9_day_4 : decode cX9_day 4 = .ok (.ifCond .ne 6, 3) := by decide +kernel
theorem dX9_day_7 : decode cX9_day 7 = .ok (.bipush (-4), 2) := by decide +kernel
theorem dX9_day_9 : decode cX9_day 9 = .ok (.ireturn, 1) := by decide +kernel
theorem dX9_day_10 : decode cX9_day 10 = .ok (.aload_n 0, 1) := by decide +kernel
theorem dX9_day_11 : decode cX9_day 11 = .ok (.getfield 7, 3) := by decide +kernel
theorem dX9_day_14 : decode cX9_day 14 = .ok (.iconst 0, 1) := by decide +kernel
theorem dX9_day_15 : decode cX9_day 15 = .ok (.iaload, 1) := by decide +kernel
theorem dX9_day_16 : decode cX9_day 16 = .ok (.bipush 40, 2) := by decide +kernel
theorem dX9_day_18 : decode cX9_day 18 = .ok (.if_icmp .ne 6, 3) := by decide +kernel
theorem dX9_day_21 : decode cX9_day 21 = .ok (.bipush (-2), 2) := by decide +kernel
theorem dX9_day_23 : decode cX9_day 23 = .ok (.ireturn, 1) := by decide +kernel
theorem dX9_day_24 : decode cX9_day 24 = .ok (.aload_n 0, 1) := by decide +kernel
theorem dX9_day_25 : decode cX9_day 25 = .ok (.invokevirtual 197, 3) := by decide +kernel
theorem dX9_day_28 : decode cX9_day 28 = .ok (.aload_n 0, 1) := by decide +kernel
theorem dX9_day_29 : decode cX9_day 29 = .ok (.getfield 7, 3) := by decide +kernel
theorem dX9_day_32 : decode cX9_day 32 = .ok (.iconst 5, 1) := by decide +kernel
theorem dX9_day_33 : decode cX9_day 33 = .ok (.iaload, 1) := by decide +kernel
theorem dX9_day_34 : decode cX9_day 34 = .ok (.invokestatic 202, 3) := by decide +kernel
theorem dX9_day_37 : decode cX9_day 37 = .ok (.istore_n 1, 1) := by decide +kernel
theorem dX9_day_38 : decode cX9_day 38 = .ok (.aload_n 0, 1) := by decide +kernel
theorem dX9_day_39 : decode cX9_day 39 = .ok (.iconst 0, 1) := by decide +kernel
theorem dX9_day_40 : decode cX9_day 40 = .ok (.invokevirtual 205, 3) := by decide +kernel
theorem dX9_day_43 : decode cX9_day 43 = .ok (.iload_n 1, 1) := by decide +kernel
theorem dX9_day_44 : decode cX9_day 44 = .ok (.ireturn, 1) := by decide +kernel
set_option maxRecDepth 20000 in
theorem w_X9_day_b0 {w : zWd} {X : zX} {l0 : Launch} {r : Int32} {S1 : zMem} (C : zC LM w X l0 cX9_day RX9 2 2 (some .int)) {S : zMem} {ls : Array Slot} (hl : lv_has ls 2 [(0, .ref (w.2.2.1 0))]) (h : X9_day_b0  S = some (r, S1)) : zV LM w X (some (.int r)) S1 S 0 ls [] := by
  unfold X9_day_b0 at h
  refine v_aload_n 0 C dX9_day_0 rfl (lv_at hl 0 rfl) ?_
  refine v_geti 1 C dX9_day_1 fl_X9_152 rfl kM_0 h (fun v1 h => ?_)
  refine v_if_ne 4 10 C dX9_day_4 (by decide) h (fun h => ?_) (fun h => ?_)
  · refine v_aload_n 10 C dX9_day_10 rfl (lv_at hl 0 rfl) ?_
    refine v_getr 11 (1) C dX9_day_11 fl_X9_7 rfl kM_0 rfl ?_
    refine v_iconst 14 C (v := (0 : Int32)) dX9_day_14 (by decide) ?_
    refine v_iald 15 C dX9_day_15 kM_1 rfl h (fun v2 h => ?_)
    refine v_bipush 16 C (v := (40 : Int32)) dX9_day_16 (by decide) ?_
    refine v_icmp_ne 18 24 C dX9_day_18 (by decide) h (fun h => ?_) (fun h => ?_)
    · refine v_aload_n 24 C dX9_day_24 rfl (lv_at hl 0 rfl) ?_
      obtain ⟨v3, S, hc, h⟩ := zb_e h
      refine v_callVv 25 C (ci := 8) [] dX9_day_25 ml_X9_197 hy_X9_keepPast (c_X9_keepPast  hc) (by decide) rfl hl.1 kM_0 rfl (Nat.le_of_ble_eq_true rfl) rfl ?_
      refine v_aload_n 28 C dX9_day_28 rfl (lv_at hl 0 rfl) ?_
      refine v_getr 29 (1) C dX9_day_29 fl_X9_7 rfl kM_0 rfl ?_
      refine v_iconst 32 C (v := (5 : Int32)) dX9_day_32 (by decide) ?_
      refine v_iald 33 C dX9_day_33 kM_1 rfl h (fun v4 h => ?_)
      obtain ⟨v5, S, hc, h⟩ := zb_e h
      refine v_callSi 34 C [] dX9_day_34 ml_X9_202 hy_X9_bits (c_X9_bits  hc) (by decide) rfl hl.1 (Nat.le_of_ble_eq_true rfl) rfl ?_
      refine v_istore_n 37 C [(1, .int v5), (0, .ref (w.2.2.1 0))] dX9_day_37 rfl hl (by decide) rfl (fun ls hl => ?_)
      refine v_aload_n 38 C dX9_day_38 rfl (lv_at hl 1 rfl) ?_
      refine v_iconst 39 C (v := (0 : Int32)) dX9_day_39 (by decide) ?_
      obtain ⟨v6, S, hc, h⟩ := zb_e h
      refine v_callVv 40 C (ci := 8) [] dX9_day_40 ml_X9_205 hy_X9_beginDay (c_X9_beginDay  hc) (by decide) rfl hl.1 kM_0 rfl (Nat.le_of_ble_eq_true rfl) rfl ?_
      refine v_iload_n 43 C dX9_day_43 rfl (lv_at hl 0 rfl) ?_
      exact v_ireturn 44 C dX9_day_44 h
    · refine v_bipush 21 C (v := (-2 : Int32)) dX9_day_21 (by decide) ?_
      exact v_ireturn 23 C dX9_day_23 h
  · refine v_bipush 7 C (v := (-4 : Int32)) dX9_day_7 (by decide) ?_
    exact v_ireturn 9 C dX9_day_9 h
theorem c_X9_day {w : zWd} {l0 : Launch} {S S1 : zMem} {r : Int32} (h : f_X9_day  S = some (r, S1)) : zMet LM w l0 yX9_day cX9_day 2 (some .int) 2 [.ref (w.2.2.1 0)] S (some (.int r)) S1 :=
  zMet_of (by decide +kernel) (Nat.le_of_ble_eq_true rfl) (fun X ls C hl => w_X9_day_b0 C hl h)
theorem dX9_undo_0 : decode cX9_undo 0 = .ok (.iload_n 1, 1) := by decide +kernel
theorem dX9_undo_1 : decode cX9_undo 1 = .ok (.i2l, 1) := by decide +kernel
theorem dX9_undo_2 : decode cX9_undo 2 = .ok (.lconst 0, 1) := by decide +kernel
theorem dX9_undo_3 : decode cX9_undo 3 = .ok (.aload_n 0, 1) := by decide +kernel
theorem dX9_undo_4 : decode cX9_undo 4 = .ok (.getfield 7, 3) := by decide +kernel
theorem dX9_undo_7 : decode cX9_undo 7 = .ok (.iconst 0, 1) := by decide +kernel
theorem dX9_undo_8 : decode cX9_undo 8 = .ok (.iaload, 1) := by decide +kernel
theorem dX9_undo_9 : decode cX9_undo 9 = .ok (.i2l, 1) := by decide +kernel
theorem dX9_undo_10 : decode cX9_undo 10 = .ok (.invokestatic 65, 3) := by decide +kernel
theorem dX9_undo_13 : decode cX9_undo 13 = .ok (.ifCond .ne 5, 3) := by decide +kernel
theorem dX9_undo_16 : decode cX9_undo 16 = .ok (.iconst (-1), 1) := by decide +kernel
theorem dX9_undo_17 : decode cX9_undo 17 = .ok (.ireturn, 1) := by decide +kernel
theorem dX9_undo_18 : decode cX9_undo 18 = .ok (.aload_n 0, 1) := by decide +kernel
theorem dX9_undo_19 : decode cX9_undo 19 = .ok (.getfield 7, 3) := by decide +kernel
theorem dX9_undo_22 : decode cX9_undo 22 = .ok (.iconst 0, 1) := by decide +kernel
theorem dX9_undo_23 : decode cX9_undo 23 = .ok (.iaload, 1) := by decide +kernel
theorem dX9_undo_24 : decode cX9_undo 24 = .ok (.iload_n 1, 1) := by decide +kernel
theorem dX9_undo_25 : decode cX9_undo 25 = .ok (.isub, 1) := by decide +kernel
theorem dX9_undo_26 : decode cX9_undo 26 = .ok (.istore_n 2, 1) := by decide +kernel
theorem dX9_undo_27 : decode cX9_undo 27 = .ok (.iconst 0, 1) := by decide +kernel
theorem dX9_undo_28 : decode cX9_undo 28 = .ok (.istore_n 3, 1) := by decide +kernel
theorem dX9_undo_29 : decode cX9_undo 29 = .ok (.iload_n 3, 1) := by decide +kernel
theorem dX9_undo_30 : decode cX9_undo 30 = .ok (.bipush 17, 2) := by decide +kernel
theorem dX9_undo_32 : decode cX9_undo 32 = .ok (.if_icmp .ge 35, 3) := by decide +kernel
theorem dX9_undo_35 : decode cX9_undo 35 = .ok (.iload_n 2, 1) := by decide +kernel
theorem dX9_undo_36 : decode cX9_undo 36 = .ok (.ifCond .le 31, 3) := by decide +kernel
theorem dX9_undo_39 : decode cX9_undo 39 = .ok (.aload_n 0, 1) := by decide +kernel
theorem dX9_undo_40 : decode cX9_undo 40 = .ok (.getfield 7, 3) := by decide +kernel
theorem dX9_undo_43 : decode cX9_undo 43 = .ok (.iconst 1, 1) := by decide +kernel
theorem dX9_undo_44 : decode cX9_undo 44 = .ok (.iload_n 3, 1) := by decide +kernel
theorem dX9_undo_45 : decode cX9_undo 45 = .ok (.iadd, 1) := by decide +kernel
theorem dX9_undo_46 : decode cX9_undo 46 = .ok (.aload_n 0, 1) := by decide +kernel
theorem dX9_undo_47 : decode cX9_undo 47 = .ok (.getfield 7, 3) := by decide +kernel
theorem dX9_undo_50 : decode cX9_undo 50 = .ok (.bipush 18, 2) := by decide +kernel
theorem dX9_undo_52 : decode cX9_undo 52 = .ok (.bipush 17, 2) := by decide +kernel
theorem dX9_undo_54 : decode cX9_undo 54 = .ok (.iload_n 1, 1) := by decide +kernel
theorem dX9_undo_55 : decode cX9_undo 55 = .ok (.imul, 1) := by decide +kernel
theorem dX9_undo_56 : decode cX9_undo 56 = .ok (.iadd, 1) := by decide +kernel
theorem dX9_undo_57 : decode cX9_undo 57 = .ok (.iload_n 3, 1) := by decide +kernel
theorem dX9_undo_58 : decode cX9_undo 58 = .ok (.iadd, 1) := by decide +kernel
theorem dX9_undo_59 : decode cX9_undo 59 = .ok (.iaload, 1) := by decide +kernel
theorem dX9_undo_60 : decode cX9_undo 60 = .ok (.iastore, 1) := by decide +kernel
theorem dX9_undo_61 : decode cX9_undo 61 = .ok (.iinc 3 1, 3) := by decide +kernel
theorem dX9_undo_64 : decode cX9_undo 64 = .ok (.goto (-35), 3) := by decide +kernel
theorem dX9_undo_67 : decode cX9_undo 67 = .ok (.aload_n 0, 1) := by decide +kernel
theorem dX9_undo_68 : decode cX9_undo 68 = .ok (.getfield 7, 3) := by decide +kernel
theorem dX9_undo_71 : decode cX9_undo 71 = .ok (.iconst 0, 1) := by decide +kernel
theorem dX9_undo_72 : decode cX9_undo 72 = .ok (.iload_n 1, 1) := by decide +kernel
theorem dX9_undo_73 : decode cX9_undo 73 = .ok (.iastore, 1) := by decide +kernel
theorem dX9_undo_74 : decode cX9_undo 74 = .ok (.iload_n 2, 1) := by decide +kernel
theorem dX9_undo_75 : decode cX9_undo 75 = .ok (.ireturn, 1) := by decide +kernel
set_option maxRecDepth 20000 in
theorem w_X9_undo_b67 {w : zWd} {X : zX} {l0 : Launch} {r : Int32} {S1 : zMem} (C : zC LM w X l0 cX9_undo RX9 4 2 (some .int)) {x1 : Int32} {x2 : Int32} {S : zMem} {ls : Array Slot} (hl : lv_has ls 4 [(0, .ref (w.2.2.1 0)), (1, .int x1), (2, .int x2)]) (h : X9_undo_b67 x1 x2 S = some (r, S1)) : zV LM w X (some (.int r)) S1 S 67 ls [] := by
  unfold X9_undo_b67 at h
  refine v_aload_n 67 C dX9_undo_67 rfl (lv_at hl 0 rfl) ?_
  refine v_getr 68 (1) C dX9_undo_68 fl_X9_7 rfl kM_0 rfl ?_
  refine v_iconst 71 C (v := (0 : Int32)) dX9_undo_71 (by decide) ?_
  refine v_iload_n 72 C dX9_undo_72 rfl (lv_at hl 1 rfl) ?_
  refine v_iast 73 C dX9_undo_73 kM_1 rfl h (fun S h => ?_)
  refine v_iload_n 74 C dX9_undo_74 rfl (lv_at hl 2 rfl) ?_
  exact v_ireturn 75 C dX9_undo_75 h
set_option maxRecDepth 20000 in
theorem w_X9_undo_b29 {w : zWd} {X : zX} {l0 : Launch} {r : Int32} {S1 : zMem} (C : zC LM w X l0 cX9_undo RX9 4 2 (some .int)) {k29 : Int32 → Int32 → Int32 → zMem → Option (Int32 × zMem)} (hc29 : ∀ (x1 : Int32) (x2 : Int32) (x3 : Int32) (S : zMem) (ls : Array Slot), lv_has ls 4 [(0, .ref (w.2.2.1 0)), (1, .int x1), (2, .int x2), (3, .int x3)] → k29 x1 x2 x3 S = some (r, S1) → zV LM w X (some (.int r)) S1 S 29 ls []) {x1 : Int32} {x2 : Int32} {x3 : Int32} {S : zMem} {ls : Array Slot} (hl : lv_has ls 4 [(0, .ref (w.2.2.1 0)), (1, .int x1), (2, .int x2), (3, .int x3)]) (h : X9_undo_b29 k29 x1 x2 x3 S = some (r, S1)) : zV LM w X (some (.int r)) S1 S 29 ls [] := by
  unfold X9_undo_b29 at h
  refine v_iload_n 29 C dX9_undo_29 rfl (lv_at hl 3 rfl) ?_
  refine v_bipush 30 C (v := (17 : Int32)) dX9_undo_30 (by decide) ?_
  refine v_icmp_ge 32 67 C dX9_undo_32 (by decide) h (fun h => ?_) (fun h => ?_)
  · exact w_X9_undo_b67 C (lv_sub hl [0, 1, 2] rfl) h
  · refine v_iload_n 35 C dX9_undo_35 rfl (lv_at hl 2 rfl) ?_
    refine v_if_le 36 67 C dX9_undo_36 (by decide) h (fun h => ?_) (fun h => ?_)
    · exact w_X9_undo_b67 C (lv_sub hl [0, 1, 2] rfl) h
    · refine v_aload_n 39 C dX9_undo_39 rfl (lv_at hl 0 rfl) ?_
      refine v_getr 40 (1) C dX9_undo_40 fl_X9_7 rfl kM_0 rfl ?_
      refine v_iconst 43 C (v := (1 : Int32)) dX9_undo_43 (by decide) ?_
      refine v_iload_n 44 C dX9_undo_44 rfl (lv_at hl 3 rfl) ?_
      refine v_iadd 45 C dX9_undo_45 h (fun v1 h => ?_)
      refine v_aload_n 46 C dX9_undo_46 rfl (lv_at hl 0 rfl) ?_
      refine v_getr 47 (1) C dX9_undo_47 fl_X9_7 rfl kM_0 rfl ?_
      refine v_bipush 50 C (v := (18 : Int32)) dX9_undo_50 (by decide) ?_
      refine v_bipush 52 C (v := (17 : Int32)) dX9_undo_52 (by decide) ?_
      refine v_iload_n 54 C dX9_undo_54 rfl (lv_at hl 1 rfl) ?_
      refine v_imul 55 C dX9_undo_55 h (fun v2 h => ?_)
      refine v_iadd 56 C dX9_undo_56 h (fun v3 h => ?_)
      refine v_iload_n 57 C dX9_undo_57 rfl (lv_at hl 3 rfl) ?_
      refine v_iadd 58 C dX9_undo_58 h (fun v4 h => ?_)
      refine v_iald 59 C dX9_undo_59 kM_1 rfl h (fun v5 h => ?_)
      refine v_iast 60 C dX9_undo_60 kM_1 rfl h (fun S h => ?_)
      refine v_iinc 61 C (nn := (1 : Int32)) (fun v => [(3, .int v), (0, .ref (w.2.2.1 0)), (1, .int x1), (2, .int x2)]) dX9_undo_61 hl (k := 3) rfl (by decide) (by decide) (fun _ => rfl) h (fun v6 ls hl h => ?_)
      refine v_goto 64 29 C dX9_undo_64 (by decide) ?_
      exact hc29 _ _ _ _ _ (lv_sub hl [1, 2, 3, 0] rfl) h
theorem w_X9_undo_l29 {w : zWd} {X : zX} {l0 : Launch} {r : Int32} {S1 : zMem} (C : zC LM w X l0 cX9_undo RX9 4 2 (some .int)) : ∀ (n : Nat) (x1 : Int32) (x2 : Int32) (x3 : Int32) (S : zMem) (ls : Array Slot), lv_has ls 4 [(0, .ref (w.2.2.1 0)), (1, .int x1), (2, .int x2), (3, .int x3)] → X9_undo_l29 n x1 x2 x3 S = some (r, S1) → zV LM w X (some (.int r)) S1 S 29 ls [] := by
  intro n
  induction n with
  | zero =>
    intro x1 x2 x3 S ls hl h
    cases (show (none : Option (Int32 × zMem)) = some _ from h)
  | succ n ih =>
    intro x1 x2 x3 S ls hl h
    exact w_X9_undo_b29 C ih hl h
set_option maxRecDepth 20000 in
theorem w_X9_undo_b0 {w : zWd} {X : zX} {l0 : Launch} {r : Int32} {S1 : zMem} (C : zC LM w X l0 cX9_undo RX9 4 2 (some .int)) {x1 : Int32} {S : zMem} {ls : Array Slot} (hl : lv_has ls 4 [(0, .ref (w.2.2.1 0)), (1, .int x1)]) (h : X9_undo_b0 x1 S = some (r, S1)) : zV LM w X (some (.int r)) S1 S 0 ls [] := by
  unfold X9_undo_b0 at h
  refine v_iload_n 0 C dX9_undo_0 rfl (lv_at hl 1 rfl) ?_
  refine v_i2l 1 C dX9_undo_1 h (fun v1 h => ?_)
  refine v_lconst 2 C (v := 0) dX9_undo_2 (by decide) ?_
  refine v_aload_n 3 C dX9_undo_3 rfl (lv_at hl 0 rfl) ?_
  refine v_getr 4 (1) C dX9_undo_4 fl_X9_7 rfl kM_0 rfl ?_
  refine v_iconst 7 C (v := (0 : Int32)) dX9_undo_7 (by decide) ?_
  refine v_iald 8 C dX9_undo_8 kM_1 rfl h (fun v2 h => ?_)
  refine v_i2l 9 C dX9_undo_9 h (fun v3 h => ?_)
  obtain ⟨v4, S, hc, h⟩ := zb_e h
  refine v_callSi 10 C [] dX9_undo_10 ml_X9_65 hy_X9_in (c_X9_in  hc) (by decide) rfl hl.1 (Nat.le_of_ble_eq_true rfl) rfl ?_
  refine v_if_ne 13 18 C dX9_undo_13 (by decide) h (fun h => ?_) (fun h => ?_)
  · refine v_aload_n 18 C dX9_undo_18 rfl (lv_at hl 0 rfl) ?_
    refine v_getr 19 (1) C dX9_undo_19 fl_X9_7 rfl kM_0 rfl ?_
    refine v_iconst 22 C (v := (0 : Int32)) dX9_undo_22 (by decide) ?_
    refine v_iald 23 C dX9_undo_23 kM_1 rfl h (fun v5 h => ?_)
    refine v_iload_n 24 C dX9_undo_24 rfl (lv_at hl 1 rfl) ?_
    refine v_isub 25 C dX9_undo_25 h (fun v6 h => ?_)
    refine v_istore_n 26 C [(2, .int v6), (0, .ref (w.2.2.1 0)), (1, .int x1)] dX9_undo_26 rfl hl (by decide) rfl (fun ls hl => ?_)
    refine v_iconst 27 C (v := (0 : Int32)) dX9_undo_27 (by decide) ?_
    refine v_istore_n 28 C [(3, .int (0 : Int32)), (2, .int v6), (0, .ref (w.2.2.1 0)), (1, .int x1)] dX9_undo_28 rfl hl (by decide) rfl (fun ls hl => ?_)
    exact w_X9_undo_l29 C zF _ _ _ _ _ (lv_sub hl [2, 3, 1, 0] rfl) h
  · refine v_iconst 16 C (v := (-1 : Int32)) dX9_undo_16 (by decide) ?_
    exact v_ireturn 17 C dX9_undo_17 h
theorem c_X9_undo {w : zWd} {l0 : Launch} {x1 : Int32} {S S1 : zMem} {r : Int32} (h : f_X9_undo x1 S = some (r, S1)) : zMet LM w l0 yX9_undo cX9_undo 4 (some .int) 2 [.ref (w.2.2.1 0), .int x1] S (some (.int r)) S1 :=
  zMet_of (by decide +kernel) (Nat.le_of_ble_eq_true rfl) (fun X ls C hl => w_X9_undo_b0 C hl h)
theorem dX9_copyPost_0 : decode cX9_copyPost 0 = .ok (.iconst 0, 1) := by decide +kernel
theorem dX9_copyPost_1 : decode cX9_copyPost 1 = .ok (.istore_n 3, 1) := by decide +kernel
theorem dX9_copyPost_2 : decode cX9_copyPost 2 = .ok (.iload_n 3, 1) := by decide +kernel
theorem dX9_copyPost_3 : decode cX9_copyPost 3 = .ok (.sipush 698, 3) := by decide +kernel
theorem dX9_copyPost_6 : decode cX9_copyPost 6 = .ok (.if_icmp .ge 25, 3) := by decide +kernel
theorem dX9_copyPost_9 : decode cX9_copyPost 9 = .ok (.aload_n 0, 1) := by decide +kernel
theorem dX9_copyPost_10 : decode cX9_copyPost 10 = .ok (.getfield 7, 3) := by decide +kernel
theorem dX9_copyPost_13 : decode cX9_copyPost 13 = .ok (.iload_n 2, 1) := by decide +kernel
theorem dX9_copyPost_14 : decode cX9_copyPost 14 = .ok (.iload_n 3, 1) := by decide +kernel
theorem dX9_copyPost_15 : decode cX9_copyPost 15 = .ok (.iadd, 1) := by decide +kernel
theorem dX9_copyPost_16 : decode cX9_copyPost 16 = .ok (.aload_n 0, 1) := by decide +kernel
theorem dX9_copyPost_17 : decode cX9_copyPost 17 = .ok (.getfield 7, 3) := by decide +kernel
theorem dX9_copyPost_20 : decode cX9_copyPost 20 = .ok (.iload_n 1, 1) := by decide +kernel
theorem dX9_copyPost_21 : decode cX9_copyPost 21 = .ok (.iload_n 3, 1) := by decide +kernel
theorem dX9_copyPost_22 : decode cX9_copyPost 22 = .ok (.iadd, 1) := by decide +kernel
theorem dX9_copyPost_23 : decode cX9_copyPost 23 = .ok (.iaload, 1) := by decide +kernel
theorem dX9_copyPost_24 : decode cX9_copyPost 24 = .ok (.iastore, 1) := by decide +kernel
theorem dX9_copyPost_25 : decode cX9_copyPost 25 = .ok (.iinc 3 1, 3) := by decide +kernel
theorem dX9_copyPost_28 : decode cX9_copyPost 28 = .ok (.goto (-26), 3) := by decide +kernel
theorem dX9_copyPost_31 : decode cX9_copyPost 31 = .ok (.return_, 1) := by decide +kernel
set_option maxRecDepth 20000 in
theorem w_X9_copyPost_b2 {w : zWd} {X : zX} {l0 : Launch} {r : Unit} {S1 : zMem} (C : zC LM w X l0 cX9_copyPost RX9 4 1 none) {k2 : Int32 → Int32 → Int32 → zMem → Option (Unit × zMem)} (hc2 : ∀ (x1 : Int32) (x2 : Int32) (x3 : Int32) (S : zMem) (ls : Array Slot), lv_has ls 4 [(0, .ref (w.2.2.1 0)), (1, .int x1), (2, .int x2), (3, .int x3)] → k2 x1 x2 x3 S = some (r, S1) → zV LM w X none S1 S 2 ls []) {x1 : Int32} {x2 : Int32} {x3 : Int32} {S : zMem} {ls : Array Slot} (hl : lv_has ls 4 [(0, .ref (w.2.2.1 0)), (1, .int x1), (2, .int x2), (3, .int x3)]) (h : X9_copyPost_b2 k2 x1 x2 x3 S = some (r, S1)) : zV LM w X none S1 S 2 ls [] := by
  unfold X9_copyPost_b2 at h
  refine v_iload_n 2 C dX9_copyPost_2 rfl (lv_at hl 3 rfl) ?_
  refine v_sipush 3 C (v := (698 : Int32)) dX9_copyPost_3 (by decide) ?_
  refine v_icmp_ge 6 31 C dX9_copyPost_6 (by decide) h (fun h => ?_) (fun h => ?_)
  · exact v_return 31 C dX9_copyPost_31 h
  · refine v_aload_n 9 C dX9_copyPost_9 rfl (lv_at hl 0 rfl) ?_
    refine v_getr 10 (1) C dX9_copyPost_10 fl_X9_7 rfl kM_0 rfl ?_
    refine v_iload_n 13 C dX9_copyPost_13 rfl (lv_at hl 2 rfl) ?_
    refine v_iload_n 14 C dX9_copyPost_14 rfl (lv_at hl 3 rfl) ?_
    refine v_iadd 15 C dX9_copyPost_15 h (fun v1 h => ?_)
    refine v_aload_n 16 C dX9_copyPost_16 rfl (lv_at hl 0 rfl) ?_
    refine v_getr 17 (1) C dX9_copyPost_17 fl_X9_7 rfl kM_0 rfl ?_
    refine v_iload_n 20 C dX9_copyPost_20 rfl (lv_at hl 1 rfl) ?_
    refine v_iload_n 21 C dX9_copyPost_21 rfl (lv_at hl 3 rfl) ?_
    refine v_iadd 22 C dX9_copyPost_22 h (fun v2 h => ?_)
    refine v_iald 23 C dX9_copyPost_23 kM_1 rfl h (fun v3 h => ?_)
    refine v_iast 24 C dX9_copyPost_24 kM_1 rfl h (fun S h => ?_)
    refine v_iinc 25 C (nn := (1 : Int32)) (fun v => [(3, .int v), (0, .ref (w.2.2.1 0)), (1, .int x1), (2, .int x2)]) dX9_copyPost_25 hl (k := 3) rfl (by decide) (by decide) (fun _ => rfl) h (fun v4 ls hl h => ?_)
    refine v_goto 28 2 C dX9_copyPost_28 (by decide) ?_
    exact hc2 _ _ _ _ _ (lv_sub hl [1, 2, 3, 0] rfl) h
theorem w_X9_copyPost_l2 {w : zWd} {X : zX} {l0 : Launch} {r : Unit} {S1 : zMem} (C : zC LM w X l0 cX9_copyPost RX9 4 1 none) : ∀ (n : Nat) (x1 : Int32) (x2 : Int32) (x3 : Int32) (S : zMem) (ls : Array Slot), lv_has ls 4 [(0, .ref (w.2.2.1 0)), (1, .int x1), (2, .int x2), (3, .int x3)] → X9_copyPost_l2 n x1 x2 x3 S = some (r, S1) → zV LM w X none S1 S 2 ls [] := by
  intro n
  induction n with
  | zero =>
    intro x1 x2 x3 S ls hl h
    cases (show (none : Option (Unit × zMem)) = some _ from h)
  | succ n ih =>
    intro x1 x2 x3 S ls hl h
    exact w_X9_copyPost_b2 C ih hl h
set_option maxRecDepth 20000 in
theorem w_X9_copyPost_b0 {w : zWd} {X : zX} {l0 : Launch} {r : Unit} {S1 : zMem} (C : zC LM w X l0 cX9_copyPost RX9 4 1 none) {x1 : Int32} {x2 : Int32} {S : zMem} {ls : Array Slot} (hl : lv_has ls 4 [(0, .ref (w.2.2.1 0)), (1, .int x1), (2, .int x2)]) (h : X9_copyPost_b0 x1 x2 S = some (r, S1)) : zV LM w X none S1 S 0 ls [] := by
  unfold X9_copyPost_b0 at h
  refine v_iconst 0 C (v := (0 : Int32)) dX9_copyPost_0 (by decide) ?_
  refine v_istore_n 1 C [(3, .int (0 : Int32)), (0, .ref (w.2.2.1 0)), (1, .int x1), (2, .int x2)] dX9_copyPost_1 rfl hl (by decide) rfl (fun ls hl => ?_)
  exact w_X9_copyPost_l2 C zF _ _ _ _ _ (lv_sub hl [1, 2, 3, 0] rfl) h
theorem c_X9_copyPost {w : zWd} {l0 : Launch} {x1 : Int32} {x2 : Int32} {S S1 : zMem} {r : Unit} (h : f_X9_copyPost x1 x2 S = some (r, S1)) : zMet LM w l0 yX9_copyPost cX9_copyPost 4 none 1 [.ref (w.2.2.1 0), .int x1, .int x2] S none S1 :=
  zMet_of (by decide +kernel) (Nat.le_of_ble_eq_true rfl) (fun X ls C hl => w_X9_copyPost_b0 C hl h)
theorem ml_X9_209 : Cond.methodLink RX9 209 yX9_copyPost ∈ zT := zT_of (List.mem_of_getElem? (i := 1154) (by decide +kernel)) rfl
theorem hy_X9_copyPost : zYv yX9_copyPost cX9_copyPost 4 none 2 := ⟨⟨zT_of (List.mem_of_getElem? (i := 1157) (by decide +kernel)) rfl, zT_of (List.mem_of_getElem? (i := 78) (by decide +kernel)) rfl, by decide, by decide +kernel, by decide +kernel, by decide +kernel⟩, zT_of (List.mem_of_getElem? (i := 1156) (by decide +kernel)) rfl, zT_of (List.mem_of_getElem? (i := 45) (by decide +kernel)) rfl⟩
theorem dX9_keep_0 : decode cX9_keep 0 = .ok (.iload_n 1, 1) := by decide +kernel
theorem dX9_keep_1 : decode cX9_keep 1 = .ok (.i2l, 1) := by decide +kernel
theorem dX9_keep_2 : decode cX9_keep 2 = .ok (.lconst 0, 1) := by decide +kernel
theorem dX9_keep_3 : decode cX9_keep 3 = .ok (.ldc2_w 171, 3) := by decide +kernel
theorem dX9_keep_6 : decode cX9_keep 6 = .ok (.invokestatic 65, 3) := by decide +kernel
theorem dX9_keep_9 : decode cX9_keep 9 = .ok (.ifCond .ne 5, 3) := by decide +kernel
theorem dX9_keep_12 : decode cX9_keep 12 = .ok (.iconst (-1), 1) := by decide +kernel
theorem dX9_keep_13 : decode cX9_keep 13 = .ok (.ireturn, 1) := by decide +kernel
theorem dX9_keep_14 : decode cX9_keep 14 = .ok (.aload_n 0, 1) := by decide +kernel
theorem dX9_keep_15 : decode cX9_keep 15 = .ok (.getfield 152, 3) := by decide +kernel
theorem dX9_keep_18 : decode cX9_keep 18 = .ok (.ifCond .ne 6, 3) := by decide +kernel
theorem dX9_keep_21 : decode cX9_keep 21 = .ok (.bipush (-4), 2) := by decide +kernel
theorem dX9_keep_23 : decode cX9_keep 23 = .ok (.ireturn, 1) := by decide +kernel
theorem dX9_keep_24 : decode cX9_keep 24 = .ok (.aload_n 0, 1) := by decide +kernel
theorem dX9_keep_25 : decode cX9_keep 25 = .ok (.iconst 0, 1) := by decide +kernel
theorem dX9_keep_26 : decode cX9_keep 26 = .ok (.sipush 698, 3) := by decide +kernel
theorem dX9_keep_29 : decode cX9_keep 29 = .ok (.iconst 1, 1) := by decide +kernel
theorem dX9_keep_30 : decode cX9_keep 30 = .ok (.iload_n 1, 1) := by decide +kernel
theorem dX9_keep_31 : decode cX9_keep 31 = .ok (.iadd, 1) := by decide +kernel
theorem dX9_keep_32 : decode cX9_keep 32 = .ok (.imul, 1) := by decide +kernel
theorem dX9_keep_33 : decode cX9_keep 33 = .ok (.invokevirtual 209, 3) := by decide +kernel
theorem dX9_keep_36 : decode cX9_keep 36 = .ok (.aload_n 0, 1) := by decide +kernel
theorem dX9_keep_37 : decode cX9_keep 37 = .ok (.getfield 7, 3) := by decide +kernel
theorem dX9_keep_40 : decode cX9_keep 40 = .ok (.iconst 0, 1) := by decide +kernel
theorem dX9_keep_41 : decode cX9_keep 41 = .ok (.iaload, 1) := by decide +kernel
theorem dX9_keep_42 : decode cX9_keep 42 = .ok (.ireturn, 1) := by decide +kernel
set_option maxRecDepth 20000 in
theorem w_X9_keep_b0 {w : zWd} {X : zX} {l0 : Launch} {r : Int32} {S1 : zMem} (C : zC LM w X l0 cX9_keep RX9 2 2 (some .int)) {x1 : Int32} {S : zMem} {ls : Array Slot} (hl : lv_has ls 2 [(0, .ref (w.2.2.1 0)), (1, .int x1)]) (h : X9_keep_b0 x1 S = some (r, S1)) : zV LM w X (some (.int r)) S1 S 0 ls [] := by
  unfold X9_keep_b0 at h
  refine v_iload_n 0 C dX9_keep_0 rfl (lv_at hl 1 rfl) ?_
  refine v_i2l 1 C dX9_keep_1 h (fun v1 h => ?_)
  refine v_lconst 2 C (v := 0) dX9_keep_2 (by decide) ?_
  refine v_ldc2 3 C (v := 2) dX9_keep_3 co_X9_171 ?_
  obtain ⟨v2, S, hc, h⟩ := zb_e h
  refine v_callSi 6 C [] dX9_keep_6 ml_X9_65 hy_X9_in (c_X9_in  hc) (by decide) rfl hl.1 (Nat.le_of_ble_eq_true rfl) rfl ?_
  refine v_if_ne 9 14 C dX9_keep_9 (by decide) h (fun h => ?_) (fun h => ?_)
  · refine v_aload_n 14 C dX9_keep_14 rfl (lv_at hl 0 rfl) ?_
    refine v_geti 15 C dX9_keep_15 fl_X9_152 rfl kM_0 h (fun v3 h => ?_)
    refine v_if_ne 18 24 C dX9_keep_18 (by decide) h (fun h => ?_) (fun h => ?_)
    · refine v_aload_n 24 C dX9_keep_24 rfl (lv_at hl 0 rfl) ?_
      refine v_iconst 25 C (v := (0 : Int32)) dX9_keep_25 (by decide) ?_
      refine v_sipush 26 C (v := (698 : Int32)) dX9_keep_26 (by decide) ?_
      refine v_iconst 29 C (v := (1 : Int32)) dX9_keep_29 (by decide) ?_
      refine v_iload_n 30 C dX9_keep_30 rfl (lv_at hl 1 rfl) ?_
      refine v_iadd 31 C dX9_keep_31 h (fun v4 h => ?_)
      refine v_imul 32 C dX9_keep_32 h (fun v5 h => ?_)
      obtain ⟨v6, S, hc, h⟩ := zb_e h
      refine v_callVv 33 C (ci := 8) [] dX9_keep_33 ml_X9_209 hy_X9_copyPost (c_X9_copyPost  hc) (by decide) rfl hl.1 kM_0 rfl (Nat.le_of_ble_eq_true rfl) rfl ?_
      refine v_aload_n 36 C dX9_keep_36 rfl (lv_at hl 0 rfl) ?_
      refine v_getr 37 (1) C dX9_keep_37 fl_X9_7 rfl kM_0 rfl ?_
      refine v_iconst 40 C (v := (0 : Int32)) dX9_keep_40 (by decide) ?_
      refine v_iald 41 C dX9_keep_41 kM_1 rfl h (fun v7 h => ?_)
      exact v_ireturn 42 C dX9_keep_42 h
    · refine v_bipush 21 C (v := (-4 : Int32)) dX9_keep_21 (by decide) ?_
      exact v_ireturn 23 C dX9_keep_23 h
  · refine v_iconst 12 C (v := (-1 : Int32)) dX9_keep_12 (by decide) ?_
    exact v_ireturn 13 C dX9_keep_13 h
theorem c_X9_keep {w : zWd} {l0 : Launch} {x1 : Int32} {S S1 : zMem} {r : Int32} (h : f_X9_keep x1 S = some (r, S1)) : zMet LM w l0 yX9_keep cX9_keep 2 (some .int) 2 [.ref (w.2.2.1 0), .int x1] S (some (.int r)) S1 :=
  zMet_of (by decide +kernel) (Nat.le_of_ble_eq_true rfl) (fun X ls C hl => w_X9_keep_b0 C hl h)
theorem dX9_on_0 : decode cX9_on 0 = .ok (.iload_n 1, 1) := by decide +kernel
theorem dX9_on_1 : decode cX9_on 1 = .ok (.i2l, 1) := by decide +kernel
theorem dX9_on_2 : decode cX9_on 2 = .ok (.lconst 0, 1) := by decide +kernel
theorem dX9_on_3 : decode cX9_on 3 = .ok (.ldc2_w 171, 3) := by decide +kernel
theorem dX9_on_6 : decode cX9_on 6 = .ok (.invokestatic 65, 3) := by decide +kernel
theorem dX9_on_9 : decode cX9_on 9 = .ok (.ifCond .ne 5, 3) := by decide +kernel
theorem dX9_on_12 : decode cX9_on 12 = .ok (.iconst (-1), 1) := by decide +kernel
theorem dX9_on_13 : decode cX9_on 13 = .ok (.ireturn, 1) := by decide +kernel
theorem dX9_on_14 : decode cX9_on 14 = .ok (.aload_n 0, 1) := by decide +kernel
theorem dX9_on_15 : decode cX9_on 15 = .ok (.getfield 7, 3) := by decide +kernel
theorem dX9_on_18 : decode cX9_on 18 = .ok (.sipush 698, 3) := by decide +kernel
theorem dX9_on_21 : decode cX9_on 21 = .ok (.iconst 1, 1) := by decide +kernel
theorem dX9_on_22 : decode cX9_on 22 = .ok (.iload_n 1, 1) := by decide +kernel
theorem dX9_on_23 : decode cX9_on 23 = .ok (.iadd, 1) := by decide +kernel
theorem dX9_on_24 : decode cX9_on 24 = .ok (.imul, 1) := by decide +kernel
theorem dX9_on_25 : decode cX9_on 25 = .ok (.iconst 0, 1) := by decide +kernel
theorem dX9_on_26 : decode cX9_on 26 = .ok (.iadd, 1) := by decide +kernel
theorem dX9_on_27 : decode cX9_on 27 = .ok (.iaload, 1) := by decide +kernel
theorem dX9_on_28 : decode cX9_on 28 = .ok (.ifCond .ge 9, 3) := by decide +kernel
theorem dX9_on_31 : decode cX9_on 31 = .ok (.aload_n 0, 1) := by decide +kernel
theorem dX9_on_32 : decode cX9_on 32 = .ok (.iconst 1, 1) := by decide +kernel
theorem dX9_on_33 : decode cX9_on 33 = .ok (.invokevirtual 75, 3) := by decide +kernel
theorem dX9_on_36 : decode cX9_on 36 = .ok (.ireturn, 1) := by decide +kernel
theorem dX9_on_37 : decode cX9_on 37 = .ok (.aload_n 0, 1) := by decide +kernel
theorem dX9_on_38 : decode cX9_on 38 = .ok (.sipush 698, 3) := by decide +kernel
theorem dX9_on_41 : decode cX9_on 41 = .ok (.iconst 1, 1) := by decide +kernel
theorem dX9_on_42 : decode cX9_on 42 = .ok (.iload_n 1, 1) := by decide +kernel
theorem dX9_on_43 : decode cX9_on 43 = .ok (.iadd, 1) := by decide +kernel
theorem dX9_on_44 : decode cX9_on 44 = .ok (.imul, 1) := by decide +kernel
theorem dX9_on_45 : decode cX9_on 45 = .ok (.iconst 0, 1) := by decide +kernel
theorem dX9_on_46 : decode cX9_on 46 = .ok (.invokevirtual 209, 3) := by decide +kernel
theorem dX9_on_49 : decode cX9_on 49 = .ok (.aload_n 0, 1) := by decide +kernel
theorem dX9_on_50 : decode cX9_on 50 = .ok (.getfield 7, 3) := by decide +kernel
theorem dX9_on_53 : decode cX9_on 53 = .ok (.iconst 0, 1) := by decide +kernel
theorem dX9_on_54 : decode cX9_on 54 = .ok (.iaload, 1) := by decide +kernel
theorem dX9_on_55 : decode cX9_on 55 = .ok (.ireturn, 1) := by decide +kernel
set_option maxRecDepth 20000 in
theorem w_X9_on_b0 {w : zWd} {X : zX} {l0 : Launch} {r : Int32} {S1 : zMem} (C : zC LM w X l0 cX9_on RX9 2 2 (some .int)) {x1 : Int32} {S : zMem} {ls : Array Slot} (hl : lv_has ls 2 [(0, .ref (w.2.2.1 0)), (1, .int x1)]) (h : X9_on_b0 x1 S = some (r, S1)) : zV LM w X (some (.int r)) S1 S 0 ls [] := by
  unfold X9_on_b0 at h
  refine v_iload_n 0 C dX9_on_0 rfl (lv_at hl 1 rfl) ?_
  refine v_i2l 1 C dX9_on_1 h (fun v1 h => ?_)
  refine v_lconst 2 C (v := 0) dX9_on_2 (by decide) ?_
  refine v_ldc2 3 C (v := 2) dX9_on_3 co_X9_171 ?_
  obtain ⟨v2, S, hc, h⟩ := zb_e h
  refine v_callSi 6 C [] dX9_on_6 ml_X9_65 hy_X9_in (c_X9_in  hc) (by decide) rfl hl.1 (Nat.le_of_ble_eq_true rfl) rfl ?_
  refine v_if_ne 9 14 C dX9_on_9 (by decide) h (fun h => ?_) (fun h => ?_)
  · refine v_aload_n 14 C dX9_on_14 rfl (lv_at hl 0 rfl) ?_
    refine v_getr 15 (1) C dX9_on_15 fl_X9_7 rfl kM_0 rfl ?_
    refine v_sipush 18 C (v := (698 : Int32)) dX9_on_18 (by decide) ?_
    refine v_iconst 21 C (v := (1 : Int32)) dX9_on_21 (by decide) ?_
    refine v_iload_n 22 C dX9_on_22 rfl (lv_at hl 1 rfl) ?_
    refine v_iadd 23 C dX9_on_23 h (fun v3 h => ?_)
    refine v_imul 24 C dX9_on_24 h (fun v4 h => ?_)
    refine v_iconst 25 C (v := (0 : Int32)) dX9_on_25 (by decide) ?_
    refine v_iadd 26 C dX9_on_26 h (fun v5 h => ?_)
    refine v_iald 27 C dX9_on_27 kM_1 rfl h (fun v6 h => ?_)
    refine v_if_ge 28 37 C dX9_on_28 (by decide) h (fun h => ?_) (fun h => ?_)
    · refine v_aload_n 37 C dX9_on_37 rfl (lv_at hl 0 rfl) ?_
      refine v_sipush 38 C (v := (698 : Int32)) dX9_on_38 (by decide) ?_
      refine v_iconst 41 C (v := (1 : Int32)) dX9_on_41 (by decide) ?_
      refine v_iload_n 42 C dX9_on_42 rfl (lv_at hl 1 rfl) ?_
      refine v_iadd 43 C dX9_on_43 h (fun v7 h => ?_)
      refine v_imul 44 C dX9_on_44 h (fun v8 h => ?_)
      refine v_iconst 45 C (v := (0 : Int32)) dX9_on_45 (by decide) ?_
      obtain ⟨v9, S, hc, h⟩ := zb_e h
      refine v_callVv 46 C (ci := 8) [] dX9_on_46 ml_X9_209 hy_X9_copyPost (c_X9_copyPost  hc) (by decide) rfl hl.1 kM_0 rfl (Nat.le_of_ble_eq_true rfl) rfl ?_
      refine v_aload_n 49 C dX9_on_49 rfl (lv_at hl 0 rfl) ?_
      refine v_getr 50 (1) C dX9_on_50 fl_X9_7 rfl kM_0 rfl ?_
      refine v_iconst 53 C (v := (0 : Int32)) dX9_on_53 (by decide) ?_
      refine v_iald 54 C dX9_on_54 kM_1 rfl h (fun v10 h => ?_)
      exact v_ireturn 55 C dX9_on_55 h
    · refine v_aload_n 31 C dX9_on_31 rfl (lv_at hl 0 rfl) ?_
      refine v_iconst 32 C (v := (1 : Int32)) dX9_on_32 (by decide) ?_
      obtain ⟨v11, S, hc, h⟩ := zb_e h
      refine v_callVi 33 C (ci := 8) [] dX9_on_33 ml_X9_75 hy_X9_find (c_X9_find  hc) (by decide) rfl hl.1 kM_0 rfl (Nat.le_of_ble_eq_true rfl) rfl ?_
      exact v_ireturn 36 C dX9_on_36 h
  · refine v_iconst 12 C (v := (-1 : Int32)) dX9_on_12 (by decide) ?_
    exact v_ireturn 13 C dX9_on_13 h
theorem c_X9_on {w : zWd} {l0 : Launch} {x1 : Int32} {S S1 : zMem} {r : Int32} (h : f_X9_on x1 S = some (r, S1)) : zMet LM w l0 yX9_on cX9_on 2 (some .int) 2 [.ref (w.2.2.1 0), .int x1] S (some (.int r)) S1 :=
  zMet_of (by decide +kernel) (Nat.le_of_ble_eq_true rfl) (fun X ls C hl => w_X9_on_b0 C hl h)
theorem dX9_ends_0 : decode cX9_ends 0 = .ok (.aload_n 0, 1) := by decide +kernel
theorem dX9_ends_1 : decode cX9_ends 1 = .ok (.iload_n 1, 1) := by decide +kernel
theorem dX9_ends_2 : decode cX9_ends 2 = .ok (.invokevirtual 186, 3) := by decide +kernel
theorem dX9_ends_5 : decode cX9_ends 5 = .ok (.ifCond .eq 41, 3) := by decide +kernel
theorem dX9_ends_8 : decode cX9_ends 8 = .ok (.iload_n 2, 1) := by decide +kernel
theorem dX9_ends_9 : decode cX9_ends 9 = .ok (.i2l, 1) := by decide +kernel
theorem dX9_ends_10 : decode cX9_ends 10 = .ok (.lconst 0, 1) := by decide +kernel
theorem dX9_ends_11 : decode cX9_ends 11 = .ok (.ldc2_w 200, 3) := by decide +kernel
theorem dX9_ends_14 : decode cX9_ends 14 = .ok (.invokestatic 65, 3) := by decide +kernel
theorem dX9_ends_17 : decode cX9_ends 17 = .ok (.ifCond .eq 29, 3) := by decide +kernel
theorem dX9_ends_20 : decode cX9_ends 20 = .ok (.iload_n 3, 1) := by decide +kernel
theorem dX9_ends_21 : decode cX9_ends 21 = .ok (.i2l, 1) := by decide +kernel
theorem dX9_ends_22 : decode cX9_ends 22 = .ok (.lconst 0, 1) := by decide +kernel
theorem dX9_ends_23 : decode cX9_ends 23 = .ok (.ldc2_w 200, 3) := by decide +kernel
theorem dX9_ends_26 : decode cX9_ends 26 = .ok (.invokestatic 65, 3) := by decide +kernel
theorem dX9_ends_29 : decode cX9_ends 29 = .ok (.ifCond .eq 17, 3) := by decide +kernel
theorem dX9_ends_32 : decode cX9_ends 32 = .ok (.aload_n 0, 1) := by decide +kernel
theorem dX9_ends_33 : decode cX9_ends 33 = .ok (.getfield 13, 3) := by decide +kernel
theorem dX9_ends_36 : decode cX9_ends 36 = .ok (.iload_n 1, 1) := by decide +kernel
theorem dX9_ends_37 : decode cX9_ends 37 = .ok (.iaload, 1) := by decide +kernel
theorem dX9_ends_38 : decode cX9_ends 38 = .ok (.iload_n 2, 1) := by decide +kernel
theorem dX9_ends_39 : decode cX9_ends 39 = .ok (.iload_n 3, 1) := by decide +kernel
theorem dX9_ends_40 : decode cX9_ends 40 = .ok (.invokestatic 161, 3) := by decide +kernel
theorem dX9_ends_43 : decode cX9_ends 43 = .ok (.goto 4, 3) := by decide +kernel
theorem dX9_ends_46 : decode cX9_ends 46 = .ok (.iconst (-1), 1) := by decide +kernel
theorem dX9_ends_47 : decode cX9_ends 47 = .ok (.ireturn, 1) := by decide +kernel
set_option maxRecDepth 20000 in
theorem w_X9_ends_b47 {w : zWd} {X : zX} {l0 : Launch} {r : Int32} {S1 : zMem} (C : zC LM w X l0 cX9_ends RX9 4 3 (some .int)) {s0 : Int32} {S : zMem} {ls : Array Slot} (hl : lv_has ls 4 []) (h : X9_ends_b47 s0 S = some (r, S1)) : zV LM w X (some (.int r)) S1 S 47 ls [.int s0] := by
  unfold X9_ends_b47 at h
  exact v_ireturn 47 C dX9_ends_47 h
set_option maxRecDepth 20000 in
theorem w_X9_ends_b46 {w : zWd} {X : zX} {l0 : Launch} {r : Int32} {S1 : zMem} (C : zC LM w X l0 cX9_ends RX9 4 3 (some .int)) {S : zMem} {ls : Array Slot} (hl : lv_has ls 4 []) (h : X9_ends_b46  S = some (r, S1)) : zV LM w X (some (.int r)) S1 S 46 ls [] := by
  unfold X9_ends_b46 at h
  refine v_iconst 46 C (v := (-1 : Int32)) dX9_ends_46 (by decide) ?_
  exact w_X9_ends_b47 C (lv_sub hl [] rfl) h
set_option maxRecDepth 20000 in
theorem w_X9_ends_b0 {w : zWd} {X : zX} {l0 : Launch} {r : Int32} {S1 : zMem} (C : zC LM w X l0 cX9_ends RX9 4 3 (some .int)) {x1 : Int32} {x2 : Int32} {x3 : Int32} {S : zMem} {ls : Array Slot} (hl : lv_has ls 4 [(0, .ref (w.2.2.1 0)), (1, .int x1), (2, .int x2), (3, .int x3)]) (h : X9_ends_b0 x1 x2 x3 S = some (r, S1)) : zV LM w X (some (.int r)) S1 S 0 ls [] := by
  unfold X9_ends_b0 at h
  refine v_aload_n 0 C dX9_ends_0 rfl (lv_at hl 0 rfl) ?_
  refine v_iload_n 1 C dX9_ends_1 rfl (lv_at hl 1 rfl) ?_
  obtain ⟨v1, S, hc, h⟩ := zb_e h
  refine v_callVi 2 C (ci := 8) [] dX9_ends_2 ml_X9_186 hy_X9_isLetter (c_X9_isLetter  hc) (by decide) rfl hl.1 kM_0 rfl (Nat.le_of_ble_eq_true rfl) rfl ?_
  refine v_if_eq 5 46 C dX9_ends_5 (by decide) h (fun h => ?_) (fun h => ?_)
  · exact w_X9_ends_b46 C (lv_sub hl [] rfl) h
  · refine v_iload_n 8 C dX9_ends_8 rfl (lv_at hl 2 rfl) ?_
    refine v_i2l 9 C dX9_ends_9 h (fun v2 h => ?_)
    refine v_lconst 10 C (v := 0) dX9_ends_10 (by decide) ?_
    refine v_ldc2 11 C (v := 9) dX9_ends_11 co_X9_200 ?_
    obtain ⟨v3, S, hc, h⟩ := zb_e h
    refine v_callSi 14 C [] dX9_ends_14 ml_X9_65 hy_X9_in (c_X9_in  hc) (by decide) rfl hl.1 (Nat.le_of_ble_eq_true rfl) rfl ?_
    refine v_if_eq 17 46 C dX9_ends_17 (by decide) h (fun h => ?_) (fun h => ?_)
    · exact w_X9_ends_b46 C (lv_sub hl [] rfl) h
    · refine v_iload_n 20 C dX9_ends_20 rfl (lv_at hl 3 rfl) ?_
      refine v_i2l 21 C dX9_ends_21 h (fun v4 h => ?_)
      refine v_lconst 22 C (v := 0) dX9_ends_22 (by decide) ?_
      refine v_ldc2 23 C (v := 9) dX9_ends_23 co_X9_200 ?_
      obtain ⟨v5, S, hc, h⟩ := zb_e h
      refine v_callSi 26 C [] dX9_ends_26 ml_X9_65 hy_X9_in (c_X9_in  hc) (by decide) rfl hl.1 (Nat.le_of_ble_eq_true rfl) rfl ?_
      refine v_if_eq 29 46 C dX9_ends_29 (by decide) h (fun h => ?_) (fun h => ?_)
      · exact w_X9_ends_b46 C (lv_sub hl [] rfl) h
      · refine v_aload_n 32 C dX9_ends_32 rfl (lv_at hl 0 rfl) ?_
        refine v_getr 33 (2) C dX9_ends_33 fl_X9_13 rfl kM_0 rfl ?_
        refine v_iload_n 36 C dX9_ends_36 rfl (lv_at hl 1 rfl) ?_
        refine v_iald 37 C dX9_ends_37 kM_2 rfl h (fun v6 h => ?_)
        refine v_iload_n 38 C dX9_ends_38 rfl (lv_at hl 2 rfl) ?_
        refine v_iload_n 39 C dX9_ends_39 rfl (lv_at hl 3 rfl) ?_
        obtain ⟨v7, S, hc, h⟩ := zb_e h
        refine v_callSi 40 C [] dX9_ends_40 ml_X9_161 hy_X9_endsBy (c_X9_endsBy  hc) (by decide) rfl hl.1 (Nat.le_of_ble_eq_true rfl) rfl ?_
        refine v_goto 43 47 C dX9_ends_43 (by decide) ?_
        exact w_X9_ends_b47 C (lv_sub hl [] rfl) h
theorem c_X9_ends {w : zWd} {l0 : Launch} {x1 : Int32} {x2 : Int32} {x3 : Int32} {S S1 : zMem} {r : Int32} (h : f_X9_ends x1 x2 x3 S = some (r, S1)) : zMet LM w l0 yX9_ends cX9_ends 4 (some .int) 3 [.ref (w.2.2.1 0), .int x1, .int x2, .int x3] S (some (.int r)) S1 :=
  zMet_of (by decide +kernel) (Nat.le_of_ble_eq_true rfl) (fun X ls C hl => w_X9_ends_b0 C hl h)
theorem dX9_bond_0 : decode cX9_bond 0 = .ok (.aload_n 0, 1) := by decide +kernel
theorem dX9_bond_1 : decode cX9_bond 1 = .ok (.iload_n 1, 1) := by decide +kernel
theorem dX9_bond_2 : decode cX9_bond 2 = .ok (.invokevirtual 186, 3) := by decide +kernel
theorem dX9_bond_5 : decode cX9_bond 5 = .ok (.ifCond .ne 5, 3) := by decide +kernel
theorem dX9_bond_8 : decode cX9_bond 8 = .ok (.iconst (-1), 1) := by decide +kernel
theorem dX9_bond_9 : decode cX9_bond 9 = .ok (.ireturn, 1) := by decide +kernel
theorem dX9_bond_10 : decode cX9_bond 10 = .ok (.aload_n 0, 1) := by decide +kernel
theorem dX9_bond_11 : decode cX9_bond 11 = .ok (.invokevirtual 180, 3) := by decide +kernel
theorem dX9_bond_14 : decode cX9_bond 14 = .ok (.aload_n 0, 1) := by decide +kernel
theorem dX9_bond_15 : decode cX9_bond 15 = .ok (.sipush 2792, 3) := by decide +kernel
theorem dX9_bond_18 : decode cX9_bond 18 = .ok (.iload_n 1, 1) := by decide +kernel
theorem dX9_bond_19 : decode cX9_bond 19 = .ok (.invokevirtual 183, 3) := by decide +kernel
theorem dX9_bond_22 : decode cX9_bond 22 = .ok (.pop, 1) := by decide +kernel
theorem dX9_bond_23 : decode cX9_bond 23 = .ok (.aload_n 0, 1) := by decide +kernel
theorem dX9_bond_24 : decode cX9_bond 24 = .ok (.aload_n 0, 1) := by decide +kernel
theorem dX9_bond_25 : decode cX9_bond 25 = .ok (.getfield 7, 3) := by decide +kernel
theorem dX9_bond_28 : decode cX9_bond 28 = .ok (.sipush 2794, 3) := by decide +kernel
theorem dX9_bond_31 : decode cX9_bond 31 = .ok (.iaload, 1) := by decide +kernel
theorem dX9_bond_32 : decode cX9_bond 32 = .ok (.putfield 60, 3) := by decide +kernel
theorem dX9_bond_35 : decode cX9_bond 35 = .ok (.aload_n 0, 1) := by decide +kernel
theorem dX9_bond_36 : decode cX9_bond 36 = .ok (.getfield 7, 3) := by decide +kernel
theorem dX9_bond_39 : decode cX9_bond 39 = .ok (.sipush 2798, 3) := by decide +kernel
theorem dX9_bond_42 : decode cX9_bond 42 = .ok (.aload_n 0, 1) := by decide +kernel
theorem dX9_bond_43 : decode cX9_bond 43 = .ok (.getfield 16, 3) := by decide +kernel
theorem dX9_bond_46 : decode cX9_bond 46 = .ok (.iload_n 1, 1) := by decide +kernel
theorem dX9_bond_47 : decode cX9_bond 47 = .ok (.iaload, 1) := by decide +kernel
theorem dX9_bond_48 : decode cX9_bond 48 = .ok (.iadd, 1) := by decide +kernel
theorem dX9_bond_49 : decode cX9_bond 49 = .ok (.iaload, 1) := by decide +kernel
theorem dX9_bond_50 : decode cX9_bond 50 = .ok (.ireturn, 1) := by decide +kernel
set_option maxRecDepth 20000 in
theorem w_X9_bond_b0 {w : zWd} {X : zX} {l0 : Launch} {r : Int32} {S1 : zMem} (C : zC LM w X l0 cX9_bond RX9 2 3 (some .int)) {x1 : Int32} {S : zMem} {ls : Array Slot} (hl : lv_has ls 2 [(0, .ref (w.2.2.1 0)), (1, .int x1)]) (h : X9_bond_b0 x1 S = some (r, S1)) : zV LM w X (some (.int r)) S1 S 0 ls [] := by
  unfold X9_bond_b0 at h
  refine v_aload_n 0 C dX9_bond_0 rfl (lv_at hl 0 rfl) ?_
  refine v_iload_n 1 C dX9_bond_1 rfl (lv_at hl 1 rfl) ?_
  obtain ⟨v1, S, hc, h⟩ := zb_e h
  refine v_callVi 2 C (ci := 8) [] dX9_bond_2 ml_X9_186 hy_X9_isLetter (c_X9_isLetter  hc) (by decide) rfl hl.1 kM_0 rfl (Nat.le_of_ble_eq_true rfl) rfl ?_
  refine v_if_ne 5 10 C dX9_bond_5 (by decide) h (fun h => ?_) (fun h => ?_)
  · refine v_aload_n 10 C dX9_bond_10 rfl (lv_at hl 0 rfl) ?_
    obtain ⟨v2, S, hc, h⟩ := zb_e h
    refine v_callVv 11 C (ci := 8) [] dX9_bond_11 ml_X9_180 hy_X9_layTried (c_X9_layTried  hc) (by decide) rfl hl.1 kM_0 rfl (Nat.le_of_ble_eq_true rfl) rfl ?_
    refine v_aload_n 14 C dX9_bond_14 rfl (lv_at hl 0 rfl) ?_
    refine v_sipush 15 C (v := (2792 : Int32)) dX9_bond_15 (by decide) ?_
    refine v_iload_n 18 C dX9_bond_18 rfl (lv_at hl 1 rfl) ?_
    obtain ⟨v3, S, hc, h⟩ := zb_e h
    refine v_callVi 19 C (ci := 8) [] dX9_bond_19 ml_X9_183 hy_X9_carries (c_X9_carries  hc) (by decide) rfl hl.1 kM_0 rfl (Nat.le_of_ble_eq_true rfl) rfl ?_
    refine v_pop 22 C dX9_bond_22 rfl ?_
    refine v_aload_n 23 C dX9_bond_23 rfl (lv_at hl 0 rfl) ?_
    refine v_aload_n 24 C dX9_bond_24 rfl (lv_at hl 0 rfl) ?_
    refine v_getr 25 (1) C dX9_bond_25 fl_X9_7 rfl kM_0 rfl ?_
    refine v_sipush 28 C (v := (2794 : Int32)) dX9_bond_28 (by decide) ?_
    refine v_iald 31 C dX9_bond_31 kM_1 rfl h (fun v4 h => ?_)
    refine v_puti 32 C dX9_bond_32 fl_X9_60 fp_8_10 rfl kM_0 h (fun S h => ?_)
    refine v_aload_n 35 C dX9_bond_35 rfl (lv_at hl 0 rfl) ?_
    refine v_getr 36 (1) C dX9_bond_36 fl_X9_7 rfl kM_0 rfl ?_
    refine v_sipush 39 C (v := (2798 : Int32)) dX9_bond_39 (by decide) ?_
    refine v_aload_n 42 C dX9_bond_42 rfl (lv_at hl 0 rfl) ?_
    refine v_getr 43 (3) C dX9_bond_43 fl_X9_16 rfl kM_0 rfl ?_
    refine v_iload_n 46 C dX9_bond_46 rfl (lv_at hl 1 rfl) ?_
    refine v_iald 47 C dX9_bond_47 kM_3 rfl h (fun v5 h => ?_)
    refine v_iadd 48 C dX9_bond_48 h (fun v6 h => ?_)
    refine v_iald 49 C dX9_bond_49 kM_1 rfl h (fun v7 h => ?_)
    exact v_ireturn 50 C dX9_bond_50 h
  · refine v_iconst 8 C (v := (-1 : Int32)) dX9_bond_8 (by decide) ?_
    exact v_ireturn 9 C dX9_bond_9 h
theorem c_X9_bond {w : zWd} {l0 : Launch} {x1 : Int32} {S S1 : zMem} {r : Int32} (h : f_X9_bond x1 S = some (r, S1)) : zMet LM w l0 yX9_bond cX9_bond 2 (some .int) 3 [.ref (w.2.2.1 0), .int x1] S (some (.int r)) S1 :=
  zMet_of (by decide +kernel) (Nat.le_of_ble_eq_true rfl) (fun X ls C hl => w_X9_bond_b0 C hl h)
theorem dX9_least_0 : decode cX9_least 0 = .ok (.aload_n 0, 1) := by decide +kernel
theorem dX9_least_1 : decode cX9_least 1 = .ok (.iload_n 1, 1) := by decide +kernel
theorem dX9_least_2 : decode cX9_least 2 = .ok (.invokevirtual 186, 3) := by decide +kernel
theorem dX9_least_5 : decode cX9_least 5 = .ok (.ifCond .eq 15, 3) := by decide +kernel
theorem dX9_least_8 : decode cX9_least 8 = .ok (.iload_n 2, 1) := by decide +kernel
theorem dX9_least_9 : decode cX9_least 9 = .ok (.i2l, 1) := by decide +kernel
theorem dX9_least_10 : decode cX9_least 10 = .ok (.lconst 0, 1) := by decide +kernel
theorem dX9_least_11 : decode cX9_least 11 = .ok (.ldc2_w 200, 3) := by decide +kernel
theorem dX9_least_14 : decode cX9_least 14 = .ok (.invokestatic 65, 3) := by decide +kernel
theorem dX9_least_17 : decode cX9_least 17 = .ok (.ifCond .ne 5, 3) := by decide +kernel
theorem dX9_least_20 : decode cX9_least 20 = .ok (.iconst (-1), 1) := by decide +kernel
theorem dX9_least_21 : decode cX9_least 21 = .ok (.ireturn, 1) := by decide +kernel
theorem dX9_least_22 : decode cX9_least 22 = .ok (.iconst 0, 1) := by decide +kernel
theorem dX9_least_23 : decode cX9_least 23 = .ok (.istore_n 3, 1) := by decide +kernel
theorem dX9_least_24 : decode cX9_least 24 = .ok (.iload_n 3, 1) := by decide +kernel
theorem dX9_least_25 : decode cX9_least 25 = .ok (.bipush 10, 2) := by decide +kernel
theorem dX9_least_27 : decode cX9_least 27 = .ok (.if_icmp .ge 48, 3) := by decide +kernel
theorem dX9_least_30 : decode cX9_least 30 = .ok (.aload_n 0, 1) := by decide +kernel
theorem dX9_least_31 : decode cX9_least 31 = .ok (.invokevirtual 180, 3) := by decide +kernel
theorem dX9_least_34 : decode cX9_least 34 = .ok (.aload_n 0, 1) := by decide +kernel
theorem dX9_least_35 : decode cX9_least 35 = .ok (.getfield 7, 3) := by decide +kernel
theorem dX9_least_38 : decode cX9_least 38 = .ok (.sipush 2794, 3) := by decide +kernel
theorem dX9_least_41 : decode cX9_least 41 = .ok (.aload_n 0, 1) := by decide +kernel
theorem dX9_least_42 : decode cX9_least 42 = .ok (.getfield 7, 3) := by decide +kernel
theorem dX9_least_45 : decode cX9_least 45 = .ok (.iconst 2, 1) := by decide +kernel
theorem dX9_least_46 : decode cX9_least 46 = .ok (.iaload, 1) := by decide +kernel
theorem dX9_least_47 : decode cX9_least 47 = .ok (.iload_n 3, 1) := by decide +kernel
theorem dX9_least_48 : decode cX9_least 48 = .ok (.iadd, 1) := by decide +kernel
theorem dX9_least_49 : decode cX9_least 49 = .ok (.bipush 9, 2) := by decide +kernel
theorem dX9_least_51 : decode cX9_least 51 = .ok (.invokestatic 158, 3) := by decide +kernel
theorem dX9_least_54 : decode cX9_least 54 = .ok (.iastore, 1) := by decide +kernel
theorem dX9_least_55 : decode cX9_least 55 = .ok (.aload_n 0, 1) := by decide +kernel
theorem dX9_least_56 : decode cX9_least 56 = .ok (.sipush 2792, 3) := by decide +kernel
theorem dX9_least_59 : decode cX9_least 59 = .ok (.iload_n 1, 1) := by decide +kernel
theorem dX9_least_60 : decode cX9_least 60 = .ok (.invokevirtual 183, 3) := by decide +kernel
theorem dX9_least_63 : decode cX9_least 63 = .ok (.iload_n 2, 1) := by decide +kernel
theorem dX9_least_64 : decode cX9_least 64 = .ok (.if_icmp .lt 5, 3) := by decide +kernel
theorem dX9_least_67 : decode cX9_least 67 = .ok (.iload_n 3, 1) := by decide +kernel
theorem dX9_least_68 : decode cX9_least 68 = .ok (.ireturn, 1) := by decide +kernel
theorem dX9_least_69 : decode cX9_least 69 = .ok (.iinc 3 1, 3) := by decide +kernel
theorem dX9_least_72 : decode cX9_least 72 = .ok (.goto (-48), 3) := by decide +kernel
theorem dX9_least_75 : decode cX9_least 75 = .ok (.bipush (-9), 2) := by decide +kernel
theorem dX9_least_77 : decode cX9_least 77 = .ok (.ireturn, 1) := by decide +kernel
set_option maxRecDepth 20000 in
theorem w_X9_least_b20 {w : zWd} {X : zX} {l0 : Launch} {r : Int32} {S1 : zMem} (C : zC LM w X l0 cX9_least RX9 4 3 (some .int)) {S : zMem} {ls : Array Slot} (hl : lv_has ls 4 []) (h : X9_least_b20  S = some (r, S1)) : zV LM w X (some (.int r)) S1 S 20 ls [] := by
  unfold X9_least_b20 at h
  refine v_iconst 20 C (v := (-1 : Int32)) dX9_least_20 (by decide) ?_
  exact v_ireturn 21 C dX9_least_21 h
set_option maxRecDepth 20000 in
theorem w_X9_least_b24 {w : zWd} {X : zX} {l0 : Launch} {r : Int32} {S1 : zMem} (C : zC LM w X l0 cX9_least RX9 4 3 (some .int)) {k24 : Int32 → Int32 → Int32 → zMem → Option (Int32 × zMem)} (hc24 : ∀ (x1 : Int32) (x2 : Int32) (x3 : Int32) (S : zMem) (ls : Array Slot), lv_has ls 4 [(0, .ref (w.2.2.1 0)), (1, .int x1), (2, .int x2), (3, .int x3)] → k24 x1 x2 x3 S = some (r, S1) → zV LM w X (some (.int r)) S1 S 24 ls []) {x1 : Int32} {x2 : Int32} {x3 : Int32} {S : zMem} {ls : Array Slot} (hl : lv_has ls 4 [(0, .ref (w.2.2.1 0)), (1, .int x1), (2, .int x2), (3, .int x3)]) (h : X9_least_b24 k24 x1 x2 x3 S = some (r, S1)) : zV LM w X (some (.int r)) S1 S 24 ls [] := by
  unfold X9_least_b24 at h
  refine v_iload_n 24 C dX9_least_24 rfl (lv_at hl 3 rfl) ?_
  refine v_bipush 25 C (v := (10 : Int32)) dX9_least_25 (by decide) ?_
  refine v_icmp_ge 27 75 C dX9_least_27 (by decide) h (fun h => ?_) (fun h => ?_)
  · refine v_bipush 75 C (v := (-9 : Int32)) dX9_least_75 (by decide) ?_
    exact v_ireturn 77 C dX9_least_77 h
  · refine v_aload_n 30 C dX9_least_30 rfl (lv_at hl 0 rfl) ?_
    obtain ⟨v1, S, hc, h⟩ := zb_e h
    refine v_callVv 31 C (ci := 8) [] dX9_least_31 ml_X9_180 hy_X9_layTried (c_X9_layTried  hc) (by decide) rfl hl.1 kM_0 rfl (Nat.le_of_ble_eq_true rfl) rfl ?_
    refine v_aload_n 34 C dX9_least_34 rfl (lv_at hl 0 rfl) ?_
    refine v_getr 35 (1) C dX9_least_35 fl_X9_7 rfl kM_0 rfl ?_
    refine v_sipush 38 C (v := (2794 : Int32)) dX9_least_38 (by decide) ?_
    refine v_aload_n 41 C dX9_least_41 rfl (lv_at hl 0 rfl) ?_
    refine v_getr 42 (1) C dX9_least_42 fl_X9_7 rfl kM_0 rfl ?_
    refine v_iconst 45 C (v := (2 : Int32)) dX9_least_45 (by decide) ?_
    refine v_iald 46 C dX9_least_46 kM_1 rfl h (fun v2 h => ?_)
    refine v_iload_n 47 C dX9_least_47 rfl (lv_at hl 3 rfl) ?_
    refine v_iadd 48 C dX9_least_48 h (fun v3 h => ?_)
    refine v_bipush 49 C (v := (9 : Int32)) dX9_least_49 (by decide) ?_
    obtain ⟨v4, S, hc, h⟩ := zb_e h
    refine v_callSi 51 C [.int (2794 : Int32), .ref (w.2.2.1 1)] dX9_least_51 ml_X9_158 hy_X9_kept (c_X9_kept  hc) (by decide) rfl hl.1 (Nat.le_of_ble_eq_true rfl) rfl ?_
    refine v_iast 54 C dX9_least_54 kM_1 rfl h (fun S h => ?_)
    refine v_aload_n 55 C dX9_least_55 rfl (lv_at hl 0 rfl) ?_
    refine v_sipush 56 C (v := (2792 : Int32)) dX9_least_56 (by decide) ?_
    refine v_iload_n 59 C dX9_least_59 rfl (lv_at hl 1 rfl) ?_
    obtain ⟨v5, S, hc, h⟩ := zb_e h
    refine v_callVi 60 C (ci := 8) [] dX9_least_60 ml_X9_183 hy_X9_carries (c_X9_carries  hc) (by decide) rfl hl.1 kM_0 rfl (Nat.le_of_ble_eq_true rfl) rfl ?_
    refine v_iload_n 63 C dX9_least_63 rfl (lv_at hl 2 rfl) ?_
    refine v_icmp_lt 64 69 C dX9_least_64 (by decide) h (fun h => ?_) (fun h => ?_)
    · refine v_iinc 69 C (nn := (1 : Int32)) (fun v => [(3, .int v), (0, .ref (w.2.2.1 0)), (1, .int x1), (2, .int x2)]) dX9_least_69 hl (k := 3) rfl (by decide) (by decide) (fun _ => rfl) h (fun v6 ls hl h => ?_)
      refine v_goto 72 24 C dX9_least_72 (by decide) ?_
      exact hc24 _ _ _ _ _ (lv_sub hl [1, 2, 3, 0] rfl) h
    · refine v_iload_n 67 C dX9_least_67 rfl (lv_at hl 3 rfl) ?_
      exact v_ireturn 68 C dX9_least_68 h
theorem w_X9_least_l24 {w : zWd} {X : zX} {l0 : Launch} {r : Int32} {S1 : zMem} (C : zC LM w X l0 cX9_least RX9 4 3 (some .int)) : ∀ (n : Nat) (x1 : Int32) (x2 : Int32) (x3 : Int32) (S : zMem) (ls : Array Slot), lv_has ls 4 [(0, .ref (w.2.2.1 0)), (1, .int x1), (2, .int x2), (3, .int x3)] → X9_least_l24 n x1 x2 x3 S = some (r, S1) → zV LM w X (some (.int r)) S1 S 24 ls [] := by
  intro n
  induction n with
  | zero =>
    intro x1 x2 x3 S ls hl h
    cases (show (none : Option (Int32 × zMem)) = some _ from h)
  | succ n ih =>
    intro x1 x2 x3 S ls hl h
    exact w_X9_least_b24 C ih hl h
set_option maxRecDepth 20000 in
theorem w_X9_least_b0 {w : zWd} {X : zX} {l0 : Launch} {r : Int32} {S1 : zMem} (C : zC LM w X l0 cX9_least RX9 4 3 (some .int)) {x1 : Int32} {x2 : Int32} {S : zMem} {ls : Array Slot} (hl : lv_has ls 4 [(0, .ref (w.2.2.1 0)), (1, .int x1), (2, .int x2)]) (h : X9_least_b0 x1 x2 S = some (r, S1)) : zV LM w X (some (.int r)) S1 S 0 ls [] := by
  unfold X9_least_b0 at h
  refine v_aload_n 0 C dX9_least_0 rfl (lv_at hl 0 rfl) ?_
  refine v_iload_n 1 C dX9_least_1 rfl (lv_at hl 1 rfl) ?_
  obtain ⟨v1, S, hc, h⟩ := zb_e h
  refine v_callVi 2 C (ci := 8) [] dX9_least_2 ml_X9_186 hy_X9_isLetter (c_X9_isLetter  hc) (by decide) rfl hl.1 kM_0 rfl (Nat.le_of_ble_eq_true rfl) rfl ?_
  refine v_if_eq 5 20 C dX9_least_5 (by decide) h (fun h => ?_) (fun h => ?_)
  · exact w_X9_least_b20 C (lv_sub hl [] rfl) h
  · refine v_iload_n 8 C dX9_least_8 rfl (lv_at hl 2 rfl) ?_
    refine v_i2l 9 C dX9_least_9 h (fun v2 h => ?_)
    refine v_lconst 10 C (v := 0) dX9_least_10 (by decide) ?_
    refine v_ldc2 11 C (v := 9) dX9_least_11 co_X9_200 ?_
    obtain ⟨v3, S, hc, h⟩ := zb_e h
    refine v_callSi 14 C [] dX9_least_14 ml_X9_65 hy_X9_in (c_X9_in  hc) (by decide) rfl hl.1 (Nat.le_of_ble_eq_true rfl) rfl ?_
    refine v_if_ne 17 22 C dX9_least_17 (by decide) h (fun h => ?_) (fun h => ?_)
    · refine v_iconst 22 C (v := (0 : Int32)) dX9_least_22 (by decide) ?_
      refine v_istore_n 23 C [(3, .int (0 : Int32)), (0, .ref (w.2.2.1 0)), (1, .int x1), (2, .int x2)] dX9_least_23 rfl hl (by decide) rfl (fun ls hl => ?_)
      exact w_X9_least_l24 C zF _ _ _ _ _ (lv_sub hl [1, 2, 3, 0] rfl) h
    · exact w_X9_least_b20 C (lv_sub hl [] rfl) h
theorem c_X9_least {w : zWd} {l0 : Launch} {x1 : Int32} {x2 : Int32} {S S1 : zMem} {r : Int32} (h : f_X9_least x1 x2 S = some (r, S1)) : zMet LM w l0 yX9_least cX9_least 4 (some .int) 3 [.ref (w.2.2.1 0), .int x1, .int x2] S (some (.int r)) S1 :=
  zMet_of (by decide +kernel) (Nat.le_of_ble_eq_true rfl) (fun X ls C hl => w_X9_least_b0 C hl h)
theorem fl_X9_47 : zFL RX9 47 8 24 := ⟨_, rfl, by decide, zT_of (List.mem_of_getElem? (i := 894) (by decide +kernel)) rfl⟩
theorem dX9_beginLine_0 : decode cX9_beginLine 0 = .ok (.iconst 0, 1) := by decide +kernel
theorem dX9_beginLine_1 : decode cX9_beginLine 1 = .ok (.istore_n 1, 1) := by decide +kernel
theorem dX9_beginLine_2 : decode cX9_beginLine 2 = .ok (.iload_n 1, 1) := by decide +kernel
theorem dX9_beginLine_3 : decode cX9_beginLine 3 = .ok (.bipush 6, 2) := by decide +kernel
theorem dX9_beginLine_5 : decode cX9_beginLine 5 = .ok (.if_icmp .ge 16, 3) := by decide +kernel
theorem dX9_beginLine_8 : decode cX9_beginLine 8 = .ok (.aload_n 0, 1) := by decide +kernel
theorem dX9_beginLine_9 : decode cX9_beginLine 9 = .ok (.getfield 47, 3) := by decide +kernel
theorem dX9_beginLine_12 : decode cX9_beginLine 12 = .ok (.iload_n 1, 1) := by decide +kernel
theorem dX9_beginLine_13 : decode cX9_beginLine 13 = .ok (.iconst 0, 1) := by decide +kernel
theorem dX9_beginLine_14 : decode cX9_beginLine 14 = .ok (.iastore, 1) := by decide +kernel
theorem dX9_beginLine_15 : decode cX9_beginLine 15 = .ok (.iinc 1 1, 3) := by decide +kernel
theorem dX9_beginLine_18 : decode cX9_beginLine 18 = .ok (.goto (-16), 3) := by decide +kernel
theorem dX9_beginLine_21 : decode cX9_beginLine 21 = .ok (.return_, 1) := by decide +kernel
set_option maxRecDepth 20000 in
theorem w_X9_beginLine_b2 {w : zWd} {X : zX} {l0 : Launch} {r : Unit} {S1 : zMem} (C : zC LM w X l0 cX9_beginLine RX9 2 1 none) {k2 : Int32 → zMem → Option (Unit × zMem)} (hc2 : ∀ (x1 : Int32) (S : zMem) (ls : Array Slot), lv_has ls 2 [(0, .ref (w.2.2.1 0)), (1, .int x1)] → k2 x1 S = some (r, S1) → zV LM w X none S1 S 2 ls []) {x1 : Int32} {S : zMem} {ls : Array Slot} (hl : lv_has ls 2 [(0, .ref (w.2.2.1 0)), (1, .int x1)]) (h : X9_beginLine_b2 k2 x1 S = some (r, S1)) : zV LM w X none S1 S 2 ls [] := by
  unfold X9_beginLine_b2 at h
  refine v_iload_n 2 C dX9_beginLine_2 rfl (lv_at hl 1 rfl) ?_
  refine v_bipush 3 C (v := (6 : Int32)) dX9_beginLine_3 (by decide) ?_
  refine v_icmp_ge 5 21 C dX9_beginLine_5 (by decide) h (fun h => ?_) (fun h => ?_)
  · exact v_return 21 C dX9_beginLine_21 h
  · refine v_aload_n 8 C dX9_beginLine_8 rfl (lv_at hl 0 rfl) ?_
    refine v_getr 9 (12) C dX9_beginLine_9 fl_X9_47 rfl kM_0 rfl ?_
    refine v_iload_n 12 C dX9_beginLine_12 rfl (lv_at hl 1 rfl) ?_
    refine v_iconst 13 C (v := (0 : Int32)) dX9_beginLine_13 (by decide) ?_
    refine v_iast 14 C dX9_beginLine_14 kM_12 rfl h (fun S h => ?_)
    refine v_iinc 15 C (nn := (1 : Int32)) (fun v => [(1, .int v), (0, .ref (w.2.2.1 0))]) dX9_beginLine_15 hl (k := 1) rfl (by decide) (by decide) (fun _ => rfl) h (fun v1 ls hl h => ?_)
    refine v_goto 18 2 C dX9_beginLine_18 (by decide) ?_
    exact hc2 _ _ _ (lv_sub hl [1, 0] rfl) h
theorem w_X9_beginLine_l2 {w : zWd} {X : zX} {l0 : Launch} {r : Unit} {S1 : zMem} (C : zC LM w X l0 cX9_beginLine RX9 2 1 none) : ∀ (n : Nat) (x1 : Int32) (S : zMem) (ls : Array Slot), lv_has ls 2 [(0, .ref (w.2.2.1 0)), (1, .int x1)] → X9_beginLine_l2 n x1 S = some (r, S1) → zV LM w X none S1 S 2 ls [] := by
  intro n
  induction n with
  | zero =>
    intro x1 S ls hl h
    cases (show (none : Option (Unit × zMem)) = some _ from h)
  | succ n ih =>
    intro x1 S ls hl h
    exact w_X9_beginLine_b2 C ih hl h
set_option maxRecDepth 20000 in
theorem w_X9_beginLine_b0 {w : zWd} {X : zX} {l0 : Launch} {r : Unit} {S1 : zMem} (C : zC LM w X l0 cX9_beginLine RX9 2 1 none) {S : zMem} {ls : Array Slot} (hl : lv_has ls 2 [(0, .ref (w.2.2.1 0))]) (h : X9_beginLine_b0  S = some (r, S1)) : zV LM w X none S1 S 0 ls [] := by
  unfold X9_beginLine_b0 at h
  refine v_iconst 0 C (v := (0 : Int32)) dX9_beginLine_0 (by decide) ?_
  refine v_istore_n 1 C [(1, .int (0 : Int32)), (0, .ref (w.2.2.1 0))] dX9_beginLine_1 rfl hl (by decide) rfl (fun ls hl => ?_)
  exact w_X9_beginLine_l2 C zF _ _ _ (lv_sub hl [1, 0] rfl) h
theorem c_X9_beginLine {w : zWd} {l0 : Launch} {S S1 : zMem} {r : Unit} (h : f_X9_beginLine  S = some (r, S1)) : zMet LM w l0 yX9_beginLine cX9_beginLine 2 none 1 [.ref (w.2.2.1 0)] S none S1 :=
  zMet_of (by decide +kernel) (Nat.le_of_ble_eq_true rfl) (fun X ls C hl => w_X9_beginLine_b0 C hl h)
theorem dX9_lettersOf_0 : decode cX9_lettersOf 0 = .ok (.iconst 0, 1) := by decide +kernel
theorem dX9_lettersOf_1 : decode cX9_lettersOf 1 = .ok (.istore_n 2, 1) := by decide +kernel
theorem dX9_lettersOf_2 : decode cX9_lettersOf 2 = .ok (.iconst 1, 1) := by decide +kernel
theorem dX9_lettersOf_3 : decode cX9_lettersOf 3 = .ok (.istore_n 3, 1) := by decide +kernel
theorem dX9_lettersOf_4 : decode cX9_lettersOf 4 = .ok (.iconst 0, 1) := by decide +kernel
theorem dX9_lettersOf_5 : decode cX9_lettersOf 5 = .ok (.istore 4, 2) := by decide +kernel
theorem dX9_lettersOf_7 : decode cX9_lettersOf 7 = .ok (.iload 4, 2) := by decide +kernel
theorem dX9_lettersOf_9 : decode cX9_lettersOf 9 = .ok (.iload_n 1, 1) := by decide +kernel
theorem dX9_lettersOf_10 : decode cX9_lettersOf 10 = .ok (.if_icmp .ge 52, 3) := by decide +kernel
theorem dX9_lettersOf_13 : decode cX9_lettersOf 13 = .ok (.iload_n 3, 1) := by decide +kernel
theorem dX9_lettersOf_14 : decode cX9_lettersOf 14 = .ok (.ifCond .eq 28, 3) := by decide +kernel
theorem dX9_lettersOf_17 : decode cX9_lettersOf 17 = .ok (.iload_n 2, 1) := by decide +kernel
theorem dX9_lettersOf_18 : decode cX9_lettersOf 18 = .ok (.aload_n 0, 1) := by decide +kernel
theorem dX9_lettersOf_19 : decode cX9_lettersOf 19 = .ok (.getfield 7, 3) := by decide +kernel
theorem dX9_lettersOf_22 : decode cX9_lettersOf 22 = .ok (.iconst 5, 1) := by decide +kernel
theorem dX9_lettersOf_23 : decode cX9_lettersOf 23 = .ok (.iaload, 1) := by decide +kernel
theorem dX9_lettersOf_24 : decode cX9_lettersOf 24 = .ok (.ior, 1) := by decide +kernel
theorem dX9_lettersOf_25 : decode cX9_lettersOf 25 = .ok (.aload_n 0, 1) := by decide +kernel
theorem dX9_lettersOf_26 : decode cX9_lettersOf 26 = .ok (.getfield 47, 3) := by decide +kernel
theorem dX9_lettersOf_29 : decode cX9_lettersOf 29 = .ok (.iload 4, 2) := by decide +kernel
theorem dX9_lettersOf_31 : decode cX9_lettersOf 31 = .ok (.iaload, 1) := by decide +kernel
theorem dX9_lettersOf_32 : decode cX9_lettersOf 32 = .ok (.invokestatic 176, 3) := by decide +kernel
theorem dX9_lettersOf_35 : decode cX9_lettersOf 35 = .ok (.ifCond .ne 7, 3) := by decide +kernel
theorem dX9_lettersOf_38 : decode cX9_lettersOf 38 = .ok (.iconst 1, 1) := by decide +kernel
theorem dX9_lettersOf_39 : decode cX9_lettersOf 39 = .ok (.goto 4, 3) := by decide +kernel
theorem dX9_lettersOf_42 : decode cX9_lettersOf 42 = .ok (.iconst 0, 1) := by decide +kernel
theorem dX9_lettersOf_43 : decode cX9_lettersOf 43 = .ok (.istore_n 3, 1) := by decide +kernel
theorem dX9_lettersOf_44 : decode cX9_lettersOf 44 = .ok (.iload_n 2, 1) := by decide +kernel
theorem dX9_lettersOf_45 : decode cX9_lettersOf 45 = .ok (.iconst 1, 1) := by decide +kernel
theorem dX9_lettersOf_46 : decode cX9_lettersOf 46 = .ok (.aload_n 0, 1) := by decide +kernel
theorem dX9_lettersOf_47 : decode cX9_lettersOf 47 = .ok (.getfield 47, 3) := by decide +kernel
theorem dX9_lettersOf_50 : decode cX9_lettersOf 50 = .ok (.iload 4, 2) := by decide +kernel
theorem dX9_lettersOf_52 : decode cX9_lettersOf 52 = .ok (.iaload, 1) := by decide +kernel
theorem dX9_lettersOf_53 : decode cX9_lettersOf 53 = .ok (.ishl, 1) := by decide +kernel
theorem dX9_lettersOf_54 : decode cX9_lettersOf 54 = .ok (.ior, 1) := by decide +kernel
theorem dX9_lettersOf_55 : decode cX9_lettersOf 55 = .ok (.istore_n 2, 1) := by decide +kernel
theorem dX9_lettersOf_56 : decode cX9_lettersOf 56 = .ok (.iinc 4 1, 3) := by decide +kernel
theorem dX9_lettersOf_59 : decode cX9_lettersOf 59 = .ok (.goto (-52), 3) := by decide +kernel
theorem dX9_lettersOf_62 : decode cX9_lettersOf 62 = .ok (.iload_n 3, 1) := by decide +kernel
theorem dX9_lettersOf_63 : decode cX9_lettersOf 63 = .ok (.ifCond .eq 7, 3) := by decide +kernel
theorem dX9_lettersOf_66 : decode cX9_lettersOf 66 = .ok (.iload_n 2, 1) := by decide +kernel
theorem dX9_lettersOf_67 : decode cX9_lettersOf 67 = .ok (.goto 4, 3) := by decide +kernel
theorem dX9_lettersOf_70 : decode cX9_lettersOf 70 = .ok (.iconst (-1), 1) := by decide +kernel
theorem dX9_lettersOf_71 : decode cX9_lettersOf 71 = .ok (.ireturn, 1) := by decide +kernel
set_option maxRecDepth 20000 in
theorem w_X9_lettersOf_b43 {w : zWd} {X : zX} {l0 : Launch} {r : Int32} {S1 : zMem} (C : zC LM w X l0 cX9_lettersOf RX9 5 2 (some .int)) {k7 : Int32 → Int32 → Int32 → Int32 → zMem → Option (Int32 × zMem)} (hc7 : ∀ (x1 : Int32) (x2 : Int32) (x3 : Int32) (x4 : Int32) (S : zMem) (ls : Array Slot), lv_has ls 5 [(0, .ref (w.2.2.1 0)), (1, .int x1), (2, .int x2), (3, .int x3), (4, .int x4)] → k7 x1 x2 x3 x4 S = some (r, S1) → zV LM w X (some (.int r)) S1 S 7 ls []) {x1 : Int32} {x2 : Int32} {x4 : Int32} {s0 : Int32} {S : zMem} {ls : Array Slot} (hl : lv_has ls 5 [(0, .ref (w.2.2.1 0)), (1, .int x1), (2, .int x2), (4, .int x4)]) (h : X9_lettersOf_b43 k7 x1 x2 x4 s0 S = some (r, S1)) : zV LM w X (some (.int r)) S1 S 43 ls [.int s0] := by
  unfold X9_lettersOf_b43 at h
  refine v_istore_n 43 C [(3, .int s0), (0, .ref (w.2.2.1 0)), (1, .int x1), (2, .int x2), (4, .int x4)] dX9_lettersOf_43 rfl hl (by decide) rfl (fun ls hl => ?_)
  refine v_iload_n 44 C dX9_lettersOf_44 rfl (lv_at hl 3 rfl) ?_
  refine v_iconst 45 C (v := (1 : Int32)) dX9_lettersOf_45 (by decide) ?_
  refine v_aload_n 46 C dX9_lettersOf_46 rfl (lv_at hl 1 rfl) ?_
  refine v_getr 47 (12) C dX9_lettersOf_47 fl_X9_47 rfl kM_0 rfl ?_
  refine v_iload 50 C dX9_lettersOf_50 (lv_at hl 4 rfl) ?_
  refine v_iald 52 C dX9_lettersOf_52 kM_12 rfl h (fun v1 h => ?_)
  refine v_ishl 53 C dX9_lettersOf_53 h (fun v2 h => ?_)
  refine v_ior 54 C dX9_lettersOf_54 h (fun v3 h => ?_)
  refine v_istore_n 55 C [(2, .int v3), (3, .int s0), (0, .ref (w.2.2.1 0)), (1, .int x1), (4, .int x4)] dX9_lettersOf_55 rfl hl (by decide) rfl (fun ls hl => ?_)
  refine v_iinc 56 C (nn := (1 : Int32)) (fun v => [(4, .int v), (2, .int v3), (3, .int s0), (0, .ref (w.2.2.1 0)), (1, .int x1)]) dX9_lettersOf_56 hl (k := 4) rfl (by decide) (by decide) (fun _ => rfl) h (fun v4 ls hl h => ?_)
  refine v_goto 59 7 C dX9_lettersOf_59 (by decide) ?_
  exact hc7 _ _ _ _ _ _ (lv_sub hl [3, 4, 1, 2, 0] rfl) h
set_option maxRecDepth 20000 in
theorem w_X9_lettersOf_b42 {w : zWd} {X : zX} {l0 : Launch} {r : Int32} {S1 : zMem} (C : zC LM w X l0 cX9_lettersOf RX9 5 2 (some .int)) {k7 : Int32 → Int32 → Int32 → Int32 → zMem → Option (Int32 × zMem)} (hc7 : ∀ (x1 : Int32) (x2 : Int32) (x3 : Int32) (x4 : Int32) (S : zMem) (ls : Array Slot), lv_has ls 5 [(0, .ref (w.2.2.1 0)), (1, .int x1), (2, .int x2), (3, .int x3), (4, .int x4)] → k7 x1 x2 x3 x4 S = some (r, S1) → zV LM w X (some (.int r)) S1 S 7 ls []) {x1 : Int32} {x2 : Int32} {x4 : Int32} {S : zMem} {ls : Array Slot} (hl : lv_has ls 5 [(0, .ref (w.2.2.1 0)), (1, .int x1), (2, .int x2), (4, .int x4)]) (h : X9_lettersOf_b42 k7 x1 x2 x4 S = some (r, S1)) : zV LM w X (some (.int r)) S1 S 42 ls [] := by
  unfold X9_lettersOf_b42 at h
  refine v_iconst 42 C (v := (0 : Int32)) dX9_lettersOf_42 (by decide) ?_
  exact w_X9_lettersOf_b43 C hc7 (lv_sub hl [0, 1, 2, 3] rfl) h
set_option maxRecDepth 20000 in
theorem w_X9_lettersOf_b71 {w : zWd} {X : zX} {l0 : Launch} {r : Int32} {S1 : zMem} (C : zC LM w X l0 cX9_lettersOf RX9 5 2 (some .int)) {s0 : Int32} {S : zMem} {ls : Array Slot} (hl : lv_has ls 5 []) (h : X9_lettersOf_b71 s0 S = some (r, S1)) : zV LM w X (some (.int r)) S1 S 71 ls [.int s0] := by
  unfold X9_lettersOf_b71 at h
  exact v_ireturn 71 C dX9_lettersOf_71 h
set_option maxRecDepth 20000 in
theorem w_X9_lettersOf_b7 {w : zWd} {X : zX} {l0 : Launch} {r : Int32} {S1 : zMem} (C : zC LM w X l0 cX9_lettersOf RX9 5 2 (some .int)) {k7 : Int32 → Int32 → Int32 → Int32 → zMem → Option (Int32 × zMem)} (hc7 : ∀ (x1 : Int32) (x2 : Int32) (x3 : Int32) (x4 : Int32) (S : zMem) (ls : Array Slot), lv_has ls 5 [(0, .ref (w.2.2.1 0)), (1, .int x1), (2, .int x2), (3, .int x3), (4, .int x4)] → k7 x1 x2 x3 x4 S = some (r, S1) → zV LM w X (some (.int r)) S1 S 7 ls []) {x1 : Int32} {x2 : Int32} {x3 : Int32} {x4 : Int32} {S : zMem} {ls : Array Slot} (hl : lv_has ls 5 [(0, .ref (w.2.2.1 0)), (1, .int x1), (2, .int x2), (3, .int x3), (4, .int x4)]) (h : X9_lettersOf_b7 k7 x1 x2 x3 x4 S = some (r, S1)) : zV LM w X (some (.int r)) S1 S 7 ls [] := by
  unfold X9_lettersOf_b7 at h
  refine v_iload 7 C dX9_lettersOf_7 (lv_at hl 4 rfl) ?_
  refine v_iload_n 9 C dX9_lettersOf_9 rfl (lv_at hl 1 rfl) ?_
  refine v_icmp_ge 10 62 C dX9_lettersOf_10 (by decide) h (fun h => ?_) (fun h => ?_)
  · refine v_iload_n 62 C dX9_lettersOf_62 rfl (lv_at hl 3 rfl) ?_
    refine v_if_eq 63 70 C dX9_lettersOf_63 (by decide) h (fun h => ?_) (fun h => ?_)
    · refine v_iconst 70 C (v := (-1 : Int32)) dX9_lettersOf_70 (by decide) ?_
      exact w_X9_lettersOf_b71 C (lv_sub hl [] rfl) h
    · refine v_iload_n 66 C dX9_lettersOf_66 rfl (lv_at hl 2 rfl) ?_
      refine v_goto 67 71 C dX9_lettersOf_67 (by decide) ?_
      exact w_X9_lettersOf_b71 C (lv_sub hl [] rfl) h
  · refine v_iload_n 13 C dX9_lettersOf_13 rfl (lv_at hl 3 rfl) ?_
    refine v_if_eq 14 42 C dX9_lettersOf_14 (by decide) h (fun h => ?_) (fun h => ?_)
    · exact w_X9_lettersOf_b42 C hc7 (lv_sub hl [0, 1, 2, 4] rfl) h
    · refine v_iload_n 17 C dX9_lettersOf_17 rfl (lv_at hl 2 rfl) ?_
      refine v_aload_n 18 C dX9_lettersOf_18 rfl (lv_at hl 0 rfl) ?_
      refine v_getr 19 (1) C dX9_lettersOf_19 fl_X9_7 rfl kM_0 rfl ?_
      refine v_iconst 22 C (v := (5 : Int32)) dX9_lettersOf_22 (by decide) ?_
      refine v_iald 23 C dX9_lettersOf_23 kM_1 rfl h (fun v1 h => ?_)
      refine v_ior 24 C dX9_lettersOf_24 h (fun v2 h => ?_)
      refine v_aload_n 25 C dX9_lettersOf_25 rfl (lv_at hl 0 rfl) ?_
      refine v_getr 26 (12) C dX9_lettersOf_26 fl_X9_47 rfl kM_0 rfl ?_
      refine v_iload 29 C dX9_lettersOf_29 (lv_at hl 4 rfl) ?_
      refine v_iald 31 C dX9_lettersOf_31 kM_12 rfl h (fun v3 h => ?_)
      obtain ⟨v4, S, hc, h⟩ := zb_e h
      refine v_callSi 32 C [] dX9_lettersOf_32 ml_X9_176 hy_X9_has (c_X9_has  hc) (by decide) rfl hl.1 (Nat.le_of_ble_eq_true rfl) rfl ?_
      refine v_if_ne 35 42 C dX9_lettersOf_35 (by decide) h (fun h => ?_) (fun h => ?_)
      · exact w_X9_lettersOf_b42 C hc7 (lv_sub hl [0, 1, 2, 4] rfl) h
      · refine v_iconst 38 C (v := (1 : Int32)) dX9_lettersOf_38 (by decide) ?_
        refine v_goto 39 43 C dX9_lettersOf_39 (by decide) ?_
        exact w_X9_lettersOf_b43 C hc7 (lv_sub hl [0, 1, 2, 4] rfl) h
theorem w_X9_lettersOf_l7 {w : zWd} {X : zX} {l0 : Launch} {r : Int32} {S1 : zMem} (C : zC LM w X l0 cX9_lettersOf RX9 5 2 (some .int)) : ∀ (n : Nat) (x1 : Int32) (x2 : Int32) (x3 : Int32) (x4 : Int32) (S : zMem) (ls : Array Slot), lv_has ls 5 [(0, .ref (w.2.2.1 0)), (1, .int x1), (2, .int x2), (3, .int x3), (4, .int x4)] → X9_lettersOf_l7 n x1 x2 x3 x4 S = some (r, S1) → zV LM w X (some (.int r)) S1 S 7 ls [] := by
  intro n
  induction n with
  | zero =>
    intro x1 x2 x3 x4 S ls hl h
    cases (show (none : Option (Int32 × zMem)) = some _ from h)
  | succ n ih =>
    intro x1 x2 x3 x4 S ls hl h
    exact w_X9_lettersOf_b7 C ih hl h
set_option maxRecDepth 20000 in
theorem w_X9_lettersOf_b0 {w : zWd} {X : zX} {l0 : Launch} {r : Int32} {S1 : zMem} (C : zC LM w X l0 cX9_lettersOf RX9 5 2 (some .int)) {x1 : Int32} {S : zMem} {ls : Array Slot} (hl : lv_has ls 5 [(0, .ref (w.2.2.1 0)), (1, .int x1)]) (h : X9_lettersOf_b0 x1 S = some (r, S1)) : zV LM w X (some (.int r)) S1 S 0 ls [] := by
  unfold X9_lettersOf_b0 at h
  refine v_iconst 0 C (v := (0 : Int32)) dX9_lettersOf_0 (by decide) ?_
  refine v_istore_n 1 C [(2, .int (0 : Int32)), (0, .ref (w.2.2.1 0)), (1, .int x1)] dX9_lettersOf_1 rfl hl (by decide) rfl (fun ls hl => ?_)
  refine v_iconst 2 C (v := (1 : Int32)) dX9_lettersOf_2 (by decide) ?_
  refine v_istore_n 3 C [(3, .int (1 : Int32)), (2, .int (0 : Int32)), (0, .ref (w.2.2.1 0)), (1, .int x1)] dX9_lettersOf_3 rfl hl (by decide) rfl (fun ls hl => ?_)
  refine v_iconst 4 C (v := (0 : Int32)) dX9_lettersOf_4 (by decide) ?_
  refine v_istore 5 C [(4, .int (0 : Int32)), (3, .int (1 : Int32)), (2, .int (0 : Int32)), (0, .ref (w.2.2.1 0)), (1, .int x1)] dX9_lettersOf_5 hl (by decide) rfl (fun ls hl => ?_)
  exact w_X9_lettersOf_l7 C zF _ _ _ _ _ _ (lv_sub hl [3, 4, 2, 1, 0] rfl) h
theorem c_X9_lettersOf {w : zWd} {l0 : Launch} {x1 : Int32} {S S1 : zMem} {r : Int32} (h : f_X9_lettersOf x1 S = some (r, S1)) : zMet LM w l0 yX9_lettersOf cX9_lettersOf 5 (some .int) 2 [.ref (w.2.2.1 0), .int x1] S (some (.int r)) S1 :=
  zMet_of (by decide +kernel) (Nat.le_of_ble_eq_true rfl) (fun X ls C hl => w_X9_lettersOf_b0 C hl h)
theorem dX9_endTogether_0 : decode cX9_endTogether 0 = .ok (.aload_n 0, 1) := by decide +kernel
theorem dX9_endTogether_1 : decode cX9_endTogether 1 = .ok (.invokevirtual 180, 3) := by decide +kernel
theorem dX9_endTogether_4 : decode cX9_endTogether 4 = .ok (.iconst 0, 1) := by decide +kernel
theorem dX9_endTogether_5 : decode cX9_endTogether 5 = .ok (.istore_n 2, 1) := by decide +kernel
theorem dX9_endTogether_6 : decode cX9_endTogether 6 = .ok (.iconst 0, 1) := by decide +kernel
theorem dX9_endTogether_7 : decode cX9_endTogether 7 = .ok (.istore_n 3, 1) := by decide +kernel
theorem dX9_endTogether_8 : decode cX9_endTogether 8 = .ok (.iload_n 3, 1) := by decide +kernel
theorem dX9_endTogether_9 : decode cX9_endTogether 9 = .ok (.iload_n 1, 1) := by decide +kernel
theorem dX9_endTogether_10 : decode cX9_endTogether 10 = .ok (.if_icmp .ge 25, 3) := by decide +kernel
theorem dX9_endTogether_13 : decode cX9_endTogether 13 = .ok (.iload_n 2, 1) := by decide +kernel
theorem dX9_endTogether_14 : decode cX9_endTogether 14 = .ok (.aload_n 0, 1) := by decide +kernel
theorem dX9_endTogether_15 : decode cX9_endTogether 15 = .ok (.sipush 2792, 3) := by decide +kernel
theorem dX9_endTogether_18 : decode cX9_endTogether 18 = .ok (.aload_n 0, 1) := by decide +kernel
theorem dX9_endTogether_19 : decode cX9_endTogether 19 = .ok (.getfield 47, 3) := by decide +kernel
theorem dX9_endTogether_22 : decode cX9_endTogether 22 = .ok (.iload_n 3, 1) := by decide +kernel
theorem dX9_endTogether_23 : decode cX9_endTogether 23 = .ok (.iaload, 1) := by decide +kernel
theorem dX9_endTogether_24 : decode cX9_endTogether 24 = .ok (.invokevirtual 183, 3) := by decide +kernel
theorem dX9_endTogether_27 : decode cX9_endTogether 27 = .ok (.iadd, 1) := by decide +kernel
theorem dX9_endTogether_28 : decode cX9_endTogether 28 = .ok (.istore_n 2, 1) := by decide +kernel
theorem dX9_endTogether_29 : decode cX9_endTogether 29 = .ok (.iinc 3 1, 3) := by decide +kernel
theorem dX9_endTogether_32 : decode cX9_endTogether 32 = .ok (.goto (-24), 3) := by decide +kernel
theorem dX9_endTogether_35 : decode cX9_endTogether 35 = .ok (.iload_n 2, 1) := by decide +kernel
theorem dX9_endTogether_36 : decode cX9_endTogether 36 = .ok (.ireturn, 1) := by decide +kernel
set_option maxRecDepth 20000 in
theorem w_X9_endTogether_b8 {w : zWd} {X : zX} {l0 : Launch} {r : Int32} {S1 : zMem} (C : zC LM w X l0 cX9_endTogether RX9 4 3 (some .int)) {k8 : Int32 → Int32 → Int32 → zMem → Option (Int32 × zMem)} (hc8 : ∀ (x1 : Int32) (x2 : Int32) (x3 : Int32) (S : zMem) (ls : Array Slot), lv_has ls 4 [(0, .ref (w.2.2.1 0)), (1, .int x1), (2, .int x2), (3, .int x3)] → k8 x1 x2 x3 S = some (r, S1) → zV LM w X (some (.int r)) S1 S 8 ls []) {x1 : Int32} {x2 : Int32} {x3 : Int32} {S : zMem} {ls : Array Slot} (hl : lv_has ls 4 [(0, .ref (w.2.2.1 0)), (1, .int x1), (2, .int x2), (3, .int x3)]) (h : X9_endTogether_b8 k8 x1 x2 x3 S = some (r, S1)) : zV LM w X (some (.int r)) S1 S 8 ls [] := by
  unfold X9_endTogether_b8 at h
  refine v_iload_n 8 C dX9_endTogether_8 rfl (lv_at hl 3 rfl) ?_
  refine v_iload_n 9 C dX9_endTogether_9 rfl (lv_at hl 1 rfl) ?_
  refine v_icmp_ge 10 35 C dX9_endTogether_10 (by decide) h (fun h => ?_) (fun h => ?_)
  · refine v_iload_n 35 C dX9_endTogether_35 rfl (lv_at hl 2 rfl) ?_
    exact v_ireturn 36 C dX9_endTogether_36 h
  · refine v_iload_n 13 C dX9_endTogether_13 rfl (lv_at hl 2 rfl) ?_
    refine v_aload_n 14 C dX9_endTogether_14 rfl (lv_at hl 0 rfl) ?_
    refine v_sipush 15 C (v := (2792 : Int32)) dX9_endTogether_15 (by decide) ?_
    refine v_aload_n 18 C dX9_endTogether_18 rfl (lv_at hl 0 rfl) ?_
    refine v_getr 19 (12) C dX9_endTogether_19 fl_X9_47 rfl kM_0 rfl ?_
    refine v_iload_n 22 C dX9_endTogether_22 rfl (lv_at hl 3 rfl) ?_
    refine v_iald 23 C dX9_endTogether_23 kM_12 rfl h (fun v1 h => ?_)
    obtain ⟨v2, S, hc, h⟩ := zb_e h
    refine v_callVi 24 C (ci := 8) [.int x2] dX9_endTogether_24 ml_X9_183 hy_X9_carries (c_X9_carries  hc) (by decide) rfl hl.1 kM_0 rfl (Nat.le_of_ble_eq_true rfl) rfl ?_
    refine v_iadd 27 C dX9_endTogether_27 h (fun v3 h => ?_)
    refine v_istore_n 28 C [(2, .int v3), (0, .ref (w.2.2.1 0)), (1, .int x1), (3, .int x3)] dX9_endTogether_28 rfl hl (by decide) rfl (fun ls hl => ?_)
    refine v_iinc 29 C (nn := (1 : Int32)) (fun v => [(3, .int v), (2, .int v3), (0, .ref (w.2.2.1 0)), (1, .int x1)]) dX9_endTogether_29 hl (k := 3) rfl (by decide) (by decide) (fun _ => rfl) h (fun v4 ls hl h => ?_)
    refine v_goto 32 8 C dX9_endTogether_32 (by decide) ?_
    exact hc8 _ _ _ _ _ (lv_sub hl [2, 3, 1, 0] rfl) h
theorem w_X9_endTogether_l8 {w : zWd} {X : zX} {l0 : Launch} {r : Int32} {S1 : zMem} (C : zC LM w X l0 cX9_endTogether RX9 4 3 (some .int)) : ∀ (n : Nat) (x1 : Int32) (x2 : Int32) (x3 : Int32) (S : zMem) (ls : Array Slot), lv_has ls 4 [(0, .ref (w.2.2.1 0)), (1, .int x1), (2, .int x2), (3, .int x3)] → X9_endTogether_l8 n x1 x2 x3 S = some (r, S1) → zV LM w X (some (.int r)) S1 S 8 ls [] := by
  intro n
  induction n with
  | zero =>
    intro x1 x2 x3 S ls hl h
    cases (show (none : Option (Int32 × zMem)) = some _ from h)
  | succ n ih =>
    intro x1 x2 x3 S ls hl h
    exact w_X9_endTogether_b8 C ih hl h
set_option maxRecDepth 20000 in
theorem w_X9_endTogether_b0 {w : zWd} {X : zX} {l0 : Launch} {r : Int32} {S1 : zMem} (C : zC LM w X l0 cX9_endTogether RX9 4 3 (some .int)) {x1 : Int32} {S : zMem} {ls : Array Slot} (hl : lv_has ls 4 [(0, .ref (w.2.2.1 0)), (1, .int x1)]) (h : X9_endTogether_b0 x1 S = some (r, S1)) : zV LM w X (some (.int r)) S1 S 0 ls [] := by
  unfold X9_endTogether_b0 at h
  refine v_aload_n 0 C dX9_endTogether_0 rfl (lv_at hl 0 rfl) ?_
  obtain ⟨v1, S, hc, h⟩ := zb_e h
  refine v_callVv 1 C (ci := 8) [] dX9_endTogether_1 ml_X9_180 hy_X9_layTried (c_X9_layTried  hc) (by decide) rfl hl.1 kM_0 rfl (Nat.le_of_ble_eq_true rfl) rfl ?_
  refine v_iconst 4 C (v := (0 : Int32)) dX9_endTogether_4 (by decide) ?_
  refine v_istore_n 5 C [(2, .int (0 : Int32)), (0, .ref (w.2.2.1 0)), (1, .int x1)] dX9_endTogether_5 rfl hl (by decide) rfl (fun ls hl => ?_)
  refine v_iconst 6 C (v := (0 : Int32)) dX9_endTogether_6 (by decide) ?_
  refine v_istore_n 7 C [(3, .int (0 : Int32)), (2, .int (0 : Int32)), (0, .ref (w.2.2.1 0)), (1, .int x1)] dX9_endTogether_7 rfl hl (by decide) rfl (fun ls hl => ?_)
  exact w_X9_endTogether_l8 C zF _ _ _ _ _ (lv_sub hl [2, 3, 1, 0] rfl) h
theorem c_X9_endTogether {w : zWd} {l0 : Launch} {x1 : Int32} {S S1 : zMem} {r : Int32} (h : f_X9_endTogether x1 S = some (r, S1)) : zMet LM w l0 yX9_endTogether cX9_endTogether 4 (some .int) 3 [.ref (w.2.2.1 0), .int x1] S (some (.int r)) S1 :=
  zMet_of (by decide +kernel) (Nat.le_of_ble_eq_true rfl) (fun X ls C hl => w_X9_endTogether_b0 C hl h)
