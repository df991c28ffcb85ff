-- X9_endLifted X9_tellParts X9_tellLifts X9_odds X9_mid X9_byLot X9_allBonds X9_lots X9_asked X9_upper X9_lower X9_those X9_thereOf X9_countOf X9_count X9_finding X9_findings X9_digest
theorem dX9_endLifted_0 : decode cX9_endLifted 0 = .ok (.aload_n 0, 1) := by decide +kernel
theorem dX9_endLifted_1 : decode cX9_endLifted 1 = .ok (.invokevirtual 180, 3) := by decide +kernel
theorem dX9_endLifted_4 : decode cX9_endLifted 4 = .ok (.iconst 0, 1) := by decide +kernel
theorem dX9_endLifted_5 : decode cX9_endLifted 5 = .ok (.istore_n 3, 1) := by decide +kernel
theorem dX9_endLifted_6 : decode cX9_endLifted 6 = .ok (.iconst 0, 1) := by decide +kernel
theorem dX9_endLifted_7 : decode cX9_endLifted 7 = .ok (.istore 4, 2) := by decide +kernel
theorem dX9_endLifted_9 : decode cX9_endLifted 9 = .ok (.iload 4, 2) := by decide +kernel
theorem dX9_endLifted_11 : decode cX9_endLifted 11 = .ok (.aload_n 0, 1) := by decide +kernel
theorem dX9_endLifted_12 : decode cX9_endLifted 12 = .ok (.getfield 22, 3) := by decide +kernel
theorem dX9_endLifted_15 : decode cX9_endLifted 15 = .ok (.iload_n 1, 1) := by decide +kernel
theorem dX9_endLifted_16 : decode cX9_endLifted 16 = .ok (.iaload, 1) := by decide +kernel
theorem dX9_endLifted_17 : decode cX9_endLifted 17 = .ok (.if_icmp .ge 67, 3) := by decide +kernel
theorem dX9_endLifted_20 : decode cX9_endLifted 20 = .ok (.aload_n 0, 1) := by decide +kernel
theorem dX9_endLifted_21 : decode cX9_endLifted 21 = .ok (.getfield 7, 3) := by decide +kernel
theorem dX9_endLifted_24 : decode cX9_endLifted 24 = .ok (.sipush 2794, 3) := by decide +kernel
theorem dX9_endLifted_27 : decode cX9_endLifted 27 = .ok (.aload_n 0, 1) := by decide +kernel
theorem dX9_endLifted_28 : decode cX9_endLifted 28 = .ok (.getfield 7, 3) := by decide +kernel
theorem dX9_endLifted_31 : decode cX9_endLifted 31 = .ok (.sipush 2794, 3) := by decide +kernel
theorem dX9_endLifted_34 : decode cX9_endLifted 34 = .ok (.iaload, 1) := by decide +kernel
theorem dX9_endLifted_35 : decode cX9_endLifted 35 = .ok (.iload_n 2, 1) := by decide +kernel
theorem dX9_endLifted_36 : decode cX9_endLifted 36 = .ok (.iload 4, 2) := by decide +kernel
theorem dX9_endLifted_38 : decode cX9_endLifted 38 = .ok (.invokestatic 176, 3) := by decide +kernel
theorem dX9_endLifted_41 : decode cX9_endLifted 41 = .ok (.ifCond .eq 7, 3) := by decide +kernel
theorem dX9_endLifted_44 : decode cX9_endLifted 44 = .ok (.iconst 1, 1) := by decide +kernel
theorem dX9_endLifted_45 : decode cX9_endLifted 45 = .ok (.goto 4, 3) := by decide +kernel
theorem dX9_endLifted_48 : decode cX9_endLifted 48 = .ok (.iconst 0, 1) := by decide +kernel
theorem dX9_endLifted_49 : decode cX9_endLifted 49 = .ok (.iadd, 1) := by decide +kernel
theorem dX9_endLifted_50 : decode cX9_endLifted 50 = .ok (.bipush 9, 2) := by decide +kernel
theorem dX9_endLifted_52 : decode cX9_endLifted 52 = .ok (.invokestatic 158, 3) := by decide +kernel
theorem dX9_endLifted_55 : decode cX9_endLifted 55 = .ok (.iastore, 1) := by decide +kernel
theorem dX9_endLifted_56 : decode cX9_endLifted 56 = .ok (.iload_n 3, 1) := by decide +kernel
theorem dX9_endLifted_57 : decode cX9_endLifted 57 = .ok (.aload_n 0, 1) := by decide +kernel
theorem dX9_endLifted_58 : decode cX9_endLifted 58 = .ok (.sipush 2792, 3) := by decide +kernel
theorem dX9_endLifted_61 : decode cX9_endLifted 61 = .ok (.aload_n 0, 1) := by decide +kernel
theorem dX9_endLifted_62 : decode cX9_endLifted 62 = .ok (.getfield 25, 3) := by decide +kernel
theorem dX9_endLifted_65 : decode cX9_endLifted 65 = .ok (.bipush 40, 2) := by decide +kernel
theorem dX9_endLifted_67 : decode cX9_endLifted 67 = .ok (.iload_n 1, 1) := by decide +kernel
theorem dX9_endLifted_68 : decode cX9_endLifted 68 = .ok (.imul, 1) := by decide +kernel
theorem dX9_endLifted_69 : decode cX9_endLifted 69 = .ok (.iload 4, 2) := by decide +kernel
theorem dX9_endLifted_71 : decode cX9_endLifted 71 = .ok (.iadd, 1) := by decide +kernel
theorem dX9_endLifted_72 : decode cX9_endLifted 72 = .ok (.iaload, 1) := by decide +kernel
theorem dX9_endLifted_73 : decode cX9_endLifted 73 = .ok (.invokevirtual 183, 3) := by decide +kernel
theorem dX9_endLifted_76 : decode cX9_endLifted 76 = .ok (.iadd, 1) := by decide +kernel
theorem dX9_endLifted_77 : decode cX9_endLifted 77 = .ok (.istore_n 3, 1) := by decide +kernel
theorem dX9_endLifted_78 : decode cX9_endLifted 78 = .ok (.iinc 4 1, 3) := by decide +kernel
theorem dX9_endLifted_81 : decode cX9_endLifted 81 = .ok (.goto (-72), 3) := by decide +kernel
theorem dX9_endLifted_84 : decode cX9_endLifted 84 = .ok (.iload_n 3, 1) := by decide +kernel
theorem dX9_endLifted_85 : decode cX9_endLifted 85 = .ok (.ireturn, 1) := by decide +kernel
set_option maxRecDepth 20000 in
theorem w_X9_endLifted_b49 {w : zWd} {X : zX} {l0 : Launch} {r : Int32} {S1 : zMem} (C : zC LM w X l0 cX9_endLifted RX9 5 3 (some .int)) {k9 : Int32 → Int32 → Int32 → Int32 → zMem → Option (Int32 × zMem)} (hc9 : ∀ (x1 : Int32) (x2 : Int32) (x3 : Int32) (x4 : Int32) (S : zMem) (ls : Array Slot), lv_has ls 5 [(0, .ref (w.2.2.1 0)), (1, .int x1), (2, .int x2), (3, .int x3), (4, .int x4)] → k9 x1 x2 x3 x4 S = some (r, S1) → zV LM w X (some (.int r)) S1 S 9 ls []) {x1 : Int32} {x2 : Int32} {x3 : Int32} {x4 : Int32} {s1 : Int32} {s2 : Int32} {s3 : Int32} {S : zMem} {ls : Array Slot} (hl : lv_has ls 5 [(0, .ref (w.2.2.1 0)), (1, .int x1), (2, .int x2), (3, .int x3), (4, .int x4)]) (h : X9_endLifted_b49 k9 x1 x2 x3 x4 s1 s2 s3 S = some (r, S1)) : zV LM w X (some (.int r)) S1 S 49 ls [.int s3, .int s2, .int s1, .ref (w.2.2.1 1)] := by
  unfold X9_endLifted_b49 at h
  refine v_iadd 49 C dX9_endLifted_49 h (fun v1 h => ?_)
  refine v_bipush 50 C (v := (9 : Int32)) dX9_endLifted_50 (by decide) ?_
  obtain ⟨v2, S, hc, h⟩ := zb_e h
  refine v_callSi 52 C [.int s1, .ref (w.2.2.1 1)] dX9_endLifted_52 ml_X9_158 hy_X9_kept (c_X9_kept  hc) (by decide) rfl hl.1 (Nat.le_of_ble_eq_true rfl) rfl ?_
  refine v_iast 55 C dX9_endLifted_55 kM_1 rfl h (fun S h => ?_)
  refine v_iload_n 56 C dX9_endLifted_56 rfl (lv_at hl 3 rfl) ?_
  refine v_aload_n 57 C dX9_endLifted_57 rfl (lv_at hl 0 rfl) ?_
  refine v_sipush 58 C (v := (2792 : Int32)) dX9_endLifted_58 (by decide) ?_
  refine v_aload_n 61 C dX9_endLifted_61 rfl (lv_at hl 0 rfl) ?_
  refine v_getr 62 (6) C dX9_endLifted_62 fl_X9_25 rfl kM_0 rfl ?_
  refine v_bipush 65 C (v := (40 : Int32)) dX9_endLifted_65 (by decide) ?_
  refine v_iload_n 67 C dX9_endLifted_67 rfl (lv_at hl 1 rfl) ?_
  refine v_imul 68 C dX9_endLifted_68 h (fun v3 h => ?_)
  refine v_iload 69 C dX9_endLifted_69 (lv_at hl 4 rfl) ?_
  refine v_iadd 71 C dX9_endLifted_71 h (fun v4 h => ?_)
  refine v_iald 72 C dX9_endLifted_72 kM_6 rfl h (fun v5 h => ?_)
  obtain ⟨v6, S, hc, h⟩ := zb_e h
  refine v_callVi 73 C (ci := 8) [.int x3] dX9_endLifted_73 ml_X9_183 hy_X9_carries (c_X9_carries  hc) (by decide) rfl hl.1 kM_0 rfl (Nat.le_of_ble_eq_true rfl) rfl ?_
  refine v_iadd 76 C dX9_endLifted_76 h (fun v7 h => ?_)
  refine v_istore_n 77 C [(3, .int v7), (0, .ref (w.2.2.1 0)), (1, .int x1), (2, .int x2), (4, .int x4)] dX9_endLifted_77 rfl hl (by decide) rfl (fun ls hl => ?_)
  refine v_iinc 78 C (nn := (1 : Int32)) (fun v => [(4, .int v), (3, .int v7), (0, .ref (w.2.2.1 0)), (1, .int x1), (2, .int x2)]) dX9_endLifted_78 hl (k := 4) rfl (by decide) (by decide) (fun _ => rfl) h (fun v8 ls hl h => ?_)
  refine v_goto 81 9 C dX9_endLifted_81 (by decide) ?_
  exact hc9 _ _ _ _ _ _ (lv_sub hl [2, 3, 4, 1, 0] rfl) h
set_option maxRecDepth 20000 in
theorem w_X9_endLifted_b9 {w : zWd} {X : zX} {l0 : Launch} {r : Int32} {S1 : zMem} (C : zC LM w X l0 cX9_endLifted RX9 5 3 (some .int)) {k9 : Int32 → Int32 → Int32 → Int32 → zMem → Option (Int32 × zMem)} (hc9 : ∀ (x1 : Int32) (x2 : Int32) (x3 : Int32) (x4 : Int32) (S : zMem) (ls : Array Slot), lv_has ls 5 [(0, .ref (w.2.2.1 0)), (1, .int x1), (2, .int x2), (3, .int x3), (4, .int x4)] → k9 x1 x2 x3 x4 S = some (r, S1) → zV LM w X (some (.int r)) S1 S 9 ls []) {x1 : Int32} {x2 : Int32} {x3 : Int32} {x4 : Int32} {S : zMem} {ls : Array Slot} (hl : lv_has ls 5 [(0, .ref (w.2.2.1 0)), (1, .int x1), (2, .int x2), (3, .int x3), (4, .int x4)]) (h : X9_endLifted_b9 k9 x1 x2 x3 x4 S = some (r, S1)) : zV LM w X (some (.int r)) S1 S 9 ls [] := by
  unfold X9_endLifted_b9 at h
  refine v_iload 9 C dX9_endLifted_9 (lv_at hl 4 rfl) ?_
  refine v_aload_n 11 C dX9_endLifted_11 rfl (lv_at hl 0 rfl) ?_
  refine v_getr 12 (5) C dX9_endLifted_12 fl_X9_22 rfl kM_0 rfl ?_
  refine v_iload_n 15 C dX9_endLifted_15 rfl (lv_at hl 1 rfl) ?_
  refine v_iald 16 C dX9_endLifted_16 kM_5 rfl h (fun v1 h => ?_)
  refine v_icmp_ge 17 84 C dX9_endLifted_17 (by decide) h (fun h => ?_) (fun h => ?_)
  · refine v_iload_n 84 C dX9_endLifted_84 rfl (lv_at hl 3 rfl) ?_
    exact v_ireturn 85 C dX9_endLifted_85 h
  · refine v_aload_n 20 C dX9_endLifted_20 rfl (lv_at hl 0 rfl) ?_
    refine v_getr 21 (1) C dX9_endLifted_21 fl_X9_7 rfl kM_0 rfl ?_
    refine v_sipush 24 C (v := (2794 : Int32)) dX9_endLifted_24 (by decide) ?_
    refine v_aload_n 27 C dX9_endLifted_27 rfl (lv_at hl 0 rfl) ?_
    refine v_getr 28 (1) C dX9_endLifted_28 fl_X9_7 rfl kM_0 rfl ?_
    refine v_sipush 31 C (v := (2794 : Int32)) dX9_endLifted_31 (by decide) ?_
    refine v_iald 34 C dX9_endLifted_34 kM_1 rfl h (fun v2 h => ?_)
    refine v_iload_n 35 C dX9_endLifted_35 rfl (lv_at hl 2 rfl) ?_
    refine v_iload 36 C dX9_endLifted_36 (lv_at hl 4 rfl) ?_
    obtain ⟨v3, S, hc, h⟩ := zb_e h
    refine v_callSi 38 C [.int v2, .int (2794 : Int32), .ref (w.2.2.1 1)] dX9_endLifted_38 ml_X9_176 hy_X9_has (c_X9_has  hc) (by decide) rfl hl.1 (Nat.le_of_ble_eq_true rfl) rfl ?_
    refine v_if_eq 41 48 C dX9_endLifted_41 (by decide) h (fun h => ?_) (fun h => ?_)
    · refine v_iconst 48 C (v := (0 : Int32)) dX9_endLifted_48 (by decide) ?_
      exact w_X9_endLifted_b49 C hc9 (lv_sub hl [0, 1, 2, 3, 4] rfl) h
    · refine v_iconst 44 C (v := (1 : Int32)) dX9_endLifted_44 (by decide) ?_
      refine v_goto 45 49 C dX9_endLifted_45 (by decide) ?_
      exact w_X9_endLifted_b49 C hc9 (lv_sub hl [0, 1, 2, 3, 4] rfl) h
theorem w_X9_endLifted_l9 {w : zWd} {X : zX} {l0 : Launch} {r : Int32} {S1 : zMem} (C : zC LM w X l0 cX9_endLifted RX9 5 3 (some .int)) : ∀ (n : Nat) (x1 : Int32) (x2 : Int32) (x3 : Int32) (x4 : Int32) (S : zMem) (ls : Array Slot), lv_has ls 5 [(0, .ref (w.2.2.1 0)), (1, .int x1), (2, .int x2), (3, .int x3), (4, .int x4)] → X9_endLifted_l9 n x1 x2 x3 x4 S = some (r, S1) → zV LM w X (some (.int r)) S1 S 9 ls [] := by
  intro n
  induction n with
  | zero =>
    intro x1 x2 x3 x4 S ls hl h
    cases (show (none : Option (Int32 × zMem)) = some _ from h)
  | succ n ih =>
    intro x1 x2 x3 x4 S ls hl h
    exact w_X9_endLifted_b9 C ih hl h
set_option maxRecDepth 20000 in
theorem w_X9_endLifted_b0 {w : zWd} {X : zX} {l0 : Launch} {r : Int32} {S1 : zMem} (C : zC LM w X l0 cX9_endLifted RX9 5 3 (some .int)) {x1 : Int32} {x2 : Int32} {S : zMem} {ls : Array Slot} (hl : lv_has ls 5 [(0, .ref (w.2.2.1 0)), (1, .int x1), (2, .int x2)]) (h : X9_endLifted_b0 x1 x2 S = some (r, S1)) : zV LM w X (some (.int r)) S1 S 0 ls [] := by
  unfold X9_endLifted_b0 at h
  refine v_aload_n 0 C dX9_endLifted_0 rfl (lv_at hl 0 rfl) ?_
  obtain ⟨v1, S, hc, h⟩ := zb_e h
  refine v_callVv 1 C (ci := 8) [] dX9_endLifted_1 ml_X9_180 hy_X9_layTried (c_X9_layTried  hc) (by decide) rfl hl.1 kM_0 rfl (Nat.le_of_ble_eq_true rfl) rfl ?_
  refine v_iconst 4 C (v := (0 : Int32)) dX9_endLifted_4 (by decide) ?_
  refine v_istore_n 5 C [(3, .int (0 : Int32)), (0, .ref (w.2.2.1 0)), (1, .int x1), (2, .int x2)] dX9_endLifted_5 rfl hl (by decide) rfl (fun ls hl => ?_)
  refine v_iconst 6 C (v := (0 : Int32)) dX9_endLifted_6 (by decide) ?_
  refine v_istore 7 C [(4, .int (0 : Int32)), (3, .int (0 : Int32)), (0, .ref (w.2.2.1 0)), (1, .int x1), (2, .int x2)] dX9_endLifted_7 hl (by decide) rfl (fun ls hl => ?_)
  exact w_X9_endLifted_l9 C zF _ _ _ _ _ _ (lv_sub hl [2, 3, 4, 1, 0] rfl) h
theorem c_X9_endLifted {w : zWd} {l0 : Launch} {x1 : Int32} {x2 : Int32} {S S1 : zMem} {r : Int32} (h : f_X9_endLifted x1 x2 S = some (r, S1)) : zMet LM w l0 yX9_endLifted cX9_endLifted 5 (some .int) 3 [.ref (w.2.2.1 0), .int x1, .int x2] S (some (.int r)) S1 :=
  zMet_of (by decide +kernel) (Nat.le_of_ble_eq_true rfl) (fun X ls C hl => w_X9_endLifted_b0 C hl h)
theorem dX9_tellParts_0 : decode cX9_tellParts 0 = .ok (.lload_n 1, 1) := by decide +kernel
theorem dX9_tellParts_1 : decode cX9_tellParts 1 = .ok (.lstore 5, 2) := by decide +kernel
theorem dX9_tellParts_3 : decode cX9_tellParts 3 = .ok (.lload_n 3, 1) := by decide +kernel
theorem dX9_tellParts_4 : decode cX9_tellParts 4 = .ok (.lstore 7, 2) := by decide +kernel
theorem dX9_tellParts_6 : decode cX9_tellParts 6 = .ok (.lload 7, 2) := by decide +kernel
theorem dX9_tellParts_8 : decode cX9_tellParts 8 = .ok (.lconst 0, 1) := by decide +kernel
theorem dX9_tellParts_9 : decode cX9_tellParts 9 = .ok (.lcmp, 1) := by decide +kernel
theorem dX9_tellParts_10 : decode cX9_tellParts 10 = .ok (.ifCond .eq 21, 3) := by decide +kernel
theorem dX9_tellParts_13 : decode cX9_tellParts 13 = .ok (.lload 5, 2) := by decide +kernel
theorem dX9_tellParts_15 : decode cX9_tellParts 15 = .ok (.lload 7, 2) := by decide +kernel
theorem dX9_tellParts_17 : decode cX9_tellParts 17 = .ok (.lrem, 1) := by decide +kernel
theorem dX9_tellParts_18 : decode cX9_tellParts 18 = .ok (.lstore 9, 2) := by decide +kernel
theorem dX9_tellParts_20 : decode cX9_tellParts 20 = .ok (.lload 7, 2) := by decide +kernel
theorem dX9_tellParts_22 : decode cX9_tellParts 22 = .ok (.lstore 5, 2) := by decide +kernel
theorem dX9_tellParts_24 : decode cX9_tellParts 24 = .ok (.lload 9, 2) := by decide +kernel
theorem dX9_tellParts_26 : decode cX9_tellParts 26 = .ok (.lstore 7, 2) := by decide +kernel
theorem dX9_tellParts_28 : decode cX9_tellParts 28 = .ok (.goto (-22), 3) := by decide +kernel
theorem dX9_tellParts_31 : decode cX9_tellParts 31 = .ok (.aload_n 0, 1) := by decide +kernel
theorem dX9_tellParts_32 : decode cX9_tellParts 32 = .ok (.lload_n 1, 1) := by decide +kernel
theorem dX9_tellParts_33 : decode cX9_tellParts 33 = .ok (.lload 5, 2) := by decide +kernel
theorem dX9_tellParts_35 : decode cX9_tellParts 35 = .ok (.ldiv, 1) := by decide +kernel
theorem dX9_tellParts_36 : decode cX9_tellParts 36 = .ok (.putfield 256, 3) := by decide +kernel
theorem dX9_tellParts_39 : decode cX9_tellParts 39 = .ok (.aload_n 0, 1) := by decide +kernel
theorem dX9_tellParts_40 : decode cX9_tellParts 40 = .ok (.lload_n 3, 1) := by decide +kernel
theorem dX9_tellParts_41 : decode cX9_tellParts 41 = .ok (.lload 5, 2) := by decide +kernel
theorem dX9_tellParts_43 : decode cX9_tellParts 43 = .ok (.ldiv, 1) := by decide +kernel
theorem dX9_tellParts_44 : decode cX9_tellParts 44 = .ok (.putfield 34, 3) := by decide +kernel
theorem dX9_tellParts_47 : decode cX9_tellParts 47 = .ok (.return_, 1) := by decide +kernel
set_option maxRecDepth 20000 in
theorem w_X9_tellParts_b6 {w : zWd} {X : zX} {l0 : Launch} {r : Unit} {S1 : zMem} (C : zC LM w X l0 cX9_tellParts RX9 11 1 none) {k6 : Int64 → Int64 → Int64 → Int64 → zMem → Option (Unit × zMem)} (hc6 : ∀ (y1 : Int64) (y3 : Int64) (y5 : Int64) (y7 : Int64) (S : zMem) (ls : Array Slot), lv_has ls 11 [(0, .ref (w.2.2.1 0)), (1, .long y1), (3, .long y3), (5, .long y5), (7, .long y7)] → k6 y1 y3 y5 y7 S = some (r, S1) → zV LM w X none S1 S 6 ls []) {y1 : Int64} {y3 : Int64} {y5 : Int64} {y7 : Int64} {S : zMem} {ls : Array Slot} (hl : lv_has ls 11 [(0, .ref (w.2.2.1 0)), (1, .long y1), (3, .long y3), (5, .long y5), (7, .long y7)]) (h : X9_tellParts_b6 k6 y1 y3 y5 y7 S = some (r, S1)) : zV LM w X none S1 S 6 ls [] := by
  unfold X9_tellParts_b6 at h
  refine v_lload 6 C dX9_tellParts_6 (lv_at hl 4 rfl) ?_
  refine v_lconst 8 C (v := 0) dX9_tellParts_8 (by decide) ?_
  refine v_lcmp 9 C dX9_tellParts_9 h (fun v1 h => ?_)
  refine v_if_eq 10 31 C dX9_tellParts_10 (by decide) h (fun h => ?_) (fun h => ?_)
  · refine v_aload_n 31 C dX9_tellParts_31 rfl (lv_at hl 0 rfl) ?_
    refine v_lload_n 32 C dX9_tellParts_32 rfl (lv_at hl 1 rfl) ?_
    refine v_lload 33 C dX9_tellParts_33 (lv_at hl 3 rfl) ?_
    refine v_ldivc 35 C dX9_tellParts_35 h (fun v2 h => ?_)
    refine v_putl 36 C dX9_tellParts_36 fl_X9_256 fp_8_11 rfl kM_0 h (fun S h => ?_)
    refine v_aload_n 39 C dX9_tellParts_39 rfl (lv_at hl 0 rfl) ?_
    refine v_lload_n 40 C dX9_tellParts_40 rfl (lv_at hl 2 rfl) ?_
    refine v_lload 41 C dX9_tellParts_41 (lv_at hl 3 rfl) ?_
    refine v_ldivc 43 C dX9_tellParts_43 h (fun v3 h => ?_)
    refine v_putl 44 C dX9_tellParts_44 fl_X9_34 fp_8_12 rfl kM_0 h (fun S h => ?_)
    exact v_return 47 C dX9_tellParts_47 h
  · refine v_lload 13 C dX9_tellParts_13 (lv_at hl 3 rfl) ?_
    refine v_lload 15 C dX9_tellParts_15 (lv_at hl 4 rfl) ?_
    refine v_lremc 17 C dX9_tellParts_17 h (fun v4 h => ?_)
    refine v_lstore 18 C [(9, .long v4), (0, .ref (w.2.2.1 0)), (1, .long y1), (3, .long y3), (5, .long y5), (7, .long y7)] dX9_tellParts_18 hl (by decide) rfl (fun ls hl => ?_)
    refine v_lload 20 C dX9_tellParts_20 (lv_at hl 5 rfl) ?_
    refine v_lstore 22 C [(5, .long y7), (9, .long v4), (0, .ref (w.2.2.1 0)), (1, .long y1), (3, .long y3), (7, .long y7)] dX9_tellParts_22 hl (by decide) rfl (fun ls hl => ?_)
    refine v_lload 24 C dX9_tellParts_24 (lv_at hl 1 rfl) ?_
    refine v_lstore 26 C [(7, .long v4), (5, .long y7), (9, .long v4), (0, .ref (w.2.2.1 0)), (1, .long y1), (3, .long y3)] dX9_tellParts_26 hl (by decide) rfl (fun ls hl => ?_)
    refine v_goto 28 6 C dX9_tellParts_28 (by decide) ?_
    exact hc6 _ _ _ _ _ _ (lv_sub hl [3, 4, 5, 1, 0] rfl) h
theorem w_X9_tellParts_l6 {w : zWd} {X : zX} {l0 : Launch} {r : Unit} {S1 : zMem} (C : zC LM w X l0 cX9_tellParts RX9 11 1 none) : ∀ (n : Nat) (y1 : Int64) (y3 : Int64) (y5 : Int64) (y7 : Int64) (S : zMem) (ls : Array Slot), lv_has ls 11 [(0, .ref (w.2.2.1 0)), (1, .long y1), (3, .long y3), (5, .long y5), (7, .long y7)] → X9_tellParts_l6 n y1 y3 y5 y7 S = some (r, S1) → zV LM w X none S1 S 6 ls [] := by
  intro n
  induction n with
  | zero =>
    intro y1 y3 y5 y7 S ls hl h
    cases (show (none : Option (Unit × zMem)) = some _ from h)
  | succ n ih =>
    intro y1 y3 y5 y7 S ls hl h
    exact w_X9_tellParts_b6 C ih hl h
set_option maxRecDepth 20000 in
theorem w_X9_tellParts_b0 {w : zWd} {X : zX} {l0 : Launch} {r : Unit} {S1 : zMem} (C : zC LM w X l0 cX9_tellParts RX9 11 1 none) {y1 : Int64} {y3 : Int64} {S : zMem} {ls : Array Slot} (hl : lv_has ls 11 [(0, .ref (w.2.2.1 0)), (1, .long y1), (3, .long y3)]) (h : X9_tellParts_b0 y1 y3 S = some (r, S1)) : zV LM w X none S1 S 0 ls [] := by
  unfold X9_tellParts_b0 at h
  refine v_lload_n 0 C dX9_tellParts_0 rfl (lv_at hl 1 rfl) ?_
  refine v_lstore 1 C [(5, .long y1), (0, .ref (w.2.2.1 0)), (1, .long y1), (3, .long y3)] dX9_tellParts_1 hl (by decide) rfl (fun ls hl => ?_)
  refine v_lload_n 3 C dX9_tellParts_3 rfl (lv_at hl 3 rfl) ?_
  refine v_lstore 4 C [(7, .long y3), (5, .long y1), (0, .ref (w.2.2.1 0)), (1, .long y1), (3, .long y3)] dX9_tellParts_4 hl (by decide) rfl (fun ls hl => ?_)
  exact w_X9_tellParts_l6 C zF _ _ _ _ _ _ (lv_sub hl [2, 3, 4, 1, 0] rfl) h
theorem c_X9_tellParts {w : zWd} {l0 : Launch} {y1 : Int64} {y3 : Int64} {S S1 : zMem} {r : Unit} (h : f_X9_tellParts y1 y3 S = some (r, S1)) : zMet LM w l0 yX9_tellParts cX9_tellParts 11 none 1 [.ref (w.2.2.1 0), .long y1, .long y3] S none S1 :=
  zMet_of (by decide +kernel) (Nat.le_of_ble_eq_true rfl) (fun X ls C hl => w_X9_tellParts_b0 C hl h)
theorem ml_X9_268 : Cond.methodLink RX9 268 yX9_endLifted ∈ zT := zT_of (List.mem_of_getElem? (i := 1285) (by decide +kernel)) rfl
theorem hy_X9_endLifted : zYv yX9_endLifted cX9_endLifted 5 (some .int) 2 := ⟨⟨zT_of (List.mem_of_getElem? (i := 1288) (by decide +kernel)) rfl, zT_of (List.mem_of_getElem? (i := 78) (by decide +kernel)) rfl, by decide, by decide +kernel, by decide +kernel, by decide +kernel⟩, zT_of (List.mem_of_getElem? (i := 1287) (by decide +kernel)) rfl, zT_of (List.mem_of_getElem? (i := 62) (by decide +kernel)) rfl⟩
theorem ml_X9_271 : Cond.methodLink RX9 271 yX9_tellParts ∈ zT := zT_of (List.mem_of_getElem? (i := 1289) (by decide +kernel)) rfl
theorem hy_X9_tellParts : zYv yX9_tellParts cX9_tellParts 11 none 2 := ⟨⟨zT_of (List.mem_of_getElem? (i := 1292) (by decide +kernel)) rfl, zT_of (List.mem_of_getElem? (i := 78) (by decide +kernel)) rfl, by decide, by decide +kernel, by decide +kernel, by decide +kernel⟩, zT_of (List.mem_of_getElem? (i := 1291) (by decide +kernel)) rfl, zT_of (List.mem_of_getElem? (i := 63) (by decide +kernel)) rfl⟩
theorem dX9_tellLifts_0 : decode cX9_tellLifts 0 = .ok (.lconst 0, 1) := by decide +kernel
theorem dX9_tellLifts_1 : decode cX9_tellLifts 1 = .ok (.lstore 5, 2) := by decide +kernel
theorem dX9_tellLifts_3 : decode cX9_tellLifts 3 = .ok (.lconst 0, 1) := by decide +kernel
theorem dX9_tellLifts_4 : decode cX9_tellLifts 4 = .ok (.lstore 7, 2) := by decide +kernel
theorem dX9_tellLifts_6 : decode cX9_tellLifts 6 = .ok (.iconst 0, 1) := by decide +kernel
theorem dX9_tellLifts_7 : decode cX9_tellLifts 7 = .ok (.istore 9, 2) := by decide +kernel
theorem dX9_tellLifts_9 : decode cX9_tellLifts 9 = .ok (.iload 9, 2) := by decide +kernel
theorem dX9_tellLifts_11 : decode cX9_tellLifts 11 = .ok (.iconst 1, 1) := by decide +kernel
theorem dX9_tellLifts_12 : decode cX9_tellLifts 12 = .ok (.aload_n 0, 1) := by decide +kernel
theorem dX9_tellLifts_13 : decode cX9_tellLifts 13 = .ok (.getfield 22, 3) := by decide +kernel
theorem dX9_tellLifts_16 : decode cX9_tellLifts 16 = .ok (.iload_n 1, 1) := by decide +kernel
theorem dX9_tellLifts_17 : decode cX9_tellLifts 17 = .ok (.iaload, 1) := by decide +kernel
theorem dX9_tellLifts_18 : decode cX9_tellLifts 18 = .ok (.ishl, 1) := by decide +kernel
theorem dX9_tellLifts_19 : decode cX9_tellLifts 19 = .ok (.if_icmp .ge 104, 3) := by decide +kernel
theorem dX9_tellLifts_22 : decode cX9_tellLifts 22 = .ok (.lconst 1, 1) := by decide +kernel
theorem dX9_tellLifts_23 : decode cX9_tellLifts 23 = .ok (.lstore 10, 2) := by decide +kernel
theorem dX9_tellLifts_25 : decode cX9_tellLifts 25 = .ok (.iconst 0, 1) := by decide +kernel
theorem dX9_tellLifts_26 : decode cX9_tellLifts 26 = .ok (.istore 12, 2) := by decide +kernel
theorem dX9_tellLifts_28 : decode cX9_tellLifts 28 = .ok (.iload 12, 2) := by decide +kernel
theorem dX9_tellLifts_30 : decode cX9_tellLifts 30 = .ok (.aload_n 0, 1) := by decide +kernel
theorem dX9_tellLifts_31 : decode cX9_tellLifts 31 = .ok (.getfield 22, 3) := by decide +kernel
theorem dX9_tellLifts_34 : decode cX9_tellLifts 34 = .ok (.iload_n 1, 1) := by decide +kernel
theorem dX9_tellLifts_35 : decode cX9_tellLifts 35 = .ok (.iaload, 1) := by decide +kernel
theorem dX9_tellLifts_36 : decode cX9_tellLifts 36 = .ok (.if_icmp .ge 34, 3) := by decide +kernel
theorem dX9_tellLifts_39 : decode cX9_tellLifts 39 = .ok (.lload 10, 2) := by decide +kernel
theorem dX9_tellLifts_41 : decode cX9_tellLifts 41 = .ok (.iload 9, 2) := by decide +kernel
theorem dX9_tellLifts_43 : decode cX9_tellLifts 43 = .ok (.iload 12, 2) := by decide +kernel
theorem dX9_tellLifts_45 : decode cX9_tellLifts 45 = .ok (.invokestatic 176, 3) := by decide +kernel
theorem dX9_tellLifts_48 : decode cX9_tellLifts 48 = .ok (.ifCond .eq 8, 3) := by decide +kernel
theorem dX9_tellLifts_51 : decode cX9_tellLifts 51 = .ok (.iload_n 3, 1) := by decide +kernel
theorem dX9_tellLifts_52 : decode cX9_tellLifts 52 = .ok (.i2l, 1) := by decide +kernel
theorem dX9_tellLifts_53 : decode cX9_tellLifts 53 = .ok (.goto 8, 3) := by decide +kernel
theorem dX9_tellLifts_56 : decode cX9_tellLifts 56 = .ok (.bipush 12, 2) := by decide +kernel
theorem dX9_tellLifts_58 : decode cX9_tellLifts 58 = .ok (.iload_n 3, 1) := by decide +kernel
theorem dX9_tellLifts_59 : decode cX9_tellLifts 59 = .ok (.isub, 1) := by decide +kernel
theorem dX9_tellLifts_60 : decode cX9_tellLifts 60 = .ok (.i2l, 1) := by decide +kernel
theorem dX9_tellLifts_61 : decode cX9_tellLifts 61 = .ok (.lmul, 1) := by decide +kernel
theorem dX9_tellLifts_62 : decode cX9_tellLifts 62 = .ok (.lstore 10, 2) := by decide +kernel
theorem dX9_tellLifts_64 : decode cX9_tellLifts 64 = .ok (.iinc 12 1, 3) := by decide +kernel
theorem dX9_tellLifts_67 : decode cX9_tellLifts 67 = .ok (.goto (-39), 3) := by decide +kernel
theorem dX9_tellLifts_70 : decode cX9_tellLifts 70 = .ok (.aload_n 0, 1) := by decide +kernel
theorem dX9_tellLifts_71 : decode cX9_tellLifts 71 = .ok (.iload_n 1, 1) := by decide +kernel
theorem dX9_tellLifts_72 : decode cX9_tellLifts 72 = .ok (.iload 9, 2) := by decide +kernel
theorem dX9_tellLifts_74 : decode cX9_tellLifts 74 = .ok (.invokevirtual 268, 3) := by decide +kernel
theorem dX9_tellLifts_77 : decode cX9_tellLifts 77 = .ok (.istore 12, 2) := by decide +kernel
theorem dX9_tellLifts_79 : decode cX9_tellLifts 79 = .ok (.lload 5, 2) := by decide +kernel
theorem dX9_tellLifts_81 : decode cX9_tellLifts 81 = .ok (.iload 4, 2) := by decide +kernel
theorem dX9_tellLifts_83 : decode cX9_tellLifts 83 = .ok (.ifCond .eq 12, 3) := by decide +kernel
theorem dX9_tellLifts_86 : decode cX9_tellLifts 86 = .ok (.lload 10, 2) := by decide +kernel
theorem dX9_tellLifts_88 : decode cX9_tellLifts 88 = .ok (.iload 12, 2) := by decide +kernel
theorem dX9_tellLifts_90 : decode cX9_tellLifts 90 = .ok (.i2l, 1) := by decide +kernel
theorem dX9_tellLifts_91 : decode cX9_tellLifts 91 = .ok (.lmul, 1) := by decide +kernel
theorem dX9_tellLifts_92 : decode cX9_tellLifts 92 = .ok (.goto 15, 3) := by decide +kernel
theorem dX9_tellLifts_95 : decode cX9_tellLifts 95 = .ok (.iload 12, 2) := by decide +kernel
theorem dX9_tellLifts_97 : decode cX9_tellLifts 97 = .ok (.iload_n 2, 1) := by decide +kernel
theorem dX9_tellLifts_98 : decode cX9_tellLifts 98 = .ok (.if_icmp .lt 8, 3) := by decide +kernel
theorem dX9_tellLifts_101 : decode cX9_tellLifts 101 = .ok (.lload 10, 2) := by decide +kernel
theorem dX9_tellLifts_103 : decode cX9_tellLifts 103 = .ok (.goto 4, 3) := by decide +kernel
theorem dX9_tellLifts_106 : decode cX9_tellLifts 106 = .ok (.lconst 0, 1) := by decide +kernel
theorem dX9_tellLifts_107 : decode cX9_tellLifts 107 = .ok (.ladd, 1) := by decide +kernel
theorem dX9_tellLifts_108 : decode cX9_tellLifts 108 = .ok (.lstore 5, 2) := by decide +kernel
theorem dX9_tellLifts_110 : decode cX9_tellLifts 110 = .ok (.lload 7, 2) := by decide +kernel
theorem dX9_tellLifts_112 : decode cX9_tellLifts 112 = .ok (.lload 10, 2) := by decide +kernel
theorem dX9_tellLifts_114 : decode cX9_tellLifts 114 = .ok (.ladd, 1) := by decide +kernel
theorem dX9_tellLifts_115 : decode cX9_tellLifts 115 = .ok (.lstore 7, 2) := by decide +kernel
theorem dX9_tellLifts_117 : decode cX9_tellLifts 117 = .ok (.iinc 9 1, 3) := by decide +kernel
theorem dX9_tellLifts_120 : decode cX9_tellLifts 120 = .ok (.goto (-111), 3) := by decide +kernel
theorem dX9_tellLifts_123 : decode cX9_tellLifts 123 = .ok (.aload_n 0, 1) := by decide +kernel
theorem dX9_tellLifts_124 : decode cX9_tellLifts 124 = .ok (.lload 5, 2) := by decide +kernel
theorem dX9_tellLifts_126 : decode cX9_tellLifts 126 = .ok (.lload 7, 2) := by decide +kernel
theorem dX9_tellLifts_128 : decode cX9_tellLifts 128 = .ok (.invokevirtual 271, 3) := by decide +kernel
theorem dX9_tellLifts_131 : decode cX9_tellLifts 131 = .ok (.iconst 1, 1) := by decide +kernel
theorem dX9_tellLifts_132 : decode cX9_tellLifts 132 = .ok (.ireturn, 1) := by decide +kernel
set_option maxRecDepth 20000 in
theorem w_X9_tellLifts_b61 {w : zWd} {X : zX} {l0 : Launch} {r : Int32} {S1 : zMem} (C : zC LM w X l0 cX9_tellLifts RX9 13 4 (some .int)) {k9 : Int32 → Int32 → Int32 → Int32 → Int64 → Int64 → Int32 → zMem → Option (Int32 × zMem)} {k28 : Int32 → Int32 → Int32 → Int32 → Int64 → Int64 → Int32 → Int64 → Int32 → zMem → Option (Int32 × zMem)} (hc9 : ∀ (x1 : Int32) (x2 : Int32) (x3 : Int32) (x4 : Int32) (y5 : Int64) (y7 : Int64) (x9 : Int32) (S : zMem) (ls : Array Slot), lv_has ls 13 [(0, .ref (w.2.2.1 0)), (1, .int x1), (2, .int x2), (3, .int x3), (4, .int x4), (5, .long y5), (7, .long y7), (9, .int x9)] → k9 x1 x2 x3 x4 y5 y7 x9 S = some (r, S1) → zV LM w X (some (.int r)) S1 S 9 ls []) (hc28 : ∀ (x1 : Int32) (x2 : Int32) (x3 : Int32) (x4 : Int32) (y5 : Int64) (y7 : Int64) (x9 : Int32) (y10 : Int64) (x12 : Int32) (S : zMem) (ls : Array Slot), lv_has ls 13 [(0, .ref (w.2.2.1 0)), (1, .int x1), (2, .int x2), (3, .int x3), (4, .int x4), (5, .long y5), (7, .long y7), (9, .int x9), (10, .long y10), (12, .int x12)] → k28 x1 x2 x3 x4 y5 y7 x9 y10 x12 S = some (r, S1) → zV LM w X (some (.int r)) S1 S 28 ls []) {x1 : Int32} {x2 : Int32} {x3 : Int32} {x4 : Int32} {y5 : Int64} {y7 : Int64} {x9 : Int32} {x12 : Int32} {s0 : Int64} {s1 : Int64} {S : zMem} {ls : Array Slot} (hl : lv_has ls 13 [(0, .ref (w.2.2.1 0)), (1, .int x1), (2, .int x2), (3, .int x3), (4, .int x4), (5, .long y5), (7, .long y7), (9, .int x9), (12, .int x12)]) (h : X9_tellLifts_b61 k9 k28 x1 x2 x3 x4 y5 y7 x9 x12 s0 s1 S = some (r, S1)) : zV LM w X (some (.int r)) S1 S 61 ls [.long s1, .long s0] := by
  unfold X9_tellLifts_b61 at h
  refine v_lmul 61 C dX9_tellLifts_61 h (fun v1 h => ?_)
  refine v_lstore 62 C [(10, .long v1), (0, .ref (w.2.2.1 0)), (1, .int x1), (2, .int x2), (3, .int x3), (4, .int x4), (5, .long y5), (7, .long y7), (9, .int x9), (12, .int x12)] dX9_tellLifts_62 hl (by decide) rfl (fun ls hl => ?_)
  refine v_iinc 64 C (nn := (1 : Int32)) (fun v => [(12, .int v), (10, .long v1), (0, .ref (w.2.2.1 0)), (1, .int x1), (2, .int x2), (3, .int x3), (4, .int x4), (5, .long y5), (7, .long y7), (9, .int x9)]) dX9_tellLifts_64 hl (k := 9) rfl (by decide) (by decide) (fun _ => rfl) h (fun v2 ls hl h => ?_)
  refine v_goto 67 28 C dX9_tellLifts_67 (by decide) ?_
  exact hc28 _ _ _ _ _ _ _ _ _ _ _ (lv_sub hl [2, 3, 4, 5, 6, 7, 8, 9, 1, 0] rfl) h
set_option maxRecDepth 20000 in
theorem w_X9_tellLifts_b107 {w : zWd} {X : zX} {l0 : Launch} {r : Int32} {S1 : zMem} (C : zC LM w X l0 cX9_tellLifts RX9 13 4 (some .int)) {k9 : Int32 → Int32 → Int32 → Int32 → Int64 → Int64 → Int32 → zMem → Option (Int32 × zMem)} (hc9 : ∀ (x1 : Int32) (x2 : Int32) (x3 : Int32) (x4 : Int32) (y5 : Int64) (y7 : Int64) (x9 : Int32) (S : zMem) (ls : Array Slot), lv_has ls 13 [(0, .ref (w.2.2.1 0)), (1, .int x1), (2, .int x2), (3, .int x3), (4, .int x4), (5, .long y5), (7, .long y7), (9, .int x9)] → k9 x1 x2 x3 x4 y5 y7 x9 S = some (r, S1) → zV LM w X (some (.int r)) S1 S 9 ls []) {x1 : Int32} {x2 : Int32} {x3 : Int32} {x4 : Int32} {y7 : Int64} {x9 : Int32} {y10 : Int64} {s0 : Int64} {s1 : Int64} {S : zMem} {ls : Array Slot} (hl : lv_has ls 13 [(0, .ref (w.2.2.1 0)), (1, .int x1), (2, .int x2), (3, .int x3), (4, .int x4), (7, .long y7), (9, .int x9), (10, .long y10)]) (h : X9_tellLifts_b107 k9 x1 x2 x3 x4 y7 x9 y10 s0 s1 S = some (r, S1)) : zV LM w X (some (.int r)) S1 S 107 ls [.long s1, .long s0] := by
  unfold X9_tellLifts_b107 at h
  refine v_ladd 107 C dX9_tellLifts_107 h (fun v1 h => ?_)
  refine v_lstore 108 C [(5, .long v1), (0, .ref (w.2.2.1 0)), (1, .int x1), (2, .int x2), (3, .int x3), (4, .int x4), (7, .long y7), (9, .int x9), (10, .long y10)] dX9_tellLifts_108 hl (by decide) rfl (fun ls hl => ?_)
  refine v_lload 110 C dX9_tellLifts_110 (lv_at hl 6 rfl) ?_
  refine v_lload 112 C dX9_tellLifts_112 (lv_at hl 8 rfl) ?_
  refine v_ladd 114 C dX9_tellLifts_114 h (fun v2 h => ?_)
  refine v_lstore 115 C [(7, .long v2), (5, .long v1), (0, .ref (w.2.2.1 0)), (1, .int x1), (2, .int x2), (3, .int x3), (4, .int x4), (9, .int x9), (10, .long y10)] dX9_tellLifts_115 hl (by decide) rfl (fun ls hl => ?_)
  refine v_iinc 117 C (nn := (1 : Int32)) (fun v => [(9, .int v), (7, .long v2), (5, .long v1), (0, .ref (w.2.2.1 0)), (1, .int x1), (2, .int x2), (3, .int x3), (4, .int x4), (10, .long y10)]) dX9_tellLifts_117 hl (k := 7) rfl (by decide) (by decide) (fun _ => rfl) h (fun v3 ls hl h => ?_)
  refine v_goto 120 9 C dX9_tellLifts_120 (by decide) ?_
  exact hc9 _ _ _ _ _ _ _ _ _ (lv_sub hl [3, 4, 5, 6, 7, 2, 1, 0] rfl) h
set_option maxRecDepth 20000 in
theorem w_X9_tellLifts_b28 {w : zWd} {X : zX} {l0 : Launch} {r : Int32} {S1 : zMem} (C : zC LM w X l0 cX9_tellLifts RX9 13 4 (some .int)) {k9 : Int32 → Int32 → Int32 → Int32 → Int64 → Int64 → Int32 → zMem → Option (Int32 × zMem)} {k28 : Int32 → Int32 → Int32 → Int32 → Int64 → Int64 → Int32 → Int64 → Int32 → zMem → Option (Int32 × zMem)} (hc9 : ∀ (x1 : Int32) (x2 : Int32) (x3 : Int32) (x4 : Int32) (y5 : Int64) (y7 : Int64) (x9 : Int32) (S : zMem) (ls : Array Slot), lv_has ls 13 [(0, .ref (w.2.2.1 0)), (1, .int x1), (2, .int x2), (3, .int x3), (4, .int x4), (5, .long y5), (7, .long y7), (9, .int x9)] → k9 x1 x2 x3 x4 y5 y7 x9 S = some (r, S1) → zV LM w X (some (.int r)) S1 S 9 ls []) (hc28 : ∀ (x1 : Int32) (x2 : Int32) (x3 : Int32) (x4 : Int32) (y5 : Int64) (y7 : Int64) (x9 : Int32) (y10 : Int64) (x12 : Int32) (S : zMem) (ls : Array Slot), lv_has ls 13 [(0, .ref (w.2.2.1 0)), (1, .int x1), (2, .int x2), (3, .int x3), (4, .int x4), (5, .long y5), (7, .long y7), (9, .int x9), (10, .long y10), (12, .int x12)] → k28 x1 x2 x3 x4 y5 y7 x9 y10 x12 S = some (r, S1) → zV LM w X (some (.int r)) S1 S 28 ls []) {x1 : Int32} {x2 : Int32} {x3 : Int32} {x4 : Int32} {y5 : Int64} {y7 : Int64} {x9 : Int32} {y10 : Int64} {x12 : Int32} {S : zMem} {ls : Array Slot} (hl : lv_has ls 13 [(0, .ref (w.2.2.1 0)), (1, .int x1), (2, .int x2), (3, .int x3), (4, .int x4), (5, .long y5), (7, .long y7), (9, .int x9), (10, .long y10), (12, .int x12)]) (h : X9_tellLifts_b28 k9 k28 x1 x2 x3 x4 y5 y7 x9 y10 x12 S = some (r, S1)) : zV LM w X (some (.int r)) S1 S 28 ls [] := by
  unfold X9_tellLifts_b28 at h
  refine v_iload 28 C dX9_tellLifts_28 (lv_at hl 9 rfl) ?_
  refine v_aload_n 30 C dX9_tellLifts_30 rfl (lv_at hl 0 rfl) ?_
  refine v_getr 31 (5) C dX9_tellLifts_31 fl_X9_22 rfl kM_0 rfl ?_
  refine v_iload_n 34 C dX9_tellLifts_34 rfl (lv_at hl 1 rfl) ?_
  refine v_iald 35 C dX9_tellLifts_35 kM_5 rfl h (fun v1 h => ?_)
  refine v_icmp_ge 36 70 C dX9_tellLifts_36 (by decide) h (fun h => ?_) (fun h => ?_)
  · refine v_aload_n 70 C dX9_tellLifts_70 rfl (lv_at hl 0 rfl) ?_
    refine v_iload_n 71 C dX9_tellLifts_71 rfl (lv_at hl 1 rfl) ?_
    refine v_iload 72 C dX9_tellLifts_72 (lv_at hl 7 rfl) ?_
    obtain ⟨v2, S, hc, h⟩ := zb_e h
    refine v_callVi 74 C (ci := 8) [] dX9_tellLifts_74 ml_X9_268 hy_X9_endLifted (c_X9_endLifted  hc) (by decide) rfl hl.1 kM_0 rfl (Nat.le_of_ble_eq_true rfl) rfl ?_
    refine v_istore 77 C [(12, .int v2), (0, .ref (w.2.2.1 0)), (1, .int x1), (2, .int x2), (3, .int x3), (4, .int x4), (5, .long y5), (7, .long y7), (9, .int x9), (10, .long y10)] dX9_tellLifts_77 hl (by decide) rfl (fun ls hl => ?_)
    refine v_lload 79 C dX9_tellLifts_79 (lv_at hl 6 rfl) ?_
    refine v_iload 81 C dX9_tellLifts_81 (lv_at hl 5 rfl) ?_
    refine v_if_eq 83 95 C dX9_tellLifts_83 (by decide) h (fun h => ?_) (fun h => ?_)
    · refine v_iload 95 C dX9_tellLifts_95 (lv_at hl 0 rfl) ?_
      refine v_iload_n 97 C dX9_tellLifts_97 rfl (lv_at hl 3 rfl) ?_
      refine v_icmp_lt 98 106 C dX9_tellLifts_98 (by decide) h (fun h => ?_) (fun h => ?_)
      · refine v_lconst 106 C (v := 0) dX9_tellLifts_106 (by decide) ?_
        exact w_X9_tellLifts_b107 C hc9 (lv_sub hl [1, 2, 3, 4, 5, 7, 8, 9] rfl) h
      · refine v_lload 101 C dX9_tellLifts_101 (lv_at hl 9 rfl) ?_
        refine v_goto 103 107 C dX9_tellLifts_103 (by decide) ?_
        exact w_X9_tellLifts_b107 C hc9 (lv_sub hl [1, 2, 3, 4, 5, 7, 8, 9] rfl) h
    · refine v_lload 86 C dX9_tellLifts_86 (lv_at hl 9 rfl) ?_
      refine v_iload 88 C dX9_tellLifts_88 (lv_at hl 0 rfl) ?_
      refine v_i2l 90 C dX9_tellLifts_90 h (fun v3 h => ?_)
      refine v_lmul 91 C dX9_tellLifts_91 h (fun v4 h => ?_)
      refine v_goto 92 107 C dX9_tellLifts_92 (by decide) ?_
      exact w_X9_tellLifts_b107 C hc9 (lv_sub hl [1, 2, 3, 4, 5, 7, 8, 9] rfl) h
  · refine v_lload 39 C dX9_tellLifts_39 (lv_at hl 8 rfl) ?_
    refine v_iload 41 C dX9_tellLifts_41 (lv_at hl 7 rfl) ?_
    refine v_iload 43 C dX9_tellLifts_43 (lv_at hl 9 rfl) ?_
    obtain ⟨v5, S, hc, h⟩ := zb_e h
    refine v_callSi 45 C [.long y10] dX9_tellLifts_45 ml_X9_176 hy_X9_has (c_X9_has  hc) (by decide) rfl hl.1 (Nat.le_of_ble_eq_true rfl) rfl ?_
    refine v_if_eq 48 56 C dX9_tellLifts_48 (by decide) h (fun h => ?_) (fun h => ?_)
    · refine v_bipush 56 C (v := (12 : Int32)) dX9_tellLifts_56 (by decide) ?_
      refine v_iload_n 58 C dX9_tellLifts_58 rfl (lv_at hl 3 rfl) ?_
      refine v_isub 59 C dX9_tellLifts_59 h (fun v6 h => ?_)
      refine v_i2l 60 C dX9_tellLifts_60 h (fun v7 h => ?_)
      exact w_X9_tellLifts_b61 C hc9 hc28 (lv_sub hl [0, 1, 2, 3, 4, 5, 6, 7, 9] rfl) h
    · refine v_iload_n 51 C dX9_tellLifts_51 rfl (lv_at hl 3 rfl) ?_
      refine v_i2l 52 C dX9_tellLifts_52 h (fun v8 h => ?_)
      refine v_goto 53 61 C dX9_tellLifts_53 (by decide) ?_
      exact w_X9_tellLifts_b61 C hc9 hc28 (lv_sub hl [0, 1, 2, 3, 4, 5, 6, 7, 9] rfl) h
theorem w_X9_tellLifts_l28 {w : zWd} {X : zX} {l0 : Launch} {r : Int32} {S1 : zMem} (C : zC LM w X l0 cX9_tellLifts RX9 13 4 (some .int)) {k9 : Int32 → Int32 → Int32 → Int32 → Int64 → Int64 → Int32 → zMem → Option (Int32 × zMem)} (hc9 : ∀ (x1 : Int32) (x2 : Int32) (x3 : Int32) (x4 : Int32) (y5 : Int64) (y7 : Int64) (x9 : Int32) (S : zMem) (ls : Array Slot), lv_has ls 13 [(0, .ref (w.2.2.1 0)), (1, .int x1), (2, .int x2), (3, .int x3), (4, .int x4), (5, .long y5), (7, .long y7), (9, .int x9)] → k9 x1 x2 x3 x4 y5 y7 x9 S = some (r, S1) → zV LM w X (some (.int r)) S1 S 9 ls []) : ∀ (n : Nat) (x1 : Int32) (x2 : Int32) (x3 : Int32) (x4 : Int32) (y5 : Int64) (y7 : Int64) (x9 : Int32) (y10 : Int64) (x12 : Int32) (S : zMem) (ls : Array Slot), lv_has ls 13 [(0, .ref (w.2.2.1 0)), (1, .int x1), (2, .int x2), (3, .int x3), (4, .int x4), (5, .long y5), (7, .long y7), (9, .int x9), (10, .long y10), (12, .int x12)] → X9_tellLifts_l28 k9 n x1 x2 x3 x4 y5 y7 x9 y10 x12 S = some (r, S1) → zV LM w X (some (.int r)) S1 S 28 ls [] := by
  intro n
  induction n with
  | zero =>
    intro x1 x2 x3 x4 y5 y7 x9 y10 x12 S ls hl h
    cases (show (none : Option (Int32 × zMem)) = some _ from h)
  | succ n ih =>
    intro x1 x2 x3 x4 y5 y7 x9 y10 x12 S ls hl h
    exact w_X9_tellLifts_b28 C hc9 ih hl h
set_option maxRecDepth 20000 in
theorem w_X9_tellLifts_b9 {w : zWd} {X : zX} {l0 : Launch} {r : Int32} {S1 : zMem} (C : zC LM w X l0 cX9_tellLifts RX9 13 4 (some .int)) {k9 : Int32 → Int32 → Int32 → Int32 → Int64 → Int64 → Int32 → zMem → Option (Int32 × zMem)} (hc9 : ∀ (x1 : Int32) (x2 : Int32) (x3 : Int32) (x4 : Int32) (y5 : Int64) (y7 : Int64) (x9 : Int32) (S : zMem) (ls : Array Slot), lv_has ls 13 [(0, .ref (w.2.2.1 0)), (1, .int x1), (2, .int x2), (3, .int x3), (4, .int x4), (5, .long y5), (7, .long y7), (9, .int x9)] → k9 x1 x2 x3 x4 y5 y7 x9 S = some (r, S1) → zV LM w X (some (.int r)) S1 S 9 ls []) {x1 : Int32} {x2 : Int32} {x3 : Int32} {x4 : Int32} {y5 : Int64} {y7 : Int64} {x9 : Int32} {S : zMem} {ls : Array Slot} (hl : lv_has ls 13 [(0, .ref (w.2.2.1 0)), (1, .int x1), (2, .int x2), (3, .int x3), (4, .int x4), (5, .long y5), (7, .long y7), (9, .int x9)]) (h : X9_tellLifts_b9 k9 x1 x2 x3 x4 y5 y7 x9 S = some (r, S1)) : zV LM w X (some (.int r)) S1 S 9 ls [] := by
  unfold X9_tellLifts_b9 at h
  refine v_iload 9 C dX9_tellLifts_9 (lv_at hl 7 rfl) ?_
  refine v_iconst 11 C (v := (1 : Int32)) dX9_tellLifts_11 (by decide) ?_
  refine v_aload_n 12 C dX9_tellLifts_12 rfl (lv_at hl 0 rfl) ?_
  refine v_getr 13 (5) C dX9_tellLifts_13 fl_X9_22 rfl kM_0 rfl ?_
  refine v_iload_n 16 C dX9_tellLifts_16 rfl (lv_at hl 1 rfl) ?_
  refine v_iald 17 C dX9_tellLifts_17 kM_5 rfl h (fun v1 h => ?_)
  refine v_ishl 18 C dX9_tellLifts_18 h (fun v2 h => ?_)
  refine v_icmp_ge 19 123 C dX9_tellLifts_19 (by decide) h (fun h => ?_) (fun h => ?_)
  · refine v_aload_n 123 C dX9_tellLifts_123 rfl (lv_at hl 0 rfl) ?_
    refine v_lload 124 C dX9_tellLifts_124 (lv_at hl 5 rfl) ?_
    refine v_lload 126 C dX9_tellLifts_126 (lv_at hl 6 rfl) ?_
    obtain ⟨v3, S, hc, h⟩ := zb_e h
    refine v_callVv 128 C (ci := 8) [] dX9_tellLifts_128 ml_X9_271 hy_X9_tellParts (c_X9_tellParts  hc) (by decide) rfl hl.1 kM_0 rfl (Nat.le_of_ble_eq_true rfl) rfl ?_
    refine v_iconst 131 C (v := (1 : Int32)) dX9_tellLifts_131 (by decide) ?_
    exact v_ireturn 132 C dX9_tellLifts_132 h
  · refine v_lconst 22 C (v := 1) dX9_tellLifts_22 (by decide) ?_
    refine v_lstore 23 C [(10, .long (1 : Int64)), (0, .ref (w.2.2.1 0)), (1, .int x1), (2, .int x2), (3, .int x3), (4, .int x4), (5, .long y5), (7, .long y7), (9, .int x9)] dX9_tellLifts_23 hl (by decide) rfl (fun ls hl => ?_)
    refine v_iconst 25 C (v := (0 : Int32)) dX9_tellLifts_25 (by decide) ?_
    refine v_istore 26 C [(12, .int (0 : Int32)), (10, .long (1 : Int64)), (0, .ref (w.2.2.1 0)), (1, .int x1), (2, .int x2), (3, .int x3), (4, .int x4), (5, .long y5), (7, .long y7), (9, .int x9)] dX9_tellLifts_26 hl (by decide) rfl (fun ls hl => ?_)
    exact w_X9_tellLifts_l28 C hc9 zF _ _ _ _ _ _ _ _ _ _ _ (lv_sub hl [2, 3, 4, 5, 6, 7, 8, 9, 1, 0] rfl) h
theorem w_X9_tellLifts_l9 {w : zWd} {X : zX} {l0 : Launch} {r : Int32} {S1 : zMem} (C : zC LM w X l0 cX9_tellLifts RX9 13 4 (some .int)) : ∀ (n : Nat) (x1 : Int32) (x2 : Int32) (x3 : Int32) (x4 : Int32) (y5 : Int64) (y7 : Int64) (x9 : Int32) (S : zMem) (ls : Array Slot), lv_has ls 13 [(0, .ref (w.2.2.1 0)), (1, .int x1), (2, .int x2), (3, .int x3), (4, .int x4), (5, .long y5), (7, .long y7), (9, .int x9)] → X9_tellLifts_l9 n x1 x2 x3 x4 y5 y7 x9 S = some (r, S1) → zV LM w X (some (.int r)) S1 S 9 ls [] := by
  intro n
  induction n with
  | zero =>
    intro x1 x2 x3 x4 y5 y7 x9 S ls hl h
    cases (show (none : Option (Int32 × zMem)) = some _ from h)
  | succ n ih =>
    intro x1 x2 x3 x4 y5 y7 x9 S ls hl h
    exact w_X9_tellLifts_b9 C ih hl h
set_option maxRecDepth 20000 in
theorem w_X9_tellLifts_b0 {w : zWd} {X : zX} {l0 : Launch} {r : Int32} {S1 : zMem} (C : zC LM w X l0 cX9_tellLifts RX9 13 4 (some .int)) {x1 : Int32} {x2 : Int32} {x3 : Int32} {x4 : Int32} {S : zMem} {ls : Array Slot} (hl : lv_has ls 13 [(0, .ref (w.2.2.1 0)), (1, .int x1), (2, .int x2), (3, .int x3), (4, .int x4)]) (h : X9_tellLifts_b0 x1 x2 x3 x4 S = some (r, S1)) : zV LM w X (some (.int r)) S1 S 0 ls [] := by
  unfold X9_tellLifts_b0 at h
  refine v_lconst 0 C (v := 0) dX9_tellLifts_0 (by decide) ?_
  refine v_lstore 1 C [(5, .long (0 : Int64)), (0, .ref (w.2.2.1 0)), (1, .int x1), (2, .int x2), (3, .int x3), (4, .int x4)] dX9_tellLifts_1 hl (by decide) rfl (fun ls hl => ?_)
  refine v_lconst 3 C (v := 0) dX9_tellLifts_3 (by decide) ?_
  refine v_lstore 4 C [(7, .long (0 : Int64)), (5, .long (0 : Int64)), (0, .ref (w.2.2.1 0)), (1, .int x1), (2, .int x2), (3, .int x3), (4, .int x4)] dX9_tellLifts_4 hl (by decide) rfl (fun ls hl => ?_)
  refine v_iconst 6 C (v := (0 : Int32)) dX9_tellLifts_6 (by decide) ?_
  refine v_istore 7 C [(9, .int (0 : Int32)), (7, .long (0 : Int64)), (5, .long (0 : Int64)), (0, .ref (w.2.2.1 0)), (1, .int x1), (2, .int x2), (3, .int x3), (4, .int x4)] dX9_tellLifts_7 hl (by decide) rfl (fun ls hl => ?_)
  exact w_X9_tellLifts_l9 C zF _ _ _ _ _ _ _ _ _ (lv_sub hl [3, 4, 5, 6, 7, 2, 1, 0] rfl) h
theorem c_X9_tellLifts {w : zWd} {l0 : Launch} {x1 : Int32} {x2 : Int32} {x3 : Int32} {x4 : Int32} {S S1 : zMem} {r : Int32} (h : f_X9_tellLifts x1 x2 x3 x4 S = some (r, S1)) : zMet LM w l0 yX9_tellLifts cX9_tellLifts 13 (some .int) 4 [.ref (w.2.2.1 0), .int x1, .int x2, .int x3, .int x4] S (some (.int r)) S1 :=
  zMet_of (by decide +kernel) (Nat.le_of_ble_eq_true rfl) (fun X ls C hl => w_X9_tellLifts_b0 C hl h)
theorem co_X9_275 : Cond.constantLong RX9 275 12 ∈ zT := zT_of (List.mem_of_getElem? (i := 1280) (by decide +kernel)) rfl
theorem ml_X9_277 : Cond.methodLink RX9 277 yX9_tellLifts ∈ zT := zT_of (List.mem_of_getElem? (i := 1281) (by decide +kernel)) rfl
theorem hy_X9_tellLifts : zYv yX9_tellLifts cX9_tellLifts 13 (some .int) 4 := ⟨⟨zT_of (List.mem_of_getElem? (i := 1284) (by decide +kernel)) rfl, zT_of (List.mem_of_getElem? (i := 78) (by decide +kernel)) rfl, by decide, by decide +kernel, by decide +kernel, by decide +kernel⟩, zT_of (List.mem_of_getElem? (i := 1283) (by decide +kernel)) rfl, zT_of (List.mem_of_getElem? (i := 61) (by decide +kernel)) rfl⟩
theorem dX9_odds_0 : decode cX9_odds 0 = .ok (.iload_n 1, 1) := by decide +kernel
theorem dX9_odds_1 : decode cX9_odds 1 = .ok (.invokestatic 71, 3) := by decide +kernel
theorem dX9_odds_4 : decode cX9_odds 4 = .ok (.ifCond .eq 27, 3) := by decide +kernel
theorem dX9_odds_7 : decode cX9_odds 7 = .ok (.iload_n 2, 1) := by decide +kernel
theorem dX9_odds_8 : decode cX9_odds 8 = .ok (.i2l, 1) := by decide +kernel
theorem dX9_odds_9 : decode cX9_odds 9 = .ok (.lconst 0, 1) := by decide +kernel
theorem dX9_odds_10 : decode cX9_odds 10 = .ok (.ldc2_w 248, 3) := by decide +kernel
theorem dX9_odds_13 : decode cX9_odds 13 = .ok (.invokestatic 65, 3) := by decide +kernel
theorem dX9_odds_16 : decode cX9_odds 16 = .ok (.ifCond .eq 15, 3) := by decide +kernel
theorem dX9_odds_19 : decode cX9_odds 19 = .ok (.iload_n 3, 1) := by decide +kernel
theorem dX9_odds_20 : decode cX9_odds 20 = .ok (.i2l, 1) := by decide +kernel
theorem dX9_odds_21 : decode cX9_odds 21 = .ok (.lconst 0, 1) := by decide +kernel
theorem dX9_odds_22 : decode cX9_odds 22 = .ok (.ldc2_w 275, 3) := by decide +kernel
theorem dX9_odds_25 : decode cX9_odds 25 = .ok (.invokestatic 65, 3) := by decide +kernel
theorem dX9_odds_28 : decode cX9_odds 28 = .ok (.ifCond .ne 5, 3) := by decide +kernel
theorem dX9_odds_31 : decode cX9_odds 31 = .ok (.iconst (-1), 1) := by decide +kernel
theorem dX9_odds_32 : decode cX9_odds 32 = .ok (.ireturn, 1) := by decide +kernel
theorem dX9_odds_33 : decode cX9_odds 33 = .ok (.aload_n 0, 1) := by decide +kernel
theorem dX9_odds_34 : decode cX9_odds 34 = .ok (.iload_n 1, 1) := by decide +kernel
theorem dX9_odds_35 : decode cX9_odds 35 = .ok (.aload_n 0, 1) := by decide +kernel
theorem dX9_odds_36 : decode cX9_odds 36 = .ok (.getfield 7, 3) := by decide +kernel
theorem dX9_odds_39 : decode cX9_odds 39 = .ok (.iconst 5, 1) := by decide +kernel
theorem dX9_odds_40 : decode cX9_odds 40 = .ok (.iaload, 1) := by decide +kernel
theorem dX9_odds_41 : decode cX9_odds 41 = .ok (.invokevirtual 232, 3) := by decide +kernel
theorem dX9_odds_44 : decode cX9_odds 44 = .ok (.istore 4, 2) := by decide +kernel
theorem dX9_odds_46 : decode cX9_odds 46 = .ok (.iload 4, 2) := by decide +kernel
theorem dX9_odds_48 : decode cX9_odds 48 = .ok (.ifCond .eq 8, 3) := by decide +kernel
theorem dX9_odds_51 : decode cX9_odds 51 = .ok (.iload 4, 2) := by decide +kernel
theorem dX9_odds_53 : decode cX9_odds 53 = .ok (.goto 11, 3) := by decide +kernel
theorem dX9_odds_56 : decode cX9_odds 56 = .ok (.aload_n 0, 1) := by decide +kernel
theorem dX9_odds_57 : decode cX9_odds 57 = .ok (.iload_n 1, 1) := by decide +kernel
theorem dX9_odds_58 : decode cX9_odds 58 = .ok (.iload_n 2, 1) := by decide +kernel
theorem dX9_odds_59 : decode cX9_odds 59 = .ok (.iload_n 3, 1) := by decide +kernel
theorem dX9_odds_60 : decode cX9_odds 60 = .ok (.iconst 0, 1) := by decide +kernel
theorem dX9_odds_61 : decode cX9_odds 61 = .ok (.invokevirtual 277, 3) := by decide +kernel
theorem dX9_odds_64 : decode cX9_odds 64 = .ok (.ireturn, 1) := by decide +kernel
set_option maxRecDepth 20000 in
theorem w_X9_odds_b31 {w : zWd} {X : zX} {l0 : Launch} {r : Int32} {S1 : zMem} (C : zC LM w X l0 cX9_odds RX9 5 5 (some .int)) {S : zMem} {ls : Array Slot} (hl : lv_has ls 5 []) (h : X9_odds_b31  S = some (r, S1)) : zV LM w X (some (.int r)) S1 S 31 ls [] := by
  unfold X9_odds_b31 at h
  refine v_iconst 31 C (v := (-1 : Int32)) dX9_odds_31 (by decide) ?_
  exact v_ireturn 32 C dX9_odds_32 h
set_option maxRecDepth 20000 in
theorem w_X9_odds_b64 {w : zWd} {X : zX} {l0 : Launch} {r : Int32} {S1 : zMem} (C : zC LM w X l0 cX9_odds RX9 5 5 (some .int)) {s0 : Int32} {S : zMem} {ls : Array Slot} (hl : lv_has ls 5 []) (h : X9_odds_b64 s0 S = some (r, S1)) : zV LM w X (some (.int r)) S1 S 64 ls [.int s0] := by
  unfold X9_odds_b64 at h
  exact v_ireturn 64 C dX9_odds_64 h
set_option maxRecDepth 20000 in
theorem w_X9_odds_b0 {w : zWd} {X : zX} {l0 : Launch} {r : Int32} {S1 : zMem} (C : zC LM w X l0 cX9_odds RX9 5 5 (some .int)) {x1 : Int32} {x2 : Int32} {x3 : Int32} {S : zMem} {ls : Array Slot} (hl : lv_has ls 5 [(0, .ref (w.2.2.1 0)), (1, .int x1), (2, .int x2), (3, .int x3)]) (h : X9_odds_b0 x1 x2 x3 S = some (r, S1)) : zV LM w X (some (.int r)) S1 S 0 ls [] := by
  unfold X9_odds_b0 at h
  refine v_iload_n 0 C dX9_odds_0 rfl (lv_at hl 1 rfl) ?_
  obtain ⟨v1, S, hc, h⟩ := zb_e h
  refine v_callSi 1 C [] dX9_odds_1 ml_X9_71 hy_X9_isRow (c_X9_isRow  hc) (by decide) rfl hl.1 (Nat.le_of_ble_eq_true rfl) rfl ?_
  refine v_if_eq 4 31 C dX9_odds_4 (by decide) h (fun h => ?_) (fun h => ?_)
  · exact w_X9_odds_b31 C (lv_sub hl [] rfl) h
  · refine v_iload_n 7 C dX9_odds_7 rfl (lv_at hl 2 rfl) ?_
    refine v_i2l 8 C dX9_odds_8 h (fun v2 h => ?_)
    refine v_lconst 9 C (v := 0) dX9_odds_9 (by decide) ?_
    refine v_ldc2 10 C (v := 54) dX9_odds_10 co_X9_248 ?_
    obtain ⟨v3, S, hc, h⟩ := zb_e h
    refine v_callSi 13 C [] dX9_odds_13 ml_X9_65 hy_X9_in (c_X9_in  hc) (by decide) rfl hl.1 (Nat.le_of_ble_eq_true rfl) rfl ?_
    refine v_if_eq 16 31 C dX9_odds_16 (by decide) h (fun h => ?_) (fun h => ?_)
    · exact w_X9_odds_b31 C (lv_sub hl [] rfl) h
    · refine v_iload_n 19 C dX9_odds_19 rfl (lv_at hl 3 rfl) ?_
      refine v_i2l 20 C dX9_odds_20 h (fun v4 h => ?_)
      refine v_lconst 21 C (v := 0) dX9_odds_21 (by decide) ?_
      refine v_ldc2 22 C (v := 12) dX9_odds_22 co_X9_275 ?_
      obtain ⟨v5, S, hc, h⟩ := zb_e h
      refine v_callSi 25 C [] dX9_odds_25 ml_X9_65 hy_X9_in (c_X9_in  hc) (by decide) rfl hl.1 (Nat.le_of_ble_eq_true rfl) rfl ?_
      refine v_if_ne 28 33 C dX9_odds_28 (by decide) h (fun h => ?_) (fun h => ?_)
      · refine v_aload_n 33 C dX9_odds_33 rfl (lv_at hl 0 rfl) ?_
        refine v_iload_n 34 C dX9_odds_34 rfl (lv_at hl 1 rfl) ?_
        refine v_aload_n 35 C dX9_odds_35 rfl (lv_at hl 0 rfl) ?_
        refine v_getr 36 (1) C dX9_odds_36 fl_X9_7 rfl kM_0 rfl ?_
        refine v_iconst 39 C (v := (5 : Int32)) dX9_odds_39 (by decide) ?_
        refine v_iald 40 C dX9_odds_40 kM_1 rfl h (fun v6 h => ?_)
        obtain ⟨v7, S, hc, h⟩ := zb_e h
        refine v_callVi 41 C (ci := 8) [] dX9_odds_41 ml_X9_232 hy_X9_noLetters (c_X9_noLetters  hc) (by decide) rfl hl.1 kM_0 rfl (Nat.le_of_ble_eq_true rfl) rfl ?_
        refine v_istore 44 C [(4, .int v7), (0, .ref (w.2.2.1 0)), (1, .int x1), (2, .int x2), (3, .int x3)] dX9_odds_44 hl (by decide) rfl (fun ls hl => ?_)
        refine v_iload 46 C dX9_odds_46 (lv_at hl 0 rfl) ?_
        refine v_if_eq 48 56 C dX9_odds_48 (by decide) h (fun h => ?_) (fun h => ?_)
        · refine v_aload_n 56 C dX9_odds_56 rfl (lv_at hl 1 rfl) ?_
          refine v_iload_n 57 C dX9_odds_57 rfl (lv_at hl 2 rfl) ?_
          refine v_iload_n 58 C dX9_odds_58 rfl (lv_at hl 3 rfl) ?_
          refine v_iload_n 59 C dX9_odds_59 rfl (lv_at hl 4 rfl) ?_
          refine v_iconst 60 C (v := (0 : Int32)) dX9_odds_60 (by decide) ?_
          obtain ⟨v8, S, hc, h⟩ := zb_e h
          refine v_callVi 61 C (ci := 8) [] dX9_odds_61 ml_X9_277 hy_X9_tellLifts (c_X9_tellLifts  hc) (by decide) rfl hl.1 kM_0 rfl (Nat.le_of_ble_eq_true rfl) rfl ?_
          exact w_X9_odds_b64 C (lv_sub hl [] rfl) h
        · refine v_iload 51 C dX9_odds_51 (lv_at hl 0 rfl) ?_
          refine v_goto 53 64 C dX9_odds_53 (by decide) ?_
          exact w_X9_odds_b64 C (lv_sub hl [] rfl) h
      · exact w_X9_odds_b31 C (lv_sub hl [] rfl) h
theorem c_X9_odds {w : zWd} {l0 : Launch} {x1 : Int32} {x2 : Int32} {x3 : Int32} {S S1 : zMem} {r : Int32} (h : f_X9_odds x1 x2 x3 S = some (r, S1)) : zMet LM w l0 yX9_odds cX9_odds 5 (some .int) 5 [.ref (w.2.2.1 0), .int x1, .int x2, .int x3] S (some (.int r)) S1 :=
  zMet_of (by decide +kernel) (Nat.le_of_ble_eq_true rfl) (fun X ls C hl => w_X9_odds_b0 C hl h)
theorem dX9_mid_0 : decode cX9_mid 0 = .ok (.iload_n 1, 1) := by decide +kernel
theorem dX9_mid_1 : decode cX9_mid 1 = .ok (.invokestatic 71, 3) := by decide +kernel
theorem dX9_mid_4 : decode cX9_mid 4 = .ok (.ifCond .eq 15, 3) := by decide +kernel
theorem dX9_mid_7 : decode cX9_mid 7 = .ok (.iload_n 2, 1) := by decide +kernel
theorem dX9_mid_8 : decode cX9_mid 8 = .ok (.i2l, 1) := by decide +kernel
theorem dX9_mid_9 : decode cX9_mid 9 = .ok (.lconst 0, 1) := by decide +kernel
theorem dX9_mid_10 : decode cX9_mid 10 = .ok (.ldc2_w 275, 3) := by decide +kernel
theorem dX9_mid_13 : decode cX9_mid 13 = .ok (.invokestatic 65, 3) := by decide +kernel
theorem dX9_mid_16 : decode cX9_mid 16 = .ok (.ifCond .ne 5, 3) := by decide +kernel
theorem dX9_mid_19 : decode cX9_mid 19 = .ok (.iconst (-1), 1) := by decide +kernel
theorem dX9_mid_20 : decode cX9_mid 20 = .ok (.ireturn, 1) := by decide +kernel
theorem dX9_mid_21 : decode cX9_mid 21 = .ok (.aload_n 0, 1) := by decide +kernel
theorem dX9_mid_22 : decode cX9_mid 22 = .ok (.iload_n 1, 1) := by decide +kernel
theorem dX9_mid_23 : decode cX9_mid 23 = .ok (.aload_n 0, 1) := by decide +kernel
theorem dX9_mid_24 : decode cX9_mid 24 = .ok (.getfield 7, 3) := by decide +kernel
theorem dX9_mid_27 : decode cX9_mid 27 = .ok (.iconst 5, 1) := by decide +kernel
theorem dX9_mid_28 : decode cX9_mid 28 = .ok (.iaload, 1) := by decide +kernel
theorem dX9_mid_29 : decode cX9_mid 29 = .ok (.invokevirtual 232, 3) := by decide +kernel
theorem dX9_mid_32 : decode cX9_mid 32 = .ok (.istore_n 3, 1) := by decide +kernel
theorem dX9_mid_33 : decode cX9_mid 33 = .ok (.iload_n 3, 1) := by decide +kernel
theorem dX9_mid_34 : decode cX9_mid 34 = .ok (.ifCond .eq 7, 3) := by decide +kernel
theorem dX9_mid_37 : decode cX9_mid 37 = .ok (.iload_n 3, 1) := by decide +kernel
theorem dX9_mid_38 : decode cX9_mid 38 = .ok (.goto 11, 3) := by decide +kernel
theorem dX9_mid_41 : decode cX9_mid 41 = .ok (.aload_n 0, 1) := by decide +kernel
theorem dX9_mid_42 : decode cX9_mid 42 = .ok (.iload_n 1, 1) := by decide +kernel
theorem dX9_mid_43 : decode cX9_mid 43 = .ok (.iconst 0, 1) := by decide +kernel
theorem dX9_mid_44 : decode cX9_mid 44 = .ok (.iload_n 2, 1) := by decide +kernel
theorem dX9_mid_45 : decode cX9_mid 45 = .ok (.iconst 1, 1) := by decide +kernel
theorem dX9_mid_46 : decode cX9_mid 46 = .ok (.invokevirtual 277, 3) := by decide +kernel
theorem dX9_mid_49 : decode cX9_mid 49 = .ok (.ireturn, 1) := by decide +kernel
set_option maxRecDepth 20000 in
theorem w_X9_mid_b19 {w : zWd} {X : zX} {l0 : Launch} {r : Int32} {S1 : zMem} (C : zC LM w X l0 cX9_mid RX9 4 5 (some .int)) {S : zMem} {ls : Array Slot} (hl : lv_has ls 4 []) (h : X9_mid_b19  S = some (r, S1)) : zV LM w X (some (.int r)) S1 S 19 ls [] := by
  unfold X9_mid_b19 at h
  refine v_iconst 19 C (v := (-1 : Int32)) dX9_mid_19 (by decide) ?_
  exact v_ireturn 20 C dX9_mid_20 h
set_option maxRecDepth 20000 in
theorem w_X9_mid_b49 {w : zWd} {X : zX} {l0 : Launch} {r : Int32} {S1 : zMem} (C : zC LM w X l0 cX9_mid RX9 4 5 (some .int)) {s0 : Int32} {S : zMem} {ls : Array Slot} (hl : lv_has ls 4 []) (h : X9_mid_b49 s0 S = some (r, S1)) : zV LM w X (some (.int r)) S1 S 49 ls [.int s0] := by
  unfold X9_mid_b49 at h
  exact v_ireturn 49 C dX9_mid_49 h
set_option maxRecDepth 20000 in
theorem w_X9_mid_b0 {w : zWd} {X : zX} {l0 : Launch} {r : Int32} {S1 : zMem} (C : zC LM w X l0 cX9_mid RX9 4 5 (some .int)) {x1 : Int32} {x2 : Int32} {S : zMem} {ls : Array Slot} (hl : lv_has ls 4 [(0, .ref (w.2.2.1 0)), (1, .int x1), (2, .int x2)]) (h : X9_mid_b0 x1 x2 S = some (r, S1)) : zV LM w X (some (.int r)) S1 S 0 ls [] := by
  unfold X9_mid_b0 at h
  refine v_iload_n 0 C dX9_mid_0 rfl (lv_at hl 1 rfl) ?_
  obtain ⟨v1, S, hc, h⟩ := zb_e h
  refine v_callSi 1 C [] dX9_mid_1 ml_X9_71 hy_X9_isRow (c_X9_isRow  hc) (by decide) rfl hl.1 (Nat.le_of_ble_eq_true rfl) rfl ?_
  refine v_if_eq 4 19 C dX9_mid_4 (by decide) h (fun h => ?_) (fun h => ?_)
  · exact w_X9_mid_b19 C (lv_sub hl [] rfl) h
  · refine v_iload_n 7 C dX9_mid_7 rfl (lv_at hl 2 rfl) ?_
    refine v_i2l 8 C dX9_mid_8 h (fun v2 h => ?_)
    refine v_lconst 9 C (v := 0) dX9_mid_9 (by decide) ?_
    refine v_ldc2 10 C (v := 12) dX9_mid_10 co_X9_275 ?_
    obtain ⟨v3, S, hc, h⟩ := zb_e h
    refine v_callSi 13 C [] dX9_mid_13 ml_X9_65 hy_X9_in (c_X9_in  hc) (by decide) rfl hl.1 (Nat.le_of_ble_eq_true rfl) rfl ?_
    refine v_if_ne 16 21 C dX9_mid_16 (by decide) h (fun h => ?_) (fun h => ?_)
    · refine v_aload_n 21 C dX9_mid_21 rfl (lv_at hl 0 rfl) ?_
      refine v_iload_n 22 C dX9_mid_22 rfl (lv_at hl 1 rfl) ?_
      refine v_aload_n 23 C dX9_mid_23 rfl (lv_at hl 0 rfl) ?_
      refine v_getr 24 (1) C dX9_mid_24 fl_X9_7 rfl kM_0 rfl ?_
      refine v_iconst 27 C (v := (5 : Int32)) dX9_mid_27 (by decide) ?_
      refine v_iald 28 C dX9_mid_28 kM_1 rfl h (fun v4 h => ?_)
      obtain ⟨v5, S, hc, h⟩ := zb_e h
      refine v_callVi 29 C (ci := 8) [] dX9_mid_29 ml_X9_232 hy_X9_noLetters (c_X9_noLetters  hc) (by decide) rfl hl.1 kM_0 rfl (Nat.le_of_ble_eq_true rfl) rfl ?_
      refine v_istore_n 32 C [(3, .int v5), (0, .ref (w.2.2.1 0)), (1, .int x1), (2, .int x2)] dX9_mid_32 rfl hl (by decide) rfl (fun ls hl => ?_)
      refine v_iload_n 33 C dX9_mid_33 rfl (lv_at hl 0 rfl) ?_
      refine v_if_eq 34 41 C dX9_mid_34 (by decide) h (fun h => ?_) (fun h => ?_)
      · refine v_aload_n 41 C dX9_mid_41 rfl (lv_at hl 1 rfl) ?_
        refine v_iload_n 42 C dX9_mid_42 rfl (lv_at hl 2 rfl) ?_
        refine v_iconst 43 C (v := (0 : Int32)) dX9_mid_43 (by decide) ?_
        refine v_iload_n 44 C dX9_mid_44 rfl (lv_at hl 3 rfl) ?_
        refine v_iconst 45 C (v := (1 : Int32)) dX9_mid_45 (by decide) ?_
        obtain ⟨v6, S, hc, h⟩ := zb_e h
        refine v_callVi 46 C (ci := 8) [] dX9_mid_46 ml_X9_277 hy_X9_tellLifts (c_X9_tellLifts  hc) (by decide) rfl hl.1 kM_0 rfl (Nat.le_of_ble_eq_true rfl) rfl ?_
        exact w_X9_mid_b49 C (lv_sub hl [] rfl) h
      · refine v_iload_n 37 C dX9_mid_37 rfl (lv_at hl 0 rfl) ?_
        refine v_goto 38 49 C dX9_mid_38 (by decide) ?_
        exact w_X9_mid_b49 C (lv_sub hl [] rfl) h
    · exact w_X9_mid_b19 C (lv_sub hl [] rfl) h
theorem c_X9_mid {w : zWd} {l0 : Launch} {x1 : Int32} {x2 : Int32} {S S1 : zMem} {r : Int32} (h : f_X9_mid x1 x2 S = some (r, S1)) : zMet LM w l0 yX9_mid cX9_mid 4 (some .int) 5 [.ref (w.2.2.1 0), .int x1, .int x2] S (some (.int r)) S1 :=
  zMet_of (by decide +kernel) (Nat.le_of_ble_eq_true rfl) (fun X ls C hl => w_X9_mid_b0 C hl h)
theorem co_X9_281 : Cond.constantLong RX9 281 8 ∈ zT := zT_of (List.mem_of_getElem? (i := 1308) (by decide +kernel)) rfl
theorem co_X9_283 : Cond.constantLong RX9 283 64 ∈ zT := zT_of (List.mem_of_getElem? (i := 1309) (by decide +kernel)) rfl
theorem dX9_byLot_0 : decode cX9_byLot 0 = .ok (.lload_n 1, 1) := by decide +kernel
theorem dX9_byLot_1 : decode cX9_byLot 1 = .ok (.ldc2_w 281, 3) := by decide +kernel
theorem dX9_byLot_4 : decode cX9_byLot 4 = .ok (.ldiv, 1) := by decide +kernel
theorem dX9_byLot_5 : decode cX9_byLot 5 = .ok (.ldc2_w 281, 3) := by decide +kernel
theorem dX9_byLot_8 : decode cX9_byLot 8 = .ok (.lrem, 1) := by decide +kernel
theorem dX9_byLot_9 : decode cX9_byLot 9 = .ok (.l2i, 1) := by decide +kernel
theorem dX9_byLot_10 : decode cX9_byLot 10 = .ok (.istore_n 3, 1) := by decide +kernel
theorem dX9_byLot_11 : decode cX9_byLot 11 = .ok (.lload_n 1, 1) := by decide +kernel
theorem dX9_byLot_12 : decode cX9_byLot 12 = .ok (.aload_n 0, 1) := by decide +kernel
theorem dX9_byLot_13 : decode cX9_byLot 13 = .ok (.getfield 152, 3) := by decide +kernel
theorem dX9_byLot_16 : decode cX9_byLot 16 = .ok (.i2l, 1) := by decide +kernel
theorem dX9_byLot_17 : decode cX9_byLot 17 = .ok (.lrem, 1) := by decide +kernel
theorem dX9_byLot_18 : decode cX9_byLot 18 = .ok (.l2i, 1) := by decide +kernel
theorem dX9_byLot_19 : decode cX9_byLot 19 = .ok (.istore 4, 2) := by decide +kernel
theorem dX9_byLot_21 : decode cX9_byLot 21 = .ok (.iload_n 3, 1) := by decide +kernel
theorem dX9_byLot_22 : decode cX9_byLot 22 = .ok (.iconst 5, 1) := by decide +kernel
theorem dX9_byLot_23 : decode cX9_byLot 23 = .ok (.if_icmp .ge 28, 3) := by decide +kernel
theorem dX9_byLot_26 : decode cX9_byLot 26 = .ok (.aload_n 0, 1) := by decide +kernel
theorem dX9_byLot_27 : decode cX9_byLot 27 = .ok (.getfield 7, 3) := by decide +kernel
theorem dX9_byLot_30 : decode cX9_byLot 30 = .ok (.iconst 5, 1) := by decide +kernel
theorem dX9_byLot_31 : decode cX9_byLot 31 = .ok (.iaload, 1) := by decide +kernel
theorem dX9_byLot_32 : decode cX9_byLot 32 = .ok (.iload 4, 2) := by decide +kernel
theorem dX9_byLot_34 : decode cX9_byLot 34 = .ok (.invokestatic 176, 3) := by decide +kernel
theorem dX9_byLot_37 : decode cX9_byLot 37 = .ok (.ifCond .ne 82, 3) := by decide +kernel
theorem dX9_byLot_40 : decode cX9_byLot 40 = .ok (.aload_n 0, 1) := by decide +kernel
theorem dX9_byLot_41 : decode cX9_byLot 41 = .ok (.iconst 0, 1) := by decide +kernel
theorem dX9_byLot_42 : decode cX9_byLot 42 = .ok (.iload 4, 2) := by decide +kernel
theorem dX9_byLot_44 : decode cX9_byLot 44 = .ok (.invokevirtual 183, 3) := by decide +kernel
theorem dX9_byLot_47 : decode cX9_byLot 47 = .ok (.pop, 1) := by decide +kernel
theorem dX9_byLot_48 : decode cX9_byLot 48 = .ok (.goto 71, 3) := by decide +kernel
theorem dX9_byLot_51 : decode cX9_byLot 51 = .ok (.iload_n 3, 1) := by decide +kernel
theorem dX9_byLot_52 : decode cX9_byLot 52 = .ok (.iconst 5, 1) := by decide +kernel
theorem dX9_byLot_53 : decode cX9_byLot 53 = .ok (.if_icmp .ne 36, 3) := by decide +kernel
theorem dX9_byLot_56 : decode cX9_byLot 56 = .ok (.aload_n 0, 1) := by decide +kernel
theorem dX9_byLot_57 : decode cX9_byLot 57 = .ok (.getfield 7, 3) := by decide +kernel
theorem dX9_byLot_60 : decode cX9_byLot 60 = .ok (.iconst 2, 1) := by decide +kernel
theorem dX9_byLot_61 : decode cX9_byLot 61 = .ok (.aload_n 0, 1) := by decide +kernel
theorem dX9_byLot_62 : decode cX9_byLot 62 = .ok (.getfield 7, 3) := by decide +kernel
theorem dX9_byLot_65 : decode cX9_byLot 65 = .ok (.iconst 2, 1) := by decide +kernel
theorem dX9_byLot_66 : decode cX9_byLot 66 = .ok (.iaload, 1) := by decide +kernel
theorem dX9_byLot_67 : decode cX9_byLot 67 = .ok (.iconst 1, 1) := by decide +kernel
theorem dX9_byLot_68 : decode cX9_byLot 68 = .ok (.iadd, 1) := by decide +kernel
theorem dX9_byLot_69 : decode cX9_byLot 69 = .ok (.lload_n 1, 1) := by decide +kernel
theorem dX9_byLot_70 : decode cX9_byLot 70 = .ok (.ldc2_w 283, 3) := by decide +kernel
theorem dX9_byLot_73 : decode cX9_byLot 73 = .ok (.ldiv, 1) := by decide +kernel
theorem dX9_byLot_74 : decode cX9_byLot 74 = .ok (.ldc2_w 200, 3) := by decide +kernel
theorem dX9_byLot_77 : decode cX9_byLot 77 = .ok (.lrem, 1) := by decide +kernel
theorem dX9_byLot_78 : decode cX9_byLot 78 = .ok (.l2i, 1) := by decide +kernel
theorem dX9_byLot_79 : decode cX9_byLot 79 = .ok (.iadd, 1) := by decide +kernel
theorem dX9_byLot_80 : decode cX9_byLot 80 = .ok (.bipush 9, 2) := by decide +kernel
theorem dX9_byLot_82 : decode cX9_byLot 82 = .ok (.invokestatic 158, 3) := by decide +kernel
theorem dX9_byLot_85 : decode cX9_byLot 85 = .ok (.iastore, 1) := by decide +kernel
theorem dX9_byLot_86 : decode cX9_byLot 86 = .ok (.goto 33, 3) := by decide +kernel
theorem dX9_byLot_89 : decode cX9_byLot 89 = .ok (.iload_n 3, 1) := by decide +kernel
theorem dX9_byLot_90 : decode cX9_byLot 90 = .ok (.bipush 6, 2) := by decide +kernel
theorem dX9_byLot_92 : decode cX9_byLot 92 = .ok (.if_icmp .ne 22, 3) := by decide +kernel
theorem dX9_byLot_95 : decode cX9_byLot 95 = .ok (.aload_n 0, 1) := by decide +kernel
theorem dX9_byLot_96 : decode cX9_byLot 96 = .ok (.getfield 7, 3) := by decide +kernel
theorem dX9_byLot_99 : decode cX9_byLot 99 = .ok (.iconst 3, 1) := by decide +kernel
theorem dX9_byLot_100 : decode cX9_byLot 100 = .ok (.lload_n 1, 1) := by decide +kernel
theorem dX9_byLot_101 : decode cX9_byLot 101 = .ok (.ldc2_w 283, 3) := by decide +kernel
theorem dX9_byLot_104 : decode cX9_byLot 104 = .ok (.ldiv, 1) := by decide +kernel
theorem dX9_byLot_105 : decode cX9_byLot 105 = .ok (.ldc2_w 69, 3) := by decide +kernel
theorem dX9_byLot_108 : decode cX9_byLot 108 = .ok (.lrem, 1) := by decide +kernel
theorem dX9_byLot_109 : decode cX9_byLot 109 = .ok (.l2i, 1) := by decide +kernel
theorem dX9_byLot_110 : decode cX9_byLot 110 = .ok (.iastore, 1) := by decide +kernel
theorem dX9_byLot_111 : decode cX9_byLot 111 = .ok (.goto 8, 3) := by decide +kernel
theorem dX9_byLot_114 : decode cX9_byLot 114 = .ok (.aload_n 0, 1) := by decide +kernel
theorem dX9_byLot_115 : decode cX9_byLot 115 = .ok (.iconst 0, 1) := by decide +kernel
theorem dX9_byLot_116 : decode cX9_byLot 116 = .ok (.invokevirtual 205, 3) := by decide +kernel
theorem dX9_byLot_119 : decode cX9_byLot 119 = .ok (.return_, 1) := by decide +kernel
set_option maxRecDepth 20000 in
theorem w_X9_byLot_b119 {w : zWd} {X : zX} {l0 : Launch} {r : Unit} {S1 : zMem} (C : zC LM w X l0 cX9_byLot RX9 5 3 none) {S : zMem} {ls : Array Slot} (hl : lv_has ls 5 []) (h : X9_byLot_b119  S = some (r, S1)) : zV LM w X none S1 S 119 ls [] := by
  unfold X9_byLot_b119 at h
  exact v_return 119 C dX9_byLot_119 h
set_option maxRecDepth 20000 in
theorem w_X9_byLot_b0 {w : zWd} {X : zX} {l0 : Launch} {r : Unit} {S1 : zMem} (C : zC LM w X l0 cX9_byLot RX9 5 3 none) {y1 : Int64} {S : zMem} {ls : Array Slot} (hl : lv_has ls 5 [(0, .ref (w.2.2.1 0)), (1, .long y1)]) (h : X9_byLot_b0 y1 S = some (r, S1)) : zV LM w X none S1 S 0 ls [] := by
  unfold X9_byLot_b0 at h
  refine v_lload_n 0 C dX9_byLot_0 rfl (lv_at hl 1 rfl) ?_
  refine v_ldc2 1 C (v := 8) dX9_byLot_1 co_X9_281 ?_
  refine v_ldiv 4 C dX9_byLot_4 (by decide) h (fun v1 h => ?_)
  refine v_ldc2 5 C (v := 8) dX9_byLot_5 co_X9_281 ?_
  refine v_lrem 8 C dX9_byLot_8 (by decide) h (fun v2 h => ?_)
  refine v_l2i 9 C dX9_byLot_9 h (fun v3 h => ?_)
  refine v_istore_n 10 C [(3, .int v3), (0, .ref (w.2.2.1 0)), (1, .long y1)] dX9_byLot_10 rfl hl (by decide) rfl (fun ls hl => ?_)
  refine v_lload_n 11 C dX9_byLot_11 rfl (lv_at hl 2 rfl) ?_
  refine v_aload_n 12 C dX9_byLot_12 rfl (lv_at hl 1 rfl) ?_
  refine v_geti 13 C dX9_byLot_13 fl_X9_152 rfl kM_0 h (fun v4 h => ?_)
  refine v_i2l 16 C dX9_byLot_16 h (fun v5 h => ?_)
  refine v_lremc 17 C dX9_byLot_17 h (fun v6 h => ?_)
  refine v_l2i 18 C dX9_byLot_18 h (fun v7 h => ?_)
  refine v_istore 19 C [(4, .int v7), (3, .int v3), (0, .ref (w.2.2.1 0)), (1, .long y1)] dX9_byLot_19 hl (by decide) rfl (fun ls hl => ?_)
  refine v_iload_n 21 C dX9_byLot_21 rfl (lv_at hl 1 rfl) ?_
  refine v_iconst 22 C (v := (5 : Int32)) dX9_byLot_22 (by decide) ?_
  refine v_icmp_ge 23 51 C dX9_byLot_23 (by decide) h (fun h => ?_) (fun h => ?_)
  · refine v_iload_n 51 C dX9_byLot_51 rfl (lv_at hl 1 rfl) ?_
    refine v_iconst 52 C (v := (5 : Int32)) dX9_byLot_52 (by decide) ?_
    refine v_icmp_ne 53 89 C dX9_byLot_53 (by decide) h (fun h => ?_) (fun h => ?_)
    · refine v_iload_n 89 C dX9_byLot_89 rfl (lv_at hl 1 rfl) ?_
      refine v_bipush 90 C (v := (6 : Int32)) dX9_byLot_90 (by decide) ?_
      refine v_icmp_ne 92 114 C dX9_byLot_92 (by decide) h (fun h => ?_) (fun h => ?_)
      · refine v_aload_n 114 C dX9_byLot_114 rfl (lv_at hl 2 rfl) ?_
        refine v_iconst 115 C (v := (0 : Int32)) dX9_byLot_115 (by decide) ?_
        obtain ⟨v8, S, hc, h⟩ := zb_e h
        refine v_callVv 116 C (ci := 8) [] dX9_byLot_116 ml_X9_205 hy_X9_beginDay (c_X9_beginDay  hc) (by decide) rfl hl.1 kM_0 rfl (Nat.le_of_ble_eq_true rfl) rfl ?_
        exact w_X9_byLot_b119 C (lv_sub hl [] rfl) h
      · refine v_aload_n 95 C dX9_byLot_95 rfl (lv_at hl 2 rfl) ?_
        refine v_getr 96 (1) C dX9_byLot_96 fl_X9_7 rfl kM_0 rfl ?_
        refine v_iconst 99 C (v := (3 : Int32)) dX9_byLot_99 (by decide) ?_
        refine v_lload_n 100 C dX9_byLot_100 rfl (lv_at hl 3 rfl) ?_
        refine v_ldc2 101 C (v := 64) dX9_byLot_101 co_X9_283 ?_
        refine v_ldiv 104 C dX9_byLot_104 (by decide) h (fun v9 h => ?_)
        refine v_ldc2 105 C (v := 3) dX9_byLot_105 co_X9_69 ?_
        refine v_lrem 108 C dX9_byLot_108 (by decide) h (fun v10 h => ?_)
        refine v_l2i 109 C dX9_byLot_109 h (fun v11 h => ?_)
        refine v_iast 110 C dX9_byLot_110 kM_1 rfl h (fun S h => ?_)
        refine v_goto 111 119 C dX9_byLot_111 (by decide) ?_
        exact w_X9_byLot_b119 C (lv_sub hl [] rfl) h
    · refine v_aload_n 56 C dX9_byLot_56 rfl (lv_at hl 2 rfl) ?_
      refine v_getr 57 (1) C dX9_byLot_57 fl_X9_7 rfl kM_0 rfl ?_
      refine v_iconst 60 C (v := (2 : Int32)) dX9_byLot_60 (by decide) ?_
      refine v_aload_n 61 C dX9_byLot_61 rfl (lv_at hl 2 rfl) ?_
      refine v_getr 62 (1) C dX9_byLot_62 fl_X9_7 rfl kM_0 rfl ?_
      refine v_iconst 65 C (v := (2 : Int32)) dX9_byLot_65 (by decide) ?_
      refine v_iald 66 C dX9_byLot_66 kM_1 rfl h (fun v12 h => ?_)
      refine v_iconst 67 C (v := (1 : Int32)) dX9_byLot_67 (by decide) ?_
      refine v_iadd 68 C dX9_byLot_68 h (fun v13 h => ?_)
      refine v_lload_n 69 C dX9_byLot_69 rfl (lv_at hl 3 rfl) ?_
      refine v_ldc2 70 C (v := 64) dX9_byLot_70 co_X9_283 ?_
      refine v_ldiv 73 C dX9_byLot_73 (by decide) h (fun v14 h => ?_)
      refine v_ldc2 74 C (v := 9) dX9_byLot_74 co_X9_200 ?_
      refine v_lrem 77 C dX9_byLot_77 (by decide) h (fun v15 h => ?_)
      refine v_l2i 78 C dX9_byLot_78 h (fun v16 h => ?_)
      refine v_iadd 79 C dX9_byLot_79 h (fun v17 h => ?_)
      refine v_bipush 80 C (v := (9 : Int32)) dX9_byLot_80 (by decide) ?_
      obtain ⟨v18, S, hc, h⟩ := zb_e h
      refine v_callSi 82 C [.int (2 : Int32), .ref (w.2.2.1 1)] dX9_byLot_82 ml_X9_158 hy_X9_kept (c_X9_kept  hc) (by decide) rfl hl.1 (Nat.le_of_ble_eq_true rfl) rfl ?_
      refine v_iast 85 C dX9_byLot_85 kM_1 rfl h (fun S h => ?_)
      refine v_goto 86 119 C dX9_byLot_86 (by decide) ?_
      exact w_X9_byLot_b119 C (lv_sub hl [] rfl) h
  · refine v_aload_n 26 C dX9_byLot_26 rfl (lv_at hl 2 rfl) ?_
    refine v_getr 27 (1) C dX9_byLot_27 fl_X9_7 rfl kM_0 rfl ?_
    refine v_iconst 30 C (v := (5 : Int32)) dX9_byLot_30 (by decide) ?_
    refine v_iald 31 C dX9_byLot_31 kM_1 rfl h (fun v19 h => ?_)
    refine v_iload 32 C dX9_byLot_32 (lv_at hl 0 rfl) ?_
    obtain ⟨v20, S, hc, h⟩ := zb_e h
    refine v_callSi 34 C [] dX9_byLot_34 ml_X9_176 hy_X9_has (c_X9_has  hc) (by decide) rfl hl.1 (Nat.le_of_ble_eq_true rfl) rfl ?_
    refine v_if_ne 37 119 C dX9_byLot_37 (by decide) h (fun h => ?_) (fun h => ?_)
    · exact w_X9_byLot_b119 C (lv_sub hl [] rfl) h
    · refine v_aload_n 40 C dX9_byLot_40 rfl (lv_at hl 2 rfl) ?_
      refine v_iconst 41 C (v := (0 : Int32)) dX9_byLot_41 (by decide) ?_
      refine v_iload 42 C dX9_byLot_42 (lv_at hl 0 rfl) ?_
      obtain ⟨v21, S, hc, h⟩ := zb_e h
      refine v_callVi 44 C (ci := 8) [] dX9_byLot_44 ml_X9_183 hy_X9_carries (c_X9_carries  hc) (by decide) rfl hl.1 kM_0 rfl (Nat.le_of_ble_eq_true rfl) rfl ?_
      refine v_pop 47 C dX9_byLot_47 rfl ?_
      refine v_goto 48 119 C dX9_byLot_48 (by decide) ?_
      exact w_X9_byLot_b119 C (lv_sub hl [] rfl) h
theorem c_X9_byLot {w : zWd} {l0 : Launch} {y1 : Int64} {S S1 : zMem} {r : Unit} (h : f_X9_byLot y1 S = some (r, S1)) : zMet LM w l0 yX9_byLot cX9_byLot 5 none 3 [.ref (w.2.2.1 0), .long y1] S none S1 :=
  zMet_of (by decide +kernel) (Nat.le_of_ble_eq_true rfl) (fun X ls C hl => w_X9_byLot_b0 C hl h)
theorem dX9_allBonds_0 : decode cX9_allBonds 0 = .ok (.iconst 0, 1) := by decide +kernel
theorem dX9_allBonds_1 : decode cX9_allBonds 1 = .ok (.istore_n 1, 1) := by decide +kernel
theorem dX9_allBonds_2 : decode cX9_allBonds 2 = .ok (.iconst 0, 1) := by decide +kernel
theorem dX9_allBonds_3 : decode cX9_allBonds 3 = .ok (.istore_n 2, 1) := by decide +kernel
theorem dX9_allBonds_4 : decode cX9_allBonds 4 = .ok (.iload_n 2, 1) := by decide +kernel
theorem dX9_allBonds_5 : decode cX9_allBonds 5 = .ok (.aload_n 0, 1) := by decide +kernel
theorem dX9_allBonds_6 : decode cX9_allBonds 6 = .ok (.getfield 149, 3) := by decide +kernel
theorem dX9_allBonds_9 : decode cX9_allBonds 9 = .ok (.if_icmp .ge 21, 3) := by decide +kernel
theorem dX9_allBonds_12 : decode cX9_allBonds 12 = .ok (.iload_n 1, 1) := by decide +kernel
theorem dX9_allBonds_13 : decode cX9_allBonds 13 = .ok (.aload_n 0, 1) := by decide +kernel
theorem dX9_allBonds_14 : decode cX9_allBonds 14 = .ok (.getfield 7, 3) := by decide +kernel
theorem dX9_allBonds_17 : decode cX9_allBonds 17 = .ok (.bipush 6, 2) := by decide +kernel
theorem dX9_allBonds_19 : decode cX9_allBonds 19 = .ok (.iload_n 2, 1) := by decide +kernel
theorem dX9_allBonds_20 : decode cX9_allBonds 20 = .ok (.iadd, 1) := by decide +kernel
theorem dX9_allBonds_21 : decode cX9_allBonds 21 = .ok (.iaload, 1) := by decide +kernel
theorem dX9_allBonds_22 : decode cX9_allBonds 22 = .ok (.iadd, 1) := by decide +kernel
theorem dX9_allBonds_23 : decode cX9_allBonds 23 = .ok (.istore_n 1, 1) := by decide +kernel
theorem dX9_allBonds_24 : decode cX9_allBonds 24 = .ok (.iinc 2 1, 3) := by decide +kernel
theorem dX9_allBonds_27 : decode cX9_allBonds 27 = .ok (.goto (-23), 3) := by decide +kernel
theorem dX9_allBonds_30 : decode cX9_allBonds 30 = .ok (.iload_n 1, 1) := by decide +kernel
theorem dX9_allBonds_31 : decode cX9_allBonds 31 = .ok (.ireturn, 1) := by decide +kernel
set_option maxRecDepth 20000 in
theorem w_X9_allBonds_b4 {w : zWd} {X : zX} {l0 : Launch} {r : Int32} {S1 : zMem} (C : zC LM w X l0 cX9_allBonds RX9 3 1 (some .int)) {k4 : Int32 → Int32 → zMem → Option (Int32 × zMem)} (hc4 : ∀ (x1 : Int32) (x2 : Int32) (S : zMem) (ls : Array Slot), lv_has ls 3 [(0, .ref (w.2.2.1 0)), (1, .int x1), (2, .int x2)] → k4 x1 x2 S = some (r, S1) → zV LM w X (some (.int r)) S1 S 4 ls []) {x1 : Int32} {x2 : Int32} {S : zMem} {ls : Array Slot} (hl : lv_has ls 3 [(0, .ref (w.2.2.1 0)), (1, .int x1), (2, .int x2)]) (h : X9_allBonds_b4 k4 x1 x2 S = some (r, S1)) : zV LM w X (some (.int r)) S1 S 4 ls [] := by
  unfold X9_allBonds_b4 at h
  refine v_iload_n 4 C dX9_allBonds_4 rfl (lv_at hl 2 rfl) ?_
  refine v_aload_n 5 C dX9_allBonds_5 rfl (lv_at hl 0 rfl) ?_
  refine v_geti 6 C dX9_allBonds_6 fl_X9_149 rfl kM_0 h (fun v1 h => ?_)
  refine v_icmp_ge 9 30 C dX9_allBonds_9 (by decide) h (fun h => ?_) (fun h => ?_)
  · refine v_iload_n 30 C dX9_allBonds_30 rfl (lv_at hl 1 rfl) ?_
    exact v_ireturn 31 C dX9_allBonds_31 h
  · refine v_iload_n 12 C dX9_allBonds_12 rfl (lv_at hl 1 rfl) ?_
    refine v_aload_n 13 C dX9_allBonds_13 rfl (lv_at hl 0 rfl) ?_
    refine v_getr 14 (1) C dX9_allBonds_14 fl_X9_7 rfl kM_0 rfl ?_
    refine v_bipush 17 C (v := (6 : Int32)) dX9_allBonds_17 (by decide) ?_
    refine v_iload_n 19 C dX9_allBonds_19 rfl (lv_at hl 2 rfl) ?_
    refine v_iadd 20 C dX9_allBonds_20 h (fun v2 h => ?_)
    refine v_iald 21 C dX9_allBonds_21 kM_1 rfl h (fun v3 h => ?_)
    refine v_iadd 22 C dX9_allBonds_22 h (fun v4 h => ?_)
    refine v_istore_n 23 C [(1, .int v4), (0, .ref (w.2.2.1 0)), (2, .int x2)] dX9_allBonds_23 rfl hl (by decide) rfl (fun ls hl => ?_)
    refine v_iinc 24 C (nn := (1 : Int32)) (fun v => [(2, .int v), (1, .int v4), (0, .ref (w.2.2.1 0))]) dX9_allBonds_24 hl (k := 2) rfl (by decide) (by decide) (fun _ => rfl) h (fun v5 ls hl h => ?_)
    refine v_goto 27 4 C dX9_allBonds_27 (by decide) ?_
    exact hc4 _ _ _ _ (lv_sub hl [2, 1, 0] rfl) h
theorem w_X9_allBonds_l4 {w : zWd} {X : zX} {l0 : Launch} {r : Int32} {S1 : zMem} (C : zC LM w X l0 cX9_allBonds RX9 3 1 (some .int)) : ∀ (n : Nat) (x1 : Int32) (x2 : Int32) (S : zMem) (ls : Array Slot), lv_has ls 3 [(0, .ref (w.2.2.1 0)), (1, .int x1), (2, .int x2)] → X9_allBonds_l4 n x1 x2 S = some (r, S1) → zV LM w X (some (.int r)) S1 S 4 ls [] := by
  intro n
  induction n with
  | zero =>
    intro x1 x2 S ls hl h
    cases (show (none : Option (Int32 × zMem)) = some _ from h)
  | succ n ih =>
    intro x1 x2 S ls hl h
    exact w_X9_allBonds_b4 C ih hl h
set_option maxRecDepth 20000 in
theorem w_X9_allBonds_b0 {w : zWd} {X : zX} {l0 : Launch} {r : Int32} {S1 : zMem} (C : zC LM w X l0 cX9_allBonds RX9 3 1 (some .int)) {S : zMem} {ls : Array Slot} (hl : lv_has ls 3 [(0, .ref (w.2.2.1 0))]) (h : X9_allBonds_b0  S = some (r, S1)) : zV LM w X (some (.int r)) S1 S 0 ls [] := by
  unfold X9_allBonds_b0 at h
  refine v_iconst 0 C (v := (0 : Int32)) dX9_allBonds_0 (by decide) ?_
  refine v_istore_n 1 C [(1, .int (0 : Int32)), (0, .ref (w.2.2.1 0))] dX9_allBonds_1 rfl hl (by decide) rfl (fun ls hl => ?_)
  refine v_iconst 2 C (v := (0 : Int32)) dX9_allBonds_2 (by decide) ?_
  refine v_istore_n 3 C [(2, .int (0 : Int32)), (1, .int (0 : Int32)), (0, .ref (w.2.2.1 0))] dX9_allBonds_3 rfl hl (by decide) rfl (fun ls hl => ?_)
  exact w_X9_allBonds_l4 C zF _ _ _ _ (lv_sub hl [2, 1, 0] rfl) h
theorem c_X9_allBonds {w : zWd} {l0 : Launch} {S S1 : zMem} {r : Int32} (h : f_X9_allBonds  S = some (r, S1)) : zMet LM w l0 yX9_allBonds cX9_allBonds 3 (some .int) 1 [.ref (w.2.2.1 0)] S (some (.int r)) S1 :=
  zMet_of (by decide +kernel) (Nat.le_of_ble_eq_true rfl) (fun X ls C hl => w_X9_allBonds_b0 C hl h)
theorem ml_X9_295 : Cond.methodLink RX9 295 yX9_allBonds ∈ zT := zT_of (List.mem_of_getElem? (i := 1310) (by decide +kernel)) rfl
theorem hy_X9_allBonds : zYv yX9_allBonds cX9_allBonds 3 (some .int) 0 := ⟨⟨zT_of (List.mem_of_getElem? (i := 1313) (by decide +kernel)) rfl, zT_of (List.mem_of_getElem? (i := 78) (by decide +kernel)) rfl, by decide, by decide +kernel, by decide +kernel, by decide +kernel⟩, zT_of (List.mem_of_getElem? (i := 1312) (by decide +kernel)) rfl, zT_of (List.mem_of_getElem? (i := 65) (by decide +kernel)) rfl⟩
theorem co_X9_287 : Cond.constantLong RX9 287 48271 ∈ zT := zT_of (List.mem_of_getElem? (i := 1302) (by decide +kernel)) rfl
theorem co_X9_289 : Cond.constantLong RX9 289 2147483647 ∈ zT := zT_of (List.mem_of_getElem? (i := 1303) (by decide +kernel)) rfl
theorem ml_X9_291 : Cond.methodLink RX9 291 yX9_byLot ∈ zT := zT_of (List.mem_of_getElem? (i := 1304) (by decide +kernel)) rfl
theorem hy_X9_byLot : zYv yX9_byLot cX9_byLot 5 none 1 := ⟨⟨zT_of (List.mem_of_getElem? (i := 1307) (by decide +kernel)) rfl, zT_of (List.mem_of_getElem? (i := 78) (by decide +kernel)) rfl, by decide, by decide +kernel, by decide +kernel, by decide +kernel⟩, zT_of (List.mem_of_getElem? (i := 1306) (by decide +kernel)) rfl, zT_of (List.mem_of_getElem? (i := 64) (by decide +kernel)) rfl⟩
theorem co_X9_285 : Cond.constantLong RX9 285 2147483646 ∈ zT := zT_of (List.mem_of_getElem? (i := 1301) (by decide +kernel)) rfl
theorem dX9_lots_0 : decode cX9_lots 0 = .ok (.iload_n 1, 1) := by decide +kernel
theorem dX9_lots_1 : decode cX9_lots 1 = .ok (.i2l, 1) := by decide +kernel
theorem dX9_lots_2 : decode cX9_lots 2 = .ok (.lconst 1, 1) := by decide +kernel
theorem dX9_lots_3 : decode cX9_lots 3 = .ok (.ldc2_w 230, 3) := by decide +kernel
theorem dX9_lots_6 : decode cX9_lots 6 = .ok (.invokestatic 65, 3) := by decide +kernel
theorem dX9_lots_9 : decode cX9_lots 9 = .ok (.ifCond .eq 15, 3) := by decide +kernel
theorem dX9_lots_12 : decode cX9_lots 12 = .ok (.iload_n 2, 1) := by decide +kernel
theorem dX9_lots_13 : decode cX9_lots 13 = .ok (.i2l, 1) := by decide +kernel
theorem dX9_lots_14 : decode cX9_lots 14 = .ok (.lconst 1, 1) := by decide +kernel
theorem dX9_lots_15 : decode cX9_lots 15 = .ok (.ldc2_w 285, 3) := by decide +kernel
theorem dX9_lots_18 : decode cX9_lots 18 = .ok (.invokestatic 65, 3) := by decide +kernel
theorem dX9_lots_21 : decode cX9_lots 21 = .ok (.ifCond .ne 5, 3) := by decide +kernel
theorem dX9_lots_24 : decode cX9_lots 24 = .ok (.iconst (-1), 1) := by decide +kernel
theorem dX9_lots_25 : decode cX9_lots 25 = .ok (.ireturn, 1) := by decide +kernel
theorem dX9_lots_26 : decode cX9_lots 26 = .ok (.aload_n 0, 1) := by decide +kernel
theorem dX9_lots_27 : decode cX9_lots 27 = .ok (.getfield 152, 3) := by decide +kernel
theorem dX9_lots_30 : decode cX9_lots 30 = .ok (.ifCond .ne 6, 3) := by decide +kernel
theorem dX9_lots_33 : decode cX9_lots 33 = .ok (.bipush (-4), 2) := by decide +kernel
theorem dX9_lots_35 : decode cX9_lots 35 = .ok (.ireturn, 1) := by decide +kernel
theorem dX9_lots_36 : decode cX9_lots 36 = .ok (.aload_n 0, 1) := by decide +kernel
theorem dX9_lots_37 : decode cX9_lots 37 = .ok (.getfield 7, 3) := by decide +kernel
theorem dX9_lots_40 : decode cX9_lots 40 = .ok (.iconst 0, 1) := by decide +kernel
theorem dX9_lots_41 : decode cX9_lots 41 = .ok (.iaload, 1) := by decide +kernel
theorem dX9_lots_42 : decode cX9_lots 42 = .ok (.iload_n 1, 1) := by decide +kernel
theorem dX9_lots_43 : decode cX9_lots 43 = .ok (.iadd, 1) := by decide +kernel
theorem dX9_lots_44 : decode cX9_lots 44 = .ok (.bipush 40, 2) := by decide +kernel
theorem dX9_lots_46 : decode cX9_lots 46 = .ok (.if_icmp .le 6, 3) := by decide +kernel
theorem dX9_lots_49 : decode cX9_lots 49 = .ok (.bipush (-2), 2) := by decide +kernel
theorem dX9_lots_51 : decode cX9_lots 51 = .ok (.ireturn, 1) := by decide +kernel
theorem dX9_lots_52 : decode cX9_lots 52 = .ok (.iload_n 2, 1) := by decide +kernel
theorem dX9_lots_53 : decode cX9_lots 53 = .ok (.i2l, 1) := by decide +kernel
theorem dX9_lots_54 : decode cX9_lots 54 = .ok (.lstore_n 3, 1) := by decide +kernel
theorem dX9_lots_55 : decode cX9_lots 55 = .ok (.iconst 0, 1) := by decide +kernel
theorem dX9_lots_56 : decode cX9_lots 56 = .ok (.istore 5, 2) := by decide +kernel
theorem dX9_lots_58 : decode cX9_lots 58 = .ok (.iload 5, 2) := by decide +kernel
theorem dX9_lots_60 : decode cX9_lots 60 = .ok (.iload_n 1, 1) := by decide +kernel
theorem dX9_lots_61 : decode cX9_lots 61 = .ok (.if_icmp .ge 28, 3) := by decide +kernel
theorem dX9_lots_64 : decode cX9_lots 64 = .ok (.lload_n 3, 1) := by decide +kernel
theorem dX9_lots_65 : decode cX9_lots 65 = .ok (.ldc2_w 287, 3) := by decide +kernel
theorem dX9_lots_68 : decode cX9_lots 68 = .ok (.lmul, 1) := by decide +kernel
theorem dX9_lots_69 : decode cX9_lots 69 = .ok (.ldc2_w 289, 3) := by decide +kernel
theorem dX9_lots_72 : decode cX9_lots 72 = .ok (.lrem, 1) := by decide +kernel
theorem dX9_lots_73 : decode cX9_lots 73 = .ok (.lstore_n 3, 1) := by decide +kernel
theorem dX9_lots_74 : decode cX9_lots 74 = .ok (.aload_n 0, 1) := by decide +kernel
theorem dX9_lots_75 : decode cX9_lots 75 = .ok (.invokevirtual 197, 3) := by decide +kernel
theorem dX9_lots_78 : decode cX9_lots 78 = .ok (.aload_n 0, 1) := by decide +kernel
theorem dX9_lots_79 : decode cX9_lots 79 = .ok (.lload_n 3, 1) := by decide +kernel
theorem dX9_lots_80 : decode cX9_lots 80 = .ok (.invokevirtual 291, 3) := by decide +kernel
theorem dX9_lots_83 : decode cX9_lots 83 = .ok (.iinc 5 1, 3) := by decide +kernel
theorem dX9_lots_86 : decode cX9_lots 86 = .ok (.goto (-28), 3) := by decide +kernel
theorem dX9_lots_89 : decode cX9_lots 89 = .ok (.aload_n 0, 1) := by decide +kernel
theorem dX9_lots_90 : decode cX9_lots 90 = .ok (.invokevirtual 295, 3) := by decide +kernel
theorem dX9_lots_93 : decode cX9_lots 93 = .ok (.ireturn, 1) := by decide +kernel
set_option maxRecDepth 20000 in
theorem w_X9_lots_b24 {w : zWd} {X : zX} {l0 : Launch} {r : Int32} {S1 : zMem} (C : zC LM w X l0 cX9_lots RX9 6 4 (some .int)) {S : zMem} {ls : Array Slot} (hl : lv_has ls 6 []) (h : X9_lots_b24  S = some (r, S1)) : zV LM w X (some (.int r)) S1 S 24 ls [] := by
  unfold X9_lots_b24 at h
  refine v_iconst 24 C (v := (-1 : Int32)) dX9_lots_24 (by decide) ?_
  exact v_ireturn 25 C dX9_lots_25 h
set_option maxRecDepth 20000 in
theorem w_X9_lots_b58 {w : zWd} {X : zX} {l0 : Launch} {r : Int32} {S1 : zMem} (C : zC LM w X l0 cX9_lots RX9 6 4 (some .int)) {k58 : Int32 → Int64 → Int32 → zMem → Option (Int32 × zMem)} (hc58 : ∀ (x1 : Int32) (y3 : Int64) (x5 : Int32) (S : zMem) (ls : Array Slot), lv_has ls 6 [(0, .ref (w.2.2.1 0)), (1, .int x1), (3, .long y3), (5, .int x5)] → k58 x1 y3 x5 S = some (r, S1) → zV LM w X (some (.int r)) S1 S 58 ls []) {x1 : Int32} {y3 : Int64} {x5 : Int32} {S : zMem} {ls : Array Slot} (hl : lv_has ls 6 [(0, .ref (w.2.2.1 0)), (1, .int x1), (3, .long y3), (5, .int x5)]) (h : X9_lots_b58 k58 x1 y3 x5 S = some (r, S1)) : zV LM w X (some (.int r)) S1 S 58 ls [] := by
  unfold X9_lots_b58 at h
  refine v_iload 58 C dX9_lots_58 (lv_at hl 3 rfl) ?_
  refine v_iload_n 60 C dX9_lots_60 rfl (lv_at hl 1 rfl) ?_
  refine v_icmp_ge 61 89 C dX9_lots_61 (by decide) h (fun h => ?_) (fun h => ?_)
  · refine v_aload_n 89 C dX9_lots_89 rfl (lv_at hl 0 rfl) ?_
    obtain ⟨v1, S, hc, h⟩ := zb_e h
    refine v_callVi 90 C (ci := 8) [] dX9_lots_90 ml_X9_295 hy_X9_allBonds (c_X9_allBonds  hc) (by decide) rfl hl.1 kM_0 rfl (Nat.le_of_ble_eq_true rfl) rfl ?_
    exact v_ireturn 93 C dX9_lots_93 h
  · refine v_lload_n 64 C dX9_lots_64 rfl (lv_at hl 2 rfl) ?_
    refine v_ldc2 65 C (v := 48271) dX9_lots_65 co_X9_287 ?_
    refine v_lmul 68 C dX9_lots_68 h (fun v2 h => ?_)
    refine v_ldc2 69 C (v := 2147483647) dX9_lots_69 co_X9_289 ?_
    refine v_lrem 72 C dX9_lots_72 (by decide) h (fun v3 h => ?_)
    refine v_lstore_n 73 C [(3, .long v3), (0, .ref (w.2.2.1 0)), (1, .int x1), (5, .int x5)] dX9_lots_73 rfl hl (by decide) rfl (fun ls hl => ?_)
    refine v_aload_n 74 C dX9_lots_74 rfl (lv_at hl 1 rfl) ?_
    obtain ⟨v4, S, hc, h⟩ := zb_e h
    refine v_callVv 75 C (ci := 8) [] dX9_lots_75 ml_X9_197 hy_X9_keepPast (c_X9_keepPast  hc) (by decide) rfl hl.1 kM_0 rfl (Nat.le_of_ble_eq_true rfl) rfl ?_
    refine v_aload_n 78 C dX9_lots_78 rfl (lv_at hl 1 rfl) ?_
    refine v_lload_n 79 C dX9_lots_79 rfl (lv_at hl 0 rfl) ?_
    obtain ⟨v5, S, hc, h⟩ := zb_e h
    refine v_callVv 80 C (ci := 8) [] dX9_lots_80 ml_X9_291 hy_X9_byLot (c_X9_byLot  hc) (by decide) rfl hl.1 kM_0 rfl (Nat.le_of_ble_eq_true rfl) rfl ?_
    refine v_iinc 83 C (nn := (1 : Int32)) (fun v => [(5, .int v), (3, .long v3), (0, .ref (w.2.2.1 0)), (1, .int x1)]) dX9_lots_83 hl (k := 3) rfl (by decide) (by decide) (fun _ => rfl) h (fun v6 ls hl h => ?_)
    refine v_goto 86 58 C dX9_lots_86 (by decide) ?_
    exact hc58 _ _ _ _ _ (lv_sub hl [2, 3, 1, 0] rfl) h
theorem w_X9_lots_l58 {w : zWd} {X : zX} {l0 : Launch} {r : Int32} {S1 : zMem} (C : zC LM w X l0 cX9_lots RX9 6 4 (some .int)) : ∀ (n : Nat) (x1 : Int32) (y3 : Int64) (x5 : Int32) (S : zMem) (ls : Array Slot), lv_has ls 6 [(0, .ref (w.2.2.1 0)), (1, .int x1), (3, .long y3), (5, .int x5)] → X9_lots_l58 n x1 y3 x5 S = some (r, S1) → zV LM w X (some (.int r)) S1 S 58 ls [] := by
  intro n
  induction n with
  | zero =>
    intro x1 y3 x5 S ls hl h
    cases (show (none : Option (Int32 × zMem)) = some _ from h)
  | succ n ih =>
    intro x1 y3 x5 S ls hl h
    exact w_X9_lots_b58 C ih hl h
set_option maxRecDepth 20000 in
theorem w_X9_lots_b0 {w : zWd} {X : zX} {l0 : Launch} {r : Int32} {S1 : zMem} (C : zC LM w X l0 cX9_lots RX9 6 4 (some .int)) {x1 : Int32} {x2 : Int32} {S : zMem} {ls : Array Slot} (hl : lv_has ls 6 [(0, .ref (w.2.2.1 0)), (1, .int x1), (2, .int x2)]) (h : X9_lots_b0 x1 x2 S = some (r, S1)) : zV LM w X (some (.int r)) S1 S 0 ls [] := by
  unfold X9_lots_b0 at h
  refine v_iload_n 0 C dX9_lots_0 rfl (lv_at hl 1 rfl) ?_
  refine v_i2l 1 C dX9_lots_1 h (fun v1 h => ?_)
  refine v_lconst 2 C (v := 1) dX9_lots_2 (by decide) ?_
  refine v_ldc2 3 C (v := 20) dX9_lots_3 co_X9_230 ?_
  obtain ⟨v2, S, hc, h⟩ := zb_e h
  refine v_callSi 6 C [] dX9_lots_6 ml_X9_65 hy_X9_in (c_X9_in  hc) (by decide) rfl hl.1 (Nat.le_of_ble_eq_true rfl) rfl ?_
  refine v_if_eq 9 24 C dX9_lots_9 (by decide) h (fun h => ?_) (fun h => ?_)
  · exact w_X9_lots_b24 C (lv_sub hl [] rfl) h
  · refine v_iload_n 12 C dX9_lots_12 rfl (lv_at hl 2 rfl) ?_
    refine v_i2l 13 C dX9_lots_13 h (fun v3 h => ?_)
    refine v_lconst 14 C (v := 1) dX9_lots_14 (by decide) ?_
    refine v_ldc2 15 C (v := 2147483646) dX9_lots_15 co_X9_285 ?_
    obtain ⟨v4, S, hc, h⟩ := zb_e h
    refine v_callSi 18 C [] dX9_lots_18 ml_X9_65 hy_X9_in (c_X9_in  hc) (by decide) rfl hl.1 (Nat.le_of_ble_eq_true rfl) rfl ?_
    refine v_if_ne 21 26 C dX9_lots_21 (by decide) h (fun h => ?_) (fun h => ?_)
    · refine v_aload_n 26 C dX9_lots_26 rfl (lv_at hl 0 rfl) ?_
      refine v_geti 27 C dX9_lots_27 fl_X9_152 rfl kM_0 h (fun v5 h => ?_)
      refine v_if_ne 30 36 C dX9_lots_30 (by decide) h (fun h => ?_) (fun h => ?_)
      · refine v_aload_n 36 C dX9_lots_36 rfl (lv_at hl 0 rfl) ?_
        refine v_getr 37 (1) C dX9_lots_37 fl_X9_7 rfl kM_0 rfl ?_
        refine v_iconst 40 C (v := (0 : Int32)) dX9_lots_40 (by decide) ?_
        refine v_iald 41 C dX9_lots_41 kM_1 rfl h (fun v6 h => ?_)
        refine v_iload_n 42 C dX9_lots_42 rfl (lv_at hl 1 rfl) ?_
        refine v_iadd 43 C dX9_lots_43 h (fun v7 h => ?_)
        refine v_bipush 44 C (v := (40 : Int32)) dX9_lots_44 (by decide) ?_
        refine v_icmp_le 46 52 C dX9_lots_46 (by decide) h (fun h => ?_) (fun h => ?_)
        · refine v_iload_n 52 C dX9_lots_52 rfl (lv_at hl 2 rfl) ?_
          refine v_i2l 53 C dX9_lots_53 h (fun v8 h => ?_)
          refine v_lstore_n 54 C [(3, .long v8), (0, .ref (w.2.2.1 0)), (1, .int x1), (2, .int x2)] dX9_lots_54 rfl hl (by decide) rfl (fun ls hl => ?_)
          refine v_iconst 55 C (v := (0 : Int32)) dX9_lots_55 (by decide) ?_
          refine v_istore 56 C [(5, .int (0 : Int32)), (3, .long v8), (0, .ref (w.2.2.1 0)), (1, .int x1), (2, .int x2)] dX9_lots_56 hl (by decide) rfl (fun ls hl => ?_)
          exact w_X9_lots_l58 C zF _ _ _ _ _ (lv_sub hl [2, 3, 1, 0] rfl) h
        · refine v_bipush 49 C (v := (-2 : Int32)) dX9_lots_49 (by decide) ?_
          exact v_ireturn 51 C dX9_lots_51 h
      · refine v_bipush 33 C (v := (-4 : Int32)) dX9_lots_33 (by decide) ?_
        exact v_ireturn 35 C dX9_lots_35 h
    · exact w_X9_lots_b24 C (lv_sub hl [] rfl) h
theorem c_X9_lots {w : zWd} {l0 : Launch} {x1 : Int32} {x2 : Int32} {S S1 : zMem} {r : Int32} (h : f_X9_lots x1 x2 S = some (r, S1)) : zMet LM w l0 yX9_lots cX9_lots 6 (some .int) 4 [.ref (w.2.2.1 0), .int x1, .int x2] S (some (.int r)) S1 :=
  zMet_of (by decide +kernel) (Nat.le_of_ble_eq_true rfl) (fun X ls C hl => w_X9_lots_b0 C hl h)
theorem dX9_asked_0 : decode cX9_asked 0 = .ok (.aload_n 0, 1) := by decide +kernel
theorem dX9_asked_1 : decode cX9_asked 1 = .ok (.getfield 60, 3) := by decide +kernel
theorem dX9_asked_4 : decode cX9_asked 4 = .ok (.ireturn, 1) := by decide +kernel
set_option maxRecDepth 20000 in
theorem w_X9_asked_b0 {w : zWd} {X : zX} {l0 : Launch} {r : Int32} {S1 : zMem} (C : zC LM w X l0 cX9_asked RX9 1 1 (some .int)) {S : zMem} {ls : Array Slot} (hl : lv_has ls 1 [(0, .ref (w.2.2.1 0))]) (h : X9_asked_b0  S = some (r, S1)) : zV LM w X (some (.int r)) S1 S 0 ls [] := by
  unfold X9_asked_b0 at h
  refine v_aload_n 0 C dX9_asked_0 rfl (lv_at hl 0 rfl) ?_
  refine v_geti 1 C dX9_asked_1 fl_X9_60 rfl kM_0 h (fun v1 h => ?_)
  exact v_ireturn 4 C dX9_asked_4 h
theorem c_X9_asked {w : zWd} {l0 : Launch} {S S1 : zMem} {r : Int32} (h : f_X9_asked  S = some (r, S1)) : zMet LM w l0 yX9_asked cX9_asked 1 (some .int) 1 [.ref (w.2.2.1 0)] S (some (.int r)) S1 :=
  zMet_of (by decide +kernel) (Nat.le_of_ble_eq_true rfl) (fun X ls C hl => w_X9_asked_b0 C hl h)
theorem dX9_upper_0 : decode cX9_upper 0 = .ok (.aload_n 0, 1) := by decide +kernel
theorem dX9_upper_1 : decode cX9_upper 1 = .ok (.getfield 256, 3) := by decide +kernel
theorem dX9_upper_4 : decode cX9_upper 4 = .ok (.lreturn, 1) := by decide +kernel
set_option maxRecDepth 20000 in
theorem w_X9_upper_b0 {w : zWd} {X : zX} {l0 : Launch} {r : Int64} {S1 : zMem} (C : zC LM w X l0 cX9_upper RX9 1 1 (some .long)) {S : zMem} {ls : Array Slot} (hl : lv_has ls 1 [(0, .ref (w.2.2.1 0))]) (h : X9_upper_b0  S = some (r, S1)) : zV LM w X (some (.long r)) S1 S 0 ls [] := by
  unfold X9_upper_b0 at h
  refine v_aload_n 0 C dX9_upper_0 rfl (lv_at hl 0 rfl) ?_
  refine v_getl 1 C dX9_upper_1 fl_X9_256 rfl kM_0 h (fun v1 h => ?_)
  exact v_lreturn 4 C dX9_upper_4 h
theorem c_X9_upper {w : zWd} {l0 : Launch} {S S1 : zMem} {r : Int64} (h : f_X9_upper  S = some (r, S1)) : zMet LM w l0 yX9_upper cX9_upper 1 (some .long) 1 [.ref (w.2.2.1 0)] S (some (.long r)) S1 :=
  zMet_of (by decide +kernel) (Nat.le_of_ble_eq_true rfl) (fun X ls C hl => w_X9_upper_b0 C hl h)
theorem dX9_lower_0 : decode cX9_lower 0 = .ok (.aload_n 0, 1) := by decide +kernel
theorem dX9_lower_1 : decode cX9_lower 1 = .ok (.getfield 34, 3) := by decide +kernel
theorem dX9_lower_4 : decode cX9_lower 4 = .ok (.lreturn, 1) := by decide +kernel
set_option maxRecDepth 20000 in
theorem w_X9_lower_b0 {w : zWd} {X : zX} {l0 : Launch} {r : Int64} {S1 : zMem} (C : zC LM w X l0 cX9_lower RX9 1 1 (some .long)) {S : zMem} {ls : Array Slot} (hl : lv_has ls 1 [(0, .ref (w.2.2.1 0))]) (h : X9_lower_b0  S = some (r, S1)) : zV LM w X (some (.long r)) S1 S 0 ls [] := by
  unfold X9_lower_b0 at h
  refine v_aload_n 0 C dX9_lower_0 rfl (lv_at hl 0 rfl) ?_
  refine v_getl 1 C dX9_lower_1 fl_X9_34 rfl kM_0 h (fun v1 h => ?_)
  exact v_lreturn 4 C dX9_lower_4 h
theorem c_X9_lower {w : zWd} {l0 : Launch} {S S1 : zMem} {r : Int64} (h : f_X9_lower  S = some (r, S1)) : zMet LM w l0 yX9_lower cX9_lower 1 (some .long) 1 [.ref (w.2.2.1 0)] S (some (.long r)) S1 :=
  zMet_of (by decide +kernel) (Nat.le_of_ble_eq_true rfl) (fun X ls C hl => w_X9_lower_b0 C hl h)
theorem dX9_those_0 : decode cX9_those 0 = .ok (.iconst 0, 1) := by decide +kernel
theorem dX9_those_1 : decode cX9_those 1 = .ok (.istore_n 2, 1) := by decide +kernel
theorem dX9_those_2 : decode cX9_those 2 = .ok (.iconst 0, 1) := by decide +kernel
theorem dX9_those_3 : decode cX9_those 3 = .ok (.istore_n 3, 1) := by decide +kernel
theorem dX9_those_4 : decode cX9_those 4 = .ok (.iload_n 3, 1) := by decide +kernel
theorem dX9_those_5 : decode cX9_those 5 = .ok (.aload_n 0, 1) := by decide +kernel
theorem dX9_those_6 : decode cX9_those 6 = .ok (.getfield 152, 3) := by decide +kernel
theorem dX9_those_9 : decode cX9_those 9 = .ok (.if_icmp .ge 26, 3) := by decide +kernel
theorem dX9_those_12 : decode cX9_those 12 = .ok (.iload_n 2, 1) := by decide +kernel
theorem dX9_those_13 : decode cX9_those 13 = .ok (.aload_n 0, 1) := by decide +kernel
theorem dX9_those_14 : decode cX9_those 14 = .ok (.iload_n 3, 1) := by decide +kernel
theorem dX9_those_15 : decode cX9_those 15 = .ok (.iload_n 1, 1) := by decide +kernel
theorem dX9_those_16 : decode cX9_those 16 = .ok (.invokevirtual 194, 3) := by decide +kernel
theorem dX9_those_19 : decode cX9_those 19 = .ok (.ifCond .eq 7, 3) := by decide +kernel
theorem dX9_those_22 : decode cX9_those 22 = .ok (.iconst 1, 1) := by decide +kernel
theorem dX9_those_23 : decode cX9_those 23 = .ok (.goto 4, 3) := by decide +kernel
theorem dX9_those_26 : decode cX9_those 26 = .ok (.iconst 0, 1) := by decide +kernel
theorem dX9_those_27 : decode cX9_those 27 = .ok (.iadd, 1) := by decide +kernel
theorem dX9_those_28 : decode cX9_those 28 = .ok (.istore_n 2, 1) := by decide +kernel
theorem dX9_those_29 : decode cX9_those 29 = .ok (.iinc 3 1, 3) := by decide +kernel
theorem dX9_those_32 : decode cX9_those 32 = .ok (.goto (-28), 3) := by decide +kernel
theorem dX9_those_35 : decode cX9_those 35 = .ok (.iload_n 2, 1) := by decide +kernel
theorem dX9_those_36 : decode cX9_those 36 = .ok (.ireturn, 1) := by decide +kernel
set_option maxRecDepth 20000 in
theorem w_X9_those_b27 {w : zWd} {X : zX} {l0 : Launch} {r : Int32} {S1 : zMem} (C : zC LM w X l0 cX9_those RX9 4 2 (some .int)) {k4 : Int32 → Int32 → Int32 → zMem → Option (Int32 × zMem)} (hc4 : ∀ (x1 : Int32) (x2 : Int32) (x3 : Int32) (S : zMem) (ls : Array Slot), lv_has ls 4 [(0, .ref (w.2.2.1 0)), (1, .int x1), (2, .int x2), (3, .int x3)] → k4 x1 x2 x3 S = some (r, S1) → zV LM w X (some (.int r)) S1 S 4 ls []) {x1 : Int32} {x3 : Int32} {s0 : Int32} {s1 : Int32} {S : zMem} {ls : Array Slot} (hl : lv_has ls 4 [(0, .ref (w.2.2.1 0)), (1, .int x1), (3, .int x3)]) (h : X9_those_b27 k4 x1 x3 s0 s1 S = some (r, S1)) : zV LM w X (some (.int r)) S1 S 27 ls [.int s1, .int s0] := by
  unfold X9_those_b27 at h
  refine v_iadd 27 C dX9_those_27 h (fun v1 h => ?_)
  refine v_istore_n 28 C [(2, .int v1), (0, .ref (w.2.2.1 0)), (1, .int x1), (3, .int x3)] dX9_those_28 rfl hl (by decide) rfl (fun ls hl => ?_)
  refine v_iinc 29 C (nn := (1 : Int32)) (fun v => [(3, .int v), (2, .int v1), (0, .ref (w.2.2.1 0)), (1, .int x1)]) dX9_those_29 hl (k := 3) rfl (by decide) (by decide) (fun _ => rfl) h (fun v2 ls hl h => ?_)
  refine v_goto 32 4 C dX9_those_32 (by decide) ?_
  exact hc4 _ _ _ _ _ (lv_sub hl [2, 3, 1, 0] rfl) h
set_option maxRecDepth 20000 in
theorem w_X9_those_b4 {w : zWd} {X : zX} {l0 : Launch} {r : Int32} {S1 : zMem} (C : zC LM w X l0 cX9_those RX9 4 2 (some .int)) {k4 : Int32 → Int32 → Int32 → zMem → Option (Int32 × zMem)} (hc4 : ∀ (x1 : Int32) (x2 : Int32) (x3 : Int32) (S : zMem) (ls : Array Slot), lv_has ls 4 [(0, .ref (w.2.2.1 0)), (1, .int x1), (2, .int x2), (3, .int x3)] → k4 x1 x2 x3 S = some (r, S1) → zV LM w X (some (.int r)) S1 S 4 ls []) {x1 : Int32} {x2 : Int32} {x3 : Int32} {S : zMem} {ls : Array Slot} (hl : lv_has ls 4 [(0, .ref (w.2.2.1 0)), (1, .int x1), (2, .int x2), (3, .int x3)]) (h : X9_those_b4 k4 x1 x2 x3 S = some (r, S1)) : zV LM w X (some (.int r)) S1 S 4 ls [] := by
  unfold X9_those_b4 at h
  refine v_iload_n 4 C dX9_those_4 rfl (lv_at hl 3 rfl) ?_
  refine v_aload_n 5 C dX9_those_5 rfl (lv_at hl 0 rfl) ?_
  refine v_geti 6 C dX9_those_6 fl_X9_152 rfl kM_0 h (fun v1 h => ?_)
  refine v_icmp_ge 9 35 C dX9_those_9 (by decide) h (fun h => ?_) (fun h => ?_)
  · refine v_iload_n 35 C dX9_those_35 rfl (lv_at hl 2 rfl) ?_
    exact v_ireturn 36 C dX9_those_36 h
  · refine v_iload_n 12 C dX9_those_12 rfl (lv_at hl 2 rfl) ?_
    refine v_aload_n 13 C dX9_those_13 rfl (lv_at hl 0 rfl) ?_
    refine v_iload_n 14 C dX9_those_14 rfl (lv_at hl 3 rfl) ?_
    refine v_iload_n 15 C dX9_those_15 rfl (lv_at hl 1 rfl) ?_
    obtain ⟨v2, S, hc, h⟩ := zb_e h
    refine v_callVi 16 C (ci := 8) [.int x2] dX9_those_16 ml_X9_194 hy_X9_isOf (c_X9_isOf  hc) (by decide) rfl hl.1 kM_0 rfl (Nat.le_of_ble_eq_true rfl) rfl ?_
    refine v_if_eq 19 26 C dX9_those_19 (by decide) h (fun h => ?_) (fun h => ?_)
    · refine v_iconst 26 C (v := (0 : Int32)) dX9_those_26 (by decide) ?_
      exact w_X9_those_b27 C hc4 (lv_sub hl [0, 1, 3] rfl) h
    · refine v_iconst 22 C (v := (1 : Int32)) dX9_those_22 (by decide) ?_
      refine v_goto 23 27 C dX9_those_23 (by decide) ?_
      exact w_X9_those_b27 C hc4 (lv_sub hl [0, 1, 3] rfl) h
theorem w_X9_those_l4 {w : zWd} {X : zX} {l0 : Launch} {r : Int32} {S1 : zMem} (C : zC LM w X l0 cX9_those RX9 4 2 (some .int)) : ∀ (n : Nat) (x1 : Int32) (x2 : Int32) (x3 : Int32) (S : zMem) (ls : Array Slot), lv_has ls 4 [(0, .ref (w.2.2.1 0)), (1, .int x1), (2, .int x2), (3, .int x3)] → X9_those_l4 n x1 x2 x3 S = some (r, S1) → zV LM w X (some (.int r)) S1 S 4 ls [] := by
  intro n
  induction n with
  | zero =>
    intro x1 x2 x3 S ls hl h
    cases (show (none : Option (Int32 × zMem)) = some _ from h)
  | succ n ih =>
    intro x1 x2 x3 S ls hl h
    exact w_X9_those_b4 C ih hl h
set_option maxRecDepth 20000 in
theorem w_X9_those_b0 {w : zWd} {X : zX} {l0 : Launch} {r : Int32} {S1 : zMem} (C : zC LM w X l0 cX9_those RX9 4 2 (some .int)) {x1 : Int32} {S : zMem} {ls : Array Slot} (hl : lv_has ls 4 [(0, .ref (w.2.2.1 0)), (1, .int x1)]) (h : X9_those_b0 x1 S = some (r, S1)) : zV LM w X (some (.int r)) S1 S 0 ls [] := by
  unfold X9_those_b0 at h
  refine v_iconst 0 C (v := (0 : Int32)) dX9_those_0 (by decide) ?_
  refine v_istore_n 1 C [(2, .int (0 : Int32)), (0, .ref (w.2.2.1 0)), (1, .int x1)] dX9_those_1 rfl hl (by decide) rfl (fun ls hl => ?_)
  refine v_iconst 2 C (v := (0 : Int32)) dX9_those_2 (by decide) ?_
  refine v_istore_n 3 C [(3, .int (0 : Int32)), (2, .int (0 : Int32)), (0, .ref (w.2.2.1 0)), (1, .int x1)] dX9_those_3 rfl hl (by decide) rfl (fun ls hl => ?_)
  exact w_X9_those_l4 C zF _ _ _ _ _ (lv_sub hl [2, 3, 1, 0] rfl) h
theorem c_X9_those {w : zWd} {l0 : Launch} {x1 : Int32} {S S1 : zMem} {r : Int32} (h : f_X9_those x1 S = some (r, S1)) : zMet LM w l0 yX9_those cX9_those 4 (some .int) 2 [.ref (w.2.2.1 0), .int x1] S (some (.int r)) S1 :=
  zMet_of (by decide +kernel) (Nat.le_of_ble_eq_true rfl) (fun X ls C hl => w_X9_those_b0 C hl h)
theorem dX9_thereOf_0 : decode cX9_thereOf 0 = .ok (.iconst 0, 1) := by decide +kernel
theorem dX9_thereOf_1 : decode cX9_thereOf 1 = .ok (.istore_n 2, 1) := by decide +kernel
theorem dX9_thereOf_2 : decode cX9_thereOf 2 = .ok (.iconst 0, 1) := by decide +kernel
theorem dX9_thereOf_3 : decode cX9_thereOf 3 = .ok (.istore_n 3, 1) := by decide +kernel
theorem dX9_thereOf_4 : decode cX9_thereOf 4 = .ok (.iload_n 3, 1) := by decide +kernel
theorem dX9_thereOf_5 : decode cX9_thereOf 5 = .ok (.bipush 6, 2) := by decide +kernel
theorem dX9_thereOf_7 : decode cX9_thereOf 7 = .ok (.if_icmp .ge 90, 3) := by decide +kernel
theorem dX9_thereOf_10 : decode cX9_thereOf 10 = .ok (.iload_n 2, 1) := by decide +kernel
theorem dX9_thereOf_11 : decode cX9_thereOf 11 = .ok (.iload_n 1, 1) := by decide +kernel
theorem dX9_thereOf_12 : decode cX9_thereOf 12 = .ok (.bipush 11, 2) := by decide +kernel
theorem dX9_thereOf_14 : decode cX9_thereOf 14 = .ok (.if_icmp .ne 20, 3) := by decide +kernel
theorem dX9_thereOf_17 : decode cX9_thereOf 17 = .ok (.aload_n 0, 1) := by decide +kernel
theorem dX9_thereOf_18 : decode cX9_thereOf 18 = .ok (.getfield 22, 3) := by decide +kernel
theorem dX9_thereOf_21 : decode cX9_thereOf 21 = .ok (.iload_n 3, 1) := by decide +kernel
theorem dX9_thereOf_22 : decode cX9_thereOf 22 = .ok (.iaload, 1) := by decide +kernel
theorem dX9_thereOf_23 : decode cX9_thereOf 23 = .ok (.ifCond .ge 7, 3) := by decide +kernel
theorem dX9_thereOf_26 : decode cX9_thereOf 26 = .ok (.iconst 0, 1) := by decide +kernel
theorem dX9_thereOf_27 : decode cX9_thereOf 27 = .ok (.goto 62, 3) := by decide +kernel
theorem dX9_thereOf_30 : decode cX9_thereOf 30 = .ok (.iconst 1, 1) := by decide +kernel
theorem dX9_thereOf_31 : decode cX9_thereOf 31 = .ok (.goto 58, 3) := by decide +kernel
theorem dX9_thereOf_34 : decode cX9_thereOf 34 = .ok (.iload_n 1, 1) := by decide +kernel
theorem dX9_thereOf_35 : decode cX9_thereOf 35 = .ok (.bipush 12, 2) := by decide +kernel
theorem dX9_thereOf_37 : decode cX9_thereOf 37 = .ok (.if_icmp .ne 25, 3) := by decide +kernel
theorem dX9_thereOf_40 : decode cX9_thereOf 40 = .ok (.iload_n 3, 1) := by decide +kernel
theorem dX9_thereOf_41 : decode cX9_thereOf 41 = .ok (.iconst 4, 1) := by decide +kernel
theorem dX9_thereOf_42 : decode cX9_thereOf 42 = .ok (.if_icmp .ge 16, 3) := by decide +kernel
theorem dX9_thereOf_45 : decode cX9_thereOf 45 = .ok (.aload_n 0, 1) := by decide +kernel
theorem dX9_thereOf_46 : decode cX9_thereOf 46 = .ok (.getfield 28, 3) := by decide +kernel
theorem dX9_thereOf_49 : decode cX9_thereOf 49 = .ok (.iload_n 3, 1) := by decide +kernel
theorem dX9_thereOf_50 : decode cX9_thereOf 50 = .ok (.iaload, 1) := by decide +kernel
theorem dX9_thereOf_51 : decode cX9_thereOf 51 = .ok (.ifCond .lt 7, 3) := by decide +kernel
theorem dX9_thereOf_54 : decode cX9_thereOf 54 = .ok (.iconst 1, 1) := by decide +kernel
theorem dX9_thereOf_55 : decode cX9_thereOf 55 = .ok (.goto 34, 3) := by decide +kernel
theorem dX9_thereOf_58 : decode cX9_thereOf 58 = .ok (.iconst 0, 1) := by decide +kernel
theorem dX9_thereOf_59 : decode cX9_thereOf 59 = .ok (.goto 30, 3) := by decide +kernel
theorem dX9_thereOf_62 : decode cX9_thereOf 62 = .ok (.iload_n 3, 1) := by decide +kernel
theorem dX9_thereOf_63 : decode cX9_thereOf 63 = .ok (.iconst 3, 1) := by decide +kernel
theorem dX9_thereOf_64 : decode cX9_thereOf 64 = .ok (.if_icmp .ge 24, 3) := by decide +kernel
theorem dX9_thereOf_67 : decode cX9_thereOf 67 = .ok (.aload_n 0, 1) := by decide +kernel
theorem dX9_thereOf_68 : decode cX9_thereOf 68 = .ok (.getfield 7, 3) := by decide +kernel
theorem dX9_thereOf_71 : decode cX9_thereOf 71 = .ok (.sipush 698, 3) := by decide +kernel
theorem dX9_thereOf_74 : decode cX9_thereOf 74 = .ok (.iconst 1, 1) := by decide +kernel
theorem dX9_thereOf_75 : decode cX9_thereOf 75 = .ok (.iload_n 3, 1) := by decide +kernel
theorem dX9_thereOf_76 : decode cX9_thereOf 76 = .ok (.iadd, 1) := by decide +kernel
theorem dX9_thereOf_77 : decode cX9_thereOf 77 = .ok (.imul, 1) := by decide +kernel
theorem dX9_thereOf_78 : decode cX9_thereOf 78 = .ok (.iconst 0, 1) := by decide +kernel
theorem dX9_thereOf_79 : decode cX9_thereOf 79 = .ok (.iadd, 1) := by decide +kernel
theorem dX9_thereOf_80 : decode cX9_thereOf 80 = .ok (.iaload, 1) := by decide +kernel
theorem dX9_thereOf_81 : decode cX9_thereOf 81 = .ok (.ifCond .lt 7, 3) := by decide +kernel
theorem dX9_thereOf_84 : decode cX9_thereOf 84 = .ok (.iconst 1, 1) := by decide +kernel
theorem dX9_thereOf_85 : decode cX9_thereOf 85 = .ok (.goto 4, 3) := by decide +kernel
theorem dX9_thereOf_88 : decode cX9_thereOf 88 = .ok (.iconst 0, 1) := by decide +kernel
theorem dX9_thereOf_89 : decode cX9_thereOf 89 = .ok (.iadd, 1) := by decide +kernel
theorem dX9_thereOf_90 : decode cX9_thereOf 90 = .ok (.istore_n 2, 1) := by decide +kernel
theorem dX9_thereOf_91 : decode cX9_thereOf 91 = .ok (.iinc 3 1, 3) := by decide +kernel
theorem dX9_thereOf_94 : decode cX9_thereOf 94 = .ok (.goto (-90), 3) := by decide +kernel
theorem dX9_thereOf_97 : decode cX9_thereOf 97 = .ok (.iload_n 2, 1) := by decide +kernel
theorem dX9_thereOf_98 : decode cX9_thereOf 98 = .ok (.ireturn, 1) := by decide +kernel
set_option maxRecDepth 20000 in
theorem w_X9_thereOf_b89 {w : zWd} {X : zX} {l0 : Launch} {r : Int32} {S1 : zMem} (C : zC LM w X l0 cX9_thereOf RX9 4 1 (some .int)) {k4 : Int32 → Int32 → Int32 → zMem → Option (Int32 × zMem)} (hc4 : ∀ (x1 : Int32) (x2 : Int32) (x3 : Int32) (S : zMem) (ls : Array Slot), lv_has ls 4 [(0, .ref (w.2.2.1 0)), (1, .int x1), (2, .int x2), (3, .int x3)] → k4 x1 x2 x3 S = some (r, S1) → zV LM w X (some (.int r)) S1 S 4 ls []) {x1 : Int32} {x3 : Int32} {s0 : Int32} {s1 : Int32} {S : zMem} {ls : Array Slot} (hl : lv_has ls 4 [(0, .ref (w.2.2.1 0)), (1, .int x1), (3, .int x3)]) (h : X9_thereOf_b89 k4 x1 x3 s0 s1 S = some (r, S1)) : zV LM w X (some (.int r)) S1 S 89 ls [.int s1, .int s0] := by
  unfold X9_thereOf_b89 at h
  refine v_iadd 89 C dX9_thereOf_89 h (fun v1 h => ?_)
  refine v_istore_n 90 C [(2, .int v1), (0, .ref (w.2.2.1 0)), (1, .int x1), (3, .int x3)] dX9_thereOf_90 rfl hl (by decide) rfl (fun ls hl => ?_)
  refine v_iinc 91 C (nn := (1 : Int32)) (fun v => [(3, .int v), (2, .int v1), (0, .ref (w.2.2.1 0)), (1, .int x1)]) dX9_thereOf_91 hl (k := 3) rfl (by decide) (by decide) (fun _ => rfl) h (fun v2 ls hl h => ?_)
  refine v_goto 94 4 C dX9_thereOf_94 (by decide) ?_
  exact hc4 _ _ _ _ _ (lv_sub hl [2, 3, 1, 0] rfl) h
set_option maxRecDepth 20000 in
theorem w_X9_thereOf_b58 {w : zWd} {X : zX} {l0 : Launch} {r : Int32} {S1 : zMem} (C : zC LM w X l0 cX9_thereOf RX9 4 1 (some .int)) {k4 : Int32 → Int32 → Int32 → zMem → Option (Int32 × zMem)} (hc4 : ∀ (x1 : Int32) (x2 : Int32) (x3 : Int32) (S : zMem) (ls : Array Slot), lv_has ls 4 [(0, .ref (w.2.2.1 0)), (1, .int x1), (2, .int x2), (3, .int x3)] → k4 x1 x2 x3 S = some (r, S1) → zV LM w X (some (.int r)) S1 S 4 ls []) {x1 : Int32} {x3 : Int32} {s0 : Int32} {S : zMem} {ls : Array Slot} (hl : lv_has ls 4 [(0, .ref (w.2.2.1 0)), (1, .int x1), (3, .int x3)]) (h : X9_thereOf_b58 k4 x1 x3 s0 S = some (r, S1)) : zV LM w X (some (.int r)) S1 S 58 ls [.int s0] := by
  unfold X9_thereOf_b58 at h
  refine v_iconst 58 C (v := (0 : Int32)) dX9_thereOf_58 (by decide) ?_
  refine v_goto 59 89 C dX9_thereOf_59 (by decide) ?_
  exact w_X9_thereOf_b89 C hc4 (lv_sub hl [0, 1, 2] rfl) h
set_option maxRecDepth 20000 in
theorem w_X9_thereOf_b88 {w : zWd} {X : zX} {l0 : Launch} {r : Int32} {S1 : zMem} (C : zC LM w X l0 cX9_thereOf RX9 4 1 (some .int)) {k4 : Int32 → Int32 → Int32 → zMem → Option (Int32 × zMem)} (hc4 : ∀ (x1 : Int32) (x2 : Int32) (x3 : Int32) (S : zMem) (ls : Array Slot), lv_has ls 4 [(0, .ref (w.2.2.1 0)), (1, .int x1), (2, .int x2), (3, .int x3)] → k4 x1 x2 x3 S = some (r, S1) → zV LM w X (some (.int r)) S1 S 4 ls []) {x1 : Int32} {x3 : Int32} {s0 : Int32} {S : zMem} {ls : Array Slot} (hl : lv_has ls 4 [(0, .ref (w.2.2.1 0)), (1, .int x1), (3, .int x3)]) (h : X9_thereOf_b88 k4 x1 x3 s0 S = some (r, S1)) : zV LM w X (some (.int r)) S1 S 88 ls [.int s0] := by
  unfold X9_thereOf_b88 at h
  refine v_iconst 88 C (v := (0 : Int32)) dX9_thereOf_88 (by decide) ?_
  exact w_X9_thereOf_b89 C hc4 (lv_sub hl [0, 1, 2] rfl) h
set_option maxRecDepth 20000 in
theorem w_X9_thereOf_b4 {w : zWd} {X : zX} {l0 : Launch} {r : Int32} {S1 : zMem} (C : zC LM w X l0 cX9_thereOf RX9 4 1 (some .int)) {k4 : Int32 → Int32 → Int32 → zMem → Option (Int32 × zMem)} (hc4 : ∀ (x1 : Int32) (x2 : Int32) (x3 : Int32) (S : zMem) (ls : Array Slot), lv_has ls 4 [(0, .ref (w.2.2.1 0)), (1, .int x1), (2, .int x2), (3, .int x3)] → k4 x1 x2 x3 S = some (r, S1) → zV LM w X (some (.int r)) S1 S 4 ls []) {x1 : Int32} {x2 : Int32} {x3 : Int32} {S : zMem} {ls : Array Slot} (hl : lv_has ls 4 [(0, .ref (w.2.2.1 0)), (1, .int x1), (2, .int x2), (3, .int x3)]) (h : X9_thereOf_b4 k4 x1 x2 x3 S = some (r, S1)) : zV LM w X (some (.int r)) S1 S 4 ls [] := by
  unfold X9_thereOf_b4 at h
  refine v_iload_n 4 C dX9_thereOf_4 rfl (lv_at hl 3 rfl) ?_
  refine v_bipush 5 C (v := (6 : Int32)) dX9_thereOf_5 (by decide) ?_
  refine v_icmp_ge 7 97 C dX9_thereOf_7 (by decide) h (fun h => ?_) (fun h => ?_)
  · refine v_iload_n 97 C dX9_thereOf_97 rfl (lv_at hl 2 rfl) ?_
    exact v_ireturn 98 C dX9_thereOf_98 h
  · refine v_iload_n 10 C dX9_thereOf_10 rfl (lv_at hl 2 rfl) ?_
    refine v_iload_n 11 C dX9_thereOf_11 rfl (lv_at hl 1 rfl) ?_
    refine v_bipush 12 C (v := (11 : Int32)) dX9_thereOf_12 (by decide) ?_
    refine v_icmp_ne 14 34 C dX9_thereOf_14 (by decide) h (fun h => ?_) (fun h => ?_)
    · refine v_iload_n 34 C dX9_thereOf_34 rfl (lv_at hl 1 rfl) ?_
      refine v_bipush 35 C (v := (12 : Int32)) dX9_thereOf_35 (by decide) ?_
      refine v_icmp_ne 37 62 C dX9_thereOf_37 (by decide) h (fun h => ?_) (fun h => ?_)
      · refine v_iload_n 62 C dX9_thereOf_62 rfl (lv_at hl 3 rfl) ?_
        refine v_iconst 63 C (v := (3 : Int32)) dX9_thereOf_63 (by decide) ?_
        refine v_icmp_ge 64 88 C dX9_thereOf_64 (by decide) h (fun h => ?_) (fun h => ?_)
        · exact w_X9_thereOf_b88 C hc4 (lv_sub hl [0, 1, 3] rfl) h
        · refine v_aload_n 67 C dX9_thereOf_67 rfl (lv_at hl 0 rfl) ?_
          refine v_getr 68 (1) C dX9_thereOf_68 fl_X9_7 rfl kM_0 rfl ?_
          refine v_sipush 71 C (v := (698 : Int32)) dX9_thereOf_71 (by decide) ?_
          refine v_iconst 74 C (v := (1 : Int32)) dX9_thereOf_74 (by decide) ?_
          refine v_iload_n 75 C dX9_thereOf_75 rfl (lv_at hl 3 rfl) ?_
          refine v_iadd 76 C dX9_thereOf_76 h (fun v1 h => ?_)
          refine v_imul 77 C dX9_thereOf_77 h (fun v2 h => ?_)
          refine v_iconst 78 C (v := (0 : Int32)) dX9_thereOf_78 (by decide) ?_
          refine v_iadd 79 C dX9_thereOf_79 h (fun v3 h => ?_)
          refine v_iald 80 C dX9_thereOf_80 kM_1 rfl h (fun v4 h => ?_)
          refine v_if_lt 81 88 C dX9_thereOf_81 (by decide) h (fun h => ?_) (fun h => ?_)
          · exact w_X9_thereOf_b88 C hc4 (lv_sub hl [0, 1, 3] rfl) h
          · refine v_iconst 84 C (v := (1 : Int32)) dX9_thereOf_84 (by decide) ?_
            refine v_goto 85 89 C dX9_thereOf_85 (by decide) ?_
            exact w_X9_thereOf_b89 C hc4 (lv_sub hl [0, 1, 3] rfl) h
      · refine v_iload_n 40 C dX9_thereOf_40 rfl (lv_at hl 3 rfl) ?_
        refine v_iconst 41 C (v := (4 : Int32)) dX9_thereOf_41 (by decide) ?_
        refine v_icmp_ge 42 58 C dX9_thereOf_42 (by decide) h (fun h => ?_) (fun h => ?_)
        · exact w_X9_thereOf_b58 C hc4 (lv_sub hl [0, 1, 3] rfl) h
        · refine v_aload_n 45 C dX9_thereOf_45 rfl (lv_at hl 0 rfl) ?_
          refine v_getr 46 (7) C dX9_thereOf_46 fl_X9_28 rfl kM_0 rfl ?_
          refine v_iload_n 49 C dX9_thereOf_49 rfl (lv_at hl 3 rfl) ?_
          refine v_iald 50 C dX9_thereOf_50 kM_7 rfl h (fun v5 h => ?_)
          refine v_if_lt 51 58 C dX9_thereOf_51 (by decide) h (fun h => ?_) (fun h => ?_)
          · exact w_X9_thereOf_b58 C hc4 (lv_sub hl [0, 1, 3] rfl) h
          · refine v_iconst 54 C (v := (1 : Int32)) dX9_thereOf_54 (by decide) ?_
            refine v_goto 55 89 C dX9_thereOf_55 (by decide) ?_
            exact w_X9_thereOf_b89 C hc4 (lv_sub hl [0, 1, 3] rfl) h
    · refine v_aload_n 17 C dX9_thereOf_17 rfl (lv_at hl 0 rfl) ?_
      refine v_getr 18 (5) C dX9_thereOf_18 fl_X9_22 rfl kM_0 rfl ?_
      refine v_iload_n 21 C dX9_thereOf_21 rfl (lv_at hl 3 rfl) ?_
      refine v_iald 22 C dX9_thereOf_22 kM_5 rfl h (fun v6 h => ?_)
      refine v_if_ge 23 30 C dX9_thereOf_23 (by decide) h (fun h => ?_) (fun h => ?_)
      · refine v_iconst 30 C (v := (1 : Int32)) dX9_thereOf_30 (by decide) ?_
        refine v_goto 31 89 C dX9_thereOf_31 (by decide) ?_
        exact w_X9_thereOf_b89 C hc4 (lv_sub hl [0, 1, 3] rfl) h
      · refine v_iconst 26 C (v := (0 : Int32)) dX9_thereOf_26 (by decide) ?_
        refine v_goto 27 89 C dX9_thereOf_27 (by decide) ?_
        exact w_X9_thereOf_b89 C hc4 (lv_sub hl [0, 1, 3] rfl) h
theorem w_X9_thereOf_l4 {w : zWd} {X : zX} {l0 : Launch} {r : Int32} {S1 : zMem} (C : zC LM w X l0 cX9_thereOf RX9 4 1 (some .int)) : ∀ (n : Nat) (x1 : Int32) (x2 : Int32) (x3 : Int32) (S : zMem) (ls : Array Slot), lv_has ls 4 [(0, .ref (w.2.2.1 0)), (1, .int x1), (2, .int x2), (3, .int x3)] → X9_thereOf_l4 n x1 x2 x3 S = some (r, S1) → zV LM w X (some (.int r)) S1 S 4 ls [] := by
  intro n
  induction n with
  | zero =>
    intro x1 x2 x3 S ls hl h
    cases (show (none : Option (Int32 × zMem)) = some _ from h)
  | succ n ih =>
    intro x1 x2 x3 S ls hl h
    exact w_X9_thereOf_b4 C ih hl h
set_option maxRecDepth 20000 in
theorem w_X9_thereOf_b0 {w : zWd} {X : zX} {l0 : Launch} {r : Int32} {S1 : zMem} (C : zC LM w X l0 cX9_thereOf RX9 4 1 (some .int)) {x1 : Int32} {S : zMem} {ls : Array Slot} (hl : lv_has ls 4 [(0, .ref (w.2.2.1 0)), (1, .int x1)]) (h : X9_thereOf_b0 x1 S = some (r, S1)) : zV LM w X (some (.int r)) S1 S 0 ls [] := by
  unfold X9_thereOf_b0 at h
  refine v_iconst 0 C (v := (0 : Int32)) dX9_thereOf_0 (by decide) ?_
  refine v_istore_n 1 C [(2, .int (0 : Int32)), (0, .ref (w.2.2.1 0)), (1, .int x1)] dX9_thereOf_1 rfl hl (by decide) rfl (fun ls hl => ?_)
  refine v_iconst 2 C (v := (0 : Int32)) dX9_thereOf_2 (by decide) ?_
  refine v_istore_n 3 C [(3, .int (0 : Int32)), (2, .int (0 : Int32)), (0, .ref (w.2.2.1 0)), (1, .int x1)] dX9_thereOf_3 rfl hl (by decide) rfl (fun ls hl => ?_)
  exact w_X9_thereOf_l4 C zF _ _ _ _ _ (lv_sub hl [2, 3, 1, 0] rfl) h
theorem c_X9_thereOf {w : zWd} {l0 : Launch} {x1 : Int32} {S S1 : zMem} {r : Int32} (h : f_X9_thereOf x1 S = some (r, S1)) : zMet LM w l0 yX9_thereOf cX9_thereOf 4 (some .int) 1 [.ref (w.2.2.1 0), .int x1] S (some (.int r)) S1 :=
  zMet_of (by decide +kernel) (Nat.le_of_ble_eq_true rfl) (fun X ls C hl => w_X9_thereOf_b0 C hl h)
theorem ml_X9_298 : Cond.methodLink RX9 298 yX9_those ∈ zT := zT_of (List.mem_of_getElem? (i := 1335) (by decide +kernel)) rfl
theorem hy_X9_those : zYv yX9_those cX9_those 4 (some .int) 1 := ⟨⟨zT_of (List.mem_of_getElem? (i := 1338) (by decide +kernel)) rfl, zT_of (List.mem_of_getElem? (i := 78) (by decide +kernel)) rfl, by decide, by decide +kernel, by decide +kernel, by decide +kernel⟩, zT_of (List.mem_of_getElem? (i := 1337) (by decide +kernel)) rfl, zT_of (List.mem_of_getElem? (i := 67) (by decide +kernel)) rfl⟩
theorem ml_X9_301 : Cond.methodLink RX9 301 yX9_thereOf ∈ zT := zT_of (List.mem_of_getElem? (i := 1339) (by decide +kernel)) rfl
theorem hy_X9_thereOf : zYv yX9_thereOf cX9_thereOf 4 (some .int) 1 := ⟨⟨zT_of (List.mem_of_getElem? (i := 1342) (by decide +kernel)) rfl, zT_of (List.mem_of_getElem? (i := 78) (by decide +kernel)) rfl, by decide, by decide +kernel, by decide +kernel, by decide +kernel⟩, zT_of (List.mem_of_getElem? (i := 1341) (by decide +kernel)) rfl, zT_of (List.mem_of_getElem? (i := 68) (by decide +kernel)) rfl⟩
theorem dX9_countOf_0 : decode cX9_countOf 0 = .ok (.iload_n 1, 1) := by decide +kernel
theorem dX9_countOf_1 : decode cX9_countOf 1 = .ok (.tableswitch 128 0 10 #[59, 64, 69, 76, 83, 90, 97, 104, 111, 116, 122], 59) := by decide +kernel
theorem dX9_countOf_60 : decode cX9_countOf 60 = .ok (.aload_n 0, 1) := by decide +kernel
theorem dX9_countOf_61 : decode cX9_countOf 61 = .ok (.getfield 149, 3) := by decide +kernel
theorem dX9_countOf_64 : decode cX9_countOf 64 = .ok (.ireturn, 1) := by decide +kernel
theorem dX9_countOf_65 : decode cX9_countOf 65 = .ok (.aload_n 0, 1) := by decide +kernel
theorem dX9_countOf_66 : decode cX9_countOf 66 = .ok (.getfield 152, 3) := by decide +kernel
theorem dX9_countOf_69 : decode cX9_countOf 69 = .ok (.ireturn, 1) := by decide +kernel
theorem dX9_countOf_70 : decode cX9_countOf 70 = .ok (.aload_n 0, 1) := by decide +kernel
theorem dX9_countOf_71 : decode cX9_countOf 71 = .ok (.getfield 7, 3) := by decide +kernel
theorem dX9_countOf_74 : decode cX9_countOf 74 = .ok (.iconst 1, 1) := by decide +kernel
theorem dX9_countOf_75 : decode cX9_countOf 75 = .ok (.iaload, 1) := by decide +kernel
theorem dX9_countOf_76 : decode cX9_countOf 76 = .ok (.ireturn, 1) := by decide +kernel
theorem dX9_countOf_77 : decode cX9_countOf 77 = .ok (.aload_n 0, 1) := by decide +kernel
theorem dX9_countOf_78 : decode cX9_countOf 78 = .ok (.getfield 7, 3) := by decide +kernel
theorem dX9_countOf_81 : decode cX9_countOf 81 = .ok (.iconst 0, 1) := by decide +kernel
theorem dX9_countOf_82 : decode cX9_countOf 82 = .ok (.iaload, 1) := by decide +kernel
theorem dX9_countOf_83 : decode cX9_countOf 83 = .ok (.ireturn, 1) := by decide +kernel
theorem dX9_countOf_84 : decode cX9_countOf 84 = .ok (.aload_n 0, 1) := by decide +kernel
theorem dX9_countOf_85 : decode cX9_countOf 85 = .ok (.getfield 7, 3) := by decide +kernel
theorem dX9_countOf_88 : decode cX9_countOf 88 = .ok (.iconst 2, 1) := by decide +kernel
theorem dX9_countOf_89 : decode cX9_countOf 89 = .ok (.iaload, 1) := by decide +kernel
theorem dX9_countOf_90 : decode cX9_countOf 90 = .ok (.ireturn, 1) := by decide +kernel
theorem dX9_countOf_91 : decode cX9_countOf 91 = .ok (.aload_n 0, 1) := by decide +kernel
theorem dX9_countOf_92 : decode cX9_countOf 92 = .ok (.getfield 7, 3) := by decide +kernel
theorem dX9_countOf_95 : decode cX9_countOf 95 = .ok (.iconst 3, 1) := by decide +kernel
theorem dX9_countOf_96 : decode cX9_countOf 96 = .ok (.iaload, 1) := by decide +kernel
theorem dX9_countOf_97 : decode cX9_countOf 97 = .ok (.ireturn, 1) := by decide +kernel
theorem dX9_countOf_98 : decode cX9_countOf 98 = .ok (.aload_n 0, 1) := by decide +kernel
theorem dX9_countOf_99 : decode cX9_countOf 99 = .ok (.getfield 7, 3) := by decide +kernel
theorem dX9_countOf_102 : decode cX9_countOf 102 = .ok (.iconst 4, 1) := by decide +kernel
theorem dX9_countOf_103 : decode cX9_countOf 103 = .ok (.iaload, 1) := by decide +kernel
theorem dX9_countOf_104 : decode cX9_countOf 104 = .ok (.ireturn, 1) := by decide +kernel
theorem dX9_countOf_105 : decode cX9_countOf 105 = .ok (.aload_n 0, 1) := by decide +kernel
theorem dX9_countOf_106 : decode cX9_countOf 106 = .ok (.getfield 7, 3) := by decide +kernel
theorem dX9_countOf_109 : decode cX9_countOf 109 = .ok (.iconst 5, 1) := by decide +kernel
theorem dX9_countOf_110 : decode cX9_countOf 110 = .ok (.iaload, 1) := by decide +kernel
theorem dX9_countOf_111 : decode cX9_countOf 111 = .ok (.ireturn, 1) := by decide +kernel
theorem dX9_countOf_112 : decode cX9_countOf 112 = .ok (.aload_n 0, 1) := by decide +kernel
theorem dX9_countOf_113 : decode cX9_countOf 113 = .ok (.invokevirtual 295, 3) := by decide +kernel
theorem dX9_countOf_116 : decode cX9_countOf 116 = .ok (.ireturn, 1) := by decide +kernel
theorem dX9_countOf_117 : decode cX9_countOf 117 = .ok (.aload_n 0, 1) := by decide +kernel
theorem dX9_countOf_118 : decode cX9_countOf 118 = .ok (.iconst 1, 1) := by decide +kernel
theorem dX9_countOf_119 : decode cX9_countOf 119 = .ok (.invokevirtual 298, 3) := by decide +kernel
theorem dX9_countOf_122 : decode cX9_countOf 122 = .ok (.ireturn, 1) := by decide +kernel
theorem dX9_countOf_123 : decode cX9_countOf 123 = .ok (.aload_n 0, 1) := by decide +kernel
theorem dX9_countOf_124 : decode cX9_countOf 124 = .ok (.iconst 3, 1) := by decide +kernel
theorem dX9_countOf_125 : decode cX9_countOf 125 = .ok (.invokevirtual 298, 3) := by decide +kernel
theorem dX9_countOf_128 : decode cX9_countOf 128 = .ok (.ireturn, 1) := by decide +kernel
theorem dX9_countOf_129 : decode cX9_countOf 129 = .ok (.aload_n 0, 1) := by decide +kernel
theorem dX9_countOf_130 : decode cX9_countOf 130 = .ok (.iload_n 1, 1) := by decide +kernel
theorem dX9_countOf_131 : decode cX9_countOf 131 = .ok (.invokevirtual 301, 3) := by decide +kernel
theorem dX9_countOf_134 : decode cX9_countOf 134 = .ok (.ireturn, 1) := by decide +kernel
set_option maxRecDepth 20000 in
theorem w_X9_countOf_b0 {w : zWd} {X : zX} {l0 : Launch} {r : Int32} {S1 : zMem} (C : zC LM w X l0 cX9_countOf RX9 2 3 (some .int)) {x1 : Int32} {S : zMem} {ls : Array Slot} (hl : lv_has ls 2 [(0, .ref (w.2.2.1 0)), (1, .int x1)]) (h : X9_countOf_b0 x1 S = some (r, S1)) : zV LM w X (some (.int r)) S1 S 0 ls [] := by
  unfold X9_countOf_b0 at h
  refine v_iload_n 0 C dX9_countOf_0 rfl (lv_at hl 1 rfl) ?_
  refine v_ite h (fun hq2 h => ?_) (fun hq2 h => ?_)
  · refine v_tab 1 60 C (x := x1) (off := 59) dX9_countOf_1 (by rw [hq2]; decide) (by rw [hq2]; decide) (by rw [hq2]; rfl) (by decide) ?_
    refine v_aload_n 60 C dX9_countOf_60 rfl (lv_at hl 0 rfl) ?_
    refine v_geti 61 C dX9_countOf_61 fl_X9_149 rfl kM_0 h (fun v1 h => ?_)
    exact v_ireturn 64 C dX9_countOf_64 h
  · refine v_ite h (fun hq4 h => ?_) (fun hq4 h => ?_)
    · refine v_tab 1 65 C (x := x1) (off := 64) dX9_countOf_1 (by rw [hq4]; decide) (by rw [hq4]; decide) (by rw [hq4]; rfl) (by decide) ?_
      refine v_aload_n 65 C dX9_countOf_65 rfl (lv_at hl 0 rfl) ?_
      refine v_geti 66 C dX9_countOf_66 fl_X9_152 rfl kM_0 h (fun v3 h => ?_)
      exact v_ireturn 69 C dX9_countOf_69 h
    · refine v_ite h (fun hq6 h => ?_) (fun hq6 h => ?_)
      · refine v_tab 1 70 C (x := x1) (off := 69) dX9_countOf_1 (by rw [hq6]; decide) (by rw [hq6]; decide) (by rw [hq6]; rfl) (by decide) ?_
        refine v_aload_n 70 C dX9_countOf_70 rfl (lv_at hl 0 rfl) ?_
        refine v_getr 71 (1) C dX9_countOf_71 fl_X9_7 rfl kM_0 rfl ?_
        refine v_iconst 74 C (v := (1 : Int32)) dX9_countOf_74 (by decide) ?_
        refine v_iald 75 C dX9_countOf_75 kM_1 rfl h (fun v5 h => ?_)
        exact v_ireturn 76 C dX9_countOf_76 h
      · refine v_ite h (fun hq8 h => ?_) (fun hq8 h => ?_)
        · refine v_tab 1 77 C (x := x1) (off := 76) dX9_countOf_1 (by rw [hq8]; decide) (by rw [hq8]; decide) (by rw [hq8]; rfl) (by decide) ?_
          refine v_aload_n 77 C dX9_countOf_77 rfl (lv_at hl 0 rfl) ?_
          refine v_getr 78 (1) C dX9_countOf_78 fl_X9_7 rfl kM_0 rfl ?_
          refine v_iconst 81 C (v := (0 : Int32)) dX9_countOf_81 (by decide) ?_
          refine v_iald 82 C dX9_countOf_82 kM_1 rfl h (fun v7 h => ?_)
          exact v_ireturn 83 C dX9_countOf_83 h
        · refine v_ite h (fun hq10 h => ?_) (fun hq10 h => ?_)
          · refine v_tab 1 84 C (x := x1) (off := 83) dX9_countOf_1 (by rw [hq10]; decide) (by rw [hq10]; decide) (by rw [hq10]; rfl) (by decide) ?_
            refine v_aload_n 84 C dX9_countOf_84 rfl (lv_at hl 0 rfl) ?_
            refine v_getr 85 (1) C dX9_countOf_85 fl_X9_7 rfl kM_0 rfl ?_
            refine v_iconst 88 C (v := (2 : Int32)) dX9_countOf_88 (by decide) ?_
            refine v_iald 89 C dX9_countOf_89 kM_1 rfl h (fun v9 h => ?_)
            exact v_ireturn 90 C dX9_countOf_90 h
          · refine v_ite h (fun hq12 h => ?_) (fun hq12 h => ?_)
            · refine v_tab 1 91 C (x := x1) (off := 90) dX9_countOf_1 (by rw [hq12]; decide) (by rw [hq12]; decide) (by rw [hq12]; rfl) (by decide) ?_
              refine v_aload_n 91 C dX9_countOf_91 rfl (lv_at hl 0 rfl) ?_
              refine v_getr 92 (1) C dX9_countOf_92 fl_X9_7 rfl kM_0 rfl ?_
              refine v_iconst 95 C (v := (3 : Int32)) dX9_countOf_95 (by decide) ?_
              refine v_iald 96 C dX9_countOf_96 kM_1 rfl h (fun v11 h => ?_)
              exact v_ireturn 97 C dX9_countOf_97 h
            · refine v_ite h (fun hq14 h => ?_) (fun hq14 h => ?_)
              · refine v_tab 1 98 C (x := x1) (off := 97) dX9_countOf_1 (by rw [hq14]; decide) (by rw [hq14]; decide) (by rw [hq14]; rfl) (by decide) ?_
                refine v_aload_n 98 C dX9_countOf_98 rfl (lv_at hl 0 rfl) ?_
                refine v_getr 99 (1) C dX9_countOf_99 fl_X9_7 rfl kM_0 rfl ?_
                refine v_iconst 102 C (v := (4 : Int32)) dX9_countOf_102 (by decide) ?_
                refine v_iald 103 C dX9_countOf_103 kM_1 rfl h (fun v13 h => ?_)
                exact v_ireturn 104 C dX9_countOf_104 h
              · refine v_ite h (fun hq16 h => ?_) (fun hq16 h => ?_)
                · refine v_tab 1 105 C (x := x1) (off := 104) dX9_countOf_1 (by rw [hq16]; decide) (by rw [hq16]; decide) (by rw [hq16]; rfl) (by decide) ?_
                  refine v_aload_n 105 C dX9_countOf_105 rfl (lv_at hl 0 rfl) ?_
                  refine v_getr 106 (1) C dX9_countOf_106 fl_X9_7 rfl kM_0 rfl ?_
                  refine v_iconst 109 C (v := (5 : Int32)) dX9_countOf_109 (by decide) ?_
                  refine v_iald 110 C dX9_countOf_110 kM_1 rfl h (fun v15 h => ?_)
                  exact v_ireturn 111 C dX9_countOf_111 h
                · refine v_ite h (fun hq18 h => ?_) (fun hq18 h => ?_)
                  · refine v_tab 1 112 C (x := x1) (off := 111) dX9_countOf_1 (by rw [hq18]; decide) (by rw [hq18]; decide) (by rw [hq18]; rfl) (by decide) ?_
                    refine v_aload_n 112 C dX9_countOf_112 rfl (lv_at hl 0 rfl) ?_
                    obtain ⟨v17, S, hc, h⟩ := zb_e h
                    refine v_callVi 113 C (ci := 8) [] dX9_countOf_113 ml_X9_295 hy_X9_allBonds (c_X9_allBonds  hc) (by decide) rfl hl.1 kM_0 rfl (Nat.le_of_ble_eq_true rfl) rfl ?_
                    exact v_ireturn 116 C dX9_countOf_116 h
                  · refine v_ite h (fun hq20 h => ?_) (fun hq20 h => ?_)
                    · refine v_tab 1 117 C (x := x1) (off := 116) dX9_countOf_1 (by rw [hq20]; decide) (by rw [hq20]; decide) (by rw [hq20]; rfl) (by decide) ?_
                      refine v_aload_n 117 C dX9_countOf_117 rfl (lv_at hl 0 rfl) ?_
                      refine v_iconst 118 C (v := (1 : Int32)) dX9_countOf_118 (by decide) ?_
                      obtain ⟨v19, S, hc, h⟩ := zb_e h
                      refine v_callVi 119 C (ci := 8) [] dX9_countOf_119 ml_X9_298 hy_X9_those (c_X9_those  hc) (by decide) rfl hl.1 kM_0 rfl (Nat.le_of_ble_eq_true rfl) rfl ?_
                      exact v_ireturn 122 C dX9_countOf_122 h
                    · refine v_ite h (fun hq22 h => ?_) (fun hq22 h => ?_)
                      · refine v_tab 1 123 C (x := x1) (off := 122) dX9_countOf_1 (by rw [hq22]; decide) (by rw [hq22]; decide) (by rw [hq22]; rfl) (by decide) ?_
                        refine v_aload_n 123 C dX9_countOf_123 rfl (lv_at hl 0 rfl) ?_
                        refine v_iconst 124 C (v := (3 : Int32)) dX9_countOf_124 (by decide) ?_
                        obtain ⟨v21, S, hc, h⟩ := zb_e h
                        refine v_callVi 125 C (ci := 8) [] dX9_countOf_125 ml_X9_298 hy_X9_those (c_X9_those  hc) (by decide) rfl hl.1 kM_0 rfl (Nat.le_of_ble_eq_true rfl) rfl ?_
                        exact v_ireturn 128 C dX9_countOf_128 h
                      · refine v_tabo 1 129 C (x := x1) dX9_countOf_1 (by have hq2z := zne hq2 (show ((0 : Int32)).toInt = 0 by decide); have hq4z := zne hq4 (show ((1 : Int32)).toInt = 1 by decide); have hq6z := zne hq6 (show ((2 : Int32)).toInt = 2 by decide); have hq8z := zne hq8 (show ((3 : Int32)).toInt = 3 by decide); have hq10z := zne hq10 (show ((4 : Int32)).toInt = 4 by decide); have hq12z := zne hq12 (show ((5 : Int32)).toInt = 5 by decide); have hq14z := zne hq14 (show ((6 : Int32)).toInt = 6 by decide); have hq16z := zne hq16 (show ((7 : Int32)).toInt = 7 by decide); have hq18z := zne hq18 (show ((8 : Int32)).toInt = 8 by decide); have hq20z := zne hq20 (show ((9 : Int32)).toInt = 9 by decide); have hq22z := zne hq22 (show ((10 : Int32)).toInt = 10 by decide); omega) (by decide) ?_
                        refine v_aload_n 129 C dX9_countOf_129 rfl (lv_at hl 0 rfl) ?_
                        refine v_iload_n 130 C dX9_countOf_130 rfl (lv_at hl 1 rfl) ?_
                        obtain ⟨v23, S, hc, h⟩ := zb_e h
                        refine v_callVi 131 C (ci := 8) [] dX9_countOf_131 ml_X9_301 hy_X9_thereOf (c_X9_thereOf  hc) (by decide) rfl hl.1 kM_0 rfl (Nat.le_of_ble_eq_true rfl) rfl ?_
                        exact v_ireturn 134 C dX9_countOf_134 h
theorem c_X9_countOf {w : zWd} {l0 : Launch} {x1 : Int32} {S S1 : zMem} {r : Int32} (h : f_X9_countOf x1 S = some (r, S1)) : zMet LM w l0 yX9_countOf cX9_countOf 2 (some .int) 3 [.ref (w.2.2.1 0), .int x1] S (some (.int r)) S1 :=
  zMet_of (by decide +kernel) (Nat.le_of_ble_eq_true rfl) (fun X ls C hl => w_X9_countOf_b0 C hl h)
theorem co_X9_304 : Cond.constantLong RX9 304 13 ∈ zT := zT_of (List.mem_of_getElem? (i := 1330) (by decide +kernel)) rfl
theorem ml_X9_306 : Cond.methodLink RX9 306 yX9_countOf ∈ zT := zT_of (List.mem_of_getElem? (i := 1331) (by decide +kernel)) rfl
theorem hy_X9_countOf : zYv yX9_countOf cX9_countOf 2 (some .int) 1 := ⟨⟨zT_of (List.mem_of_getElem? (i := 1334) (by decide +kernel)) rfl, zT_of (List.mem_of_getElem? (i := 78) (by decide +kernel)) rfl, by decide, by decide +kernel, by decide +kernel, by decide +kernel⟩, zT_of (List.mem_of_getElem? (i := 1333) (by decide +kernel)) rfl, zT_of (List.mem_of_getElem? (i := 66) (by decide +kernel)) rfl⟩
theorem dX9_count_0 : decode cX9_count 0 = .ok (.iload_n 1, 1) := by decide +kernel
theorem dX9_count_1 : decode cX9_count 1 = .ok (.i2l, 1) := by decide +kernel
theorem dX9_count_2 : decode cX9_count 2 = .ok (.lconst 0, 1) := by decide +kernel
theorem dX9_count_3 : decode cX9_count 3 = .ok (.ldc2_w 304, 3) := by decide +kernel
theorem dX9_count_6 : decode cX9_count 6 = .ok (.invokestatic 65, 3) := by decide +kernel
theorem dX9_count_9 : decode cX9_count 9 = .ok (.ifCond .eq 11, 3) := by decide +kernel
theorem dX9_count_12 : decode cX9_count 12 = .ok (.aload_n 0, 1) := by decide +kernel
theorem dX9_count_13 : decode cX9_count 13 = .ok (.iload_n 1, 1) := by decide +kernel
theorem dX9_count_14 : decode cX9_count 14 = .ok (.invokevirtual 306, 3) := by decide +kernel
theorem dX9_count_17 : decode cX9_count 17 = .ok (.goto 4, 3) := by decide +kernel
theorem dX9_count_20 : decode cX9_count 20 = .ok (.iconst (-1), 1) := by decide +kernel
theorem dX9_count_21 : decode cX9_count 21 = .ok (.ireturn, 1) := by decide +kernel
set_option maxRecDepth 20000 in
theorem w_X9_count_b21 {w : zWd} {X : zX} {l0 : Launch} {r : Int32} {S1 : zMem} (C : zC LM w X l0 cX9_count RX9 2 4 (some .int)) {s0 : Int32} {S : zMem} {ls : Array Slot} (hl : lv_has ls 2 []) (h : X9_count_b21 s0 S = some (r, S1)) : zV LM w X (some (.int r)) S1 S 21 ls [.int s0] := by
  unfold X9_count_b21 at h
  exact v_ireturn 21 C dX9_count_21 h
set_option maxRecDepth 20000 in
theorem w_X9_count_b0 {w : zWd} {X : zX} {l0 : Launch} {r : Int32} {S1 : zMem} (C : zC LM w X l0 cX9_count RX9 2 4 (some .int)) {x1 : Int32} {S : zMem} {ls : Array Slot} (hl : lv_has ls 2 [(0, .ref (w.2.2.1 0)), (1, .int x1)]) (h : X9_count_b0 x1 S = some (r, S1)) : zV LM w X (some (.int r)) S1 S 0 ls [] := by
  unfold X9_count_b0 at h
  refine v_iload_n 0 C dX9_count_0 rfl (lv_at hl 1 rfl) ?_
  refine v_i2l 1 C dX9_count_1 h (fun v1 h => ?_)
  refine v_lconst 2 C (v := 0) dX9_count_2 (by decide) ?_
  refine v_ldc2 3 C (v := 13) dX9_count_3 co_X9_304 ?_
  obtain ⟨v2, S, hc, h⟩ := zb_e h
  refine v_callSi 6 C [] dX9_count_6 ml_X9_65 hy_X9_in (c_X9_in  hc) (by decide) rfl hl.1 (Nat.le_of_ble_eq_true rfl) rfl ?_
  refine v_if_eq 9 20 C dX9_count_9 (by decide) h (fun h => ?_) (fun h => ?_)
  · refine v_iconst 20 C (v := (-1 : Int32)) dX9_count_20 (by decide) ?_
    exact w_X9_count_b21 C (lv_sub hl [] rfl) h
  · refine v_aload_n 12 C dX9_count_12 rfl (lv_at hl 0 rfl) ?_
    refine v_iload_n 13 C dX9_count_13 rfl (lv_at hl 1 rfl) ?_
    obtain ⟨v3, S, hc, h⟩ := zb_e h
    refine v_callVi 14 C (ci := 8) [] dX9_count_14 ml_X9_306 hy_X9_countOf (c_X9_countOf  hc) (by decide) rfl hl.1 kM_0 rfl (Nat.le_of_ble_eq_true rfl) rfl ?_
    refine v_goto 17 21 C dX9_count_17 (by decide) ?_
    exact w_X9_count_b21 C (lv_sub hl [] rfl) h
theorem c_X9_count {w : zWd} {l0 : Launch} {x1 : Int32} {S S1 : zMem} {r : Int32} (h : f_X9_count x1 S = some (r, S1)) : zMet LM w l0 yX9_count cX9_count 2 (some .int) 4 [.ref (w.2.2.1 0), .int x1] S (some (.int r)) S1 :=
  zMet_of (by decide +kernel) (Nat.le_of_ble_eq_true rfl) (fun X ls C hl => w_X9_count_b0 C hl h)
theorem dX9_finding_0 : decode cX9_finding 0 = .ok (.aload_n 0, 1) := by decide +kernel
theorem dX9_finding_1 : decode cX9_finding 1 = .ok (.getfield 56, 3) := by decide +kernel
theorem dX9_finding_4 : decode cX9_finding 4 = .ok (.ireturn, 1) := by decide +kernel
set_option maxRecDepth 20000 in
theorem w_X9_finding_b0 {w : zWd} {X : zX} {l0 : Launch} {r : Int32} {S1 : zMem} (C : zC LM w X l0 cX9_finding RX9 1 1 (some .int)) {S : zMem} {ls : Array Slot} (hl : lv_has ls 1 [(0, .ref (w.2.2.1 0))]) (h : X9_finding_b0  S = some (r, S1)) : zV LM w X (some (.int r)) S1 S 0 ls [] := by
  unfold X9_finding_b0 at h
  refine v_aload_n 0 C dX9_finding_0 rfl (lv_at hl 0 rfl) ?_
  refine v_geti 1 C dX9_finding_1 fl_X9_56 rfl kM_0 h (fun v1 h => ?_)
  exact v_ireturn 4 C dX9_finding_4 h
theorem c_X9_finding {w : zWd} {l0 : Launch} {S S1 : zMem} {r : Int32} (h : f_X9_finding  S = some (r, S1)) : zMet LM w l0 yX9_finding cX9_finding 1 (some .int) 1 [.ref (w.2.2.1 0)] S (some (.int r)) S1 :=
  zMet_of (by decide +kernel) (Nat.le_of_ble_eq_true rfl) (fun X ls C hl => w_X9_finding_b0 C hl h)
theorem dX9_findings_0 : decode cX9_findings 0 = .ok (.iload_n 1, 1) := by decide +kernel
theorem dX9_findings_1 : decode cX9_findings 1 = .ok (.i2l, 1) := by decide +kernel
theorem dX9_findings_2 : decode cX9_findings 2 = .ok (.lconst 1, 1) := by decide +kernel
theorem dX9_findings_3 : decode cX9_findings 3 = .ok (.ldc2_w 63, 3) := by decide +kernel
theorem dX9_findings_6 : decode cX9_findings 6 = .ok (.invokestatic 65, 3) := by decide +kernel
theorem dX9_findings_9 : decode cX9_findings 9 = .ok (.ifCond .eq 12, 3) := by decide +kernel
theorem dX9_findings_12 : decode cX9_findings 12 = .ok (.aload_n 0, 1) := by decide +kernel
theorem dX9_findings_13 : decode cX9_findings 13 = .ok (.getfield 38, 3) := by decide +kernel
theorem dX9_findings_16 : decode cX9_findings 16 = .ok (.iload_n 1, 1) := by decide +kernel
theorem dX9_findings_17 : decode cX9_findings 17 = .ok (.iaload, 1) := by decide +kernel
theorem dX9_findings_18 : decode cX9_findings 18 = .ok (.goto 4, 3) := by decide +kernel
theorem dX9_findings_21 : decode cX9_findings 21 = .ok (.iconst (-1), 1) := by decide +kernel
theorem dX9_findings_22 : decode cX9_findings 22 = .ok (.ireturn, 1) := by decide +kernel
set_option maxRecDepth 20000 in
theorem w_X9_findings_b22 {w : zWd} {X : zX} {l0 : Launch} {r : Int32} {S1 : zMem} (C : zC LM w X l0 cX9_findings RX9 2 2 (some .int)) {s0 : Int32} {S : zMem} {ls : Array Slot} (hl : lv_has ls 2 []) (h : X9_findings_b22 s0 S = some (r, S1)) : zV LM w X (some (.int r)) S1 S 22 ls [.int s0] := by
  unfold X9_findings_b22 at h
  exact v_ireturn 22 C dX9_findings_22 h
set_option maxRecDepth 20000 in
theorem w_X9_findings_b0 {w : zWd} {X : zX} {l0 : Launch} {r : Int32} {S1 : zMem} (C : zC LM w X l0 cX9_findings RX9 2 2 (some .int)) {x1 : Int32} {S : zMem} {ls : Array Slot} (hl : lv_has ls 2 [(0, .ref (w.2.2.1 0)), (1, .int x1)]) (h : X9_findings_b0 x1 S = some (r, S1)) : zV LM w X (some (.int r)) S1 S 0 ls [] := by
  unfold X9_findings_b0 at h
  refine v_iload_n 0 C dX9_findings_0 rfl (lv_at hl 1 rfl) ?_
  refine v_i2l 1 C dX9_findings_1 h (fun v1 h => ?_)
  refine v_lconst 2 C (v := 1) dX9_findings_2 (by decide) ?_
  refine v_ldc2 3 C (v := 5) dX9_findings_3 co_X9_63 ?_
  obtain ⟨v2, S, hc, h⟩ := zb_e h
  refine v_callSi 6 C [] dX9_findings_6 ml_X9_65 hy_X9_in (c_X9_in  hc) (by decide) rfl hl.1 (Nat.le_of_ble_eq_true rfl) rfl ?_
  refine v_if_eq 9 21 C dX9_findings_9 (by decide) h (fun h => ?_) (fun h => ?_)
  · refine v_iconst 21 C (v := (-1 : Int32)) dX9_findings_21 (by decide) ?_
    exact w_X9_findings_b22 C (lv_sub hl [] rfl) h
  · refine v_aload_n 12 C dX9_findings_12 rfl (lv_at hl 0 rfl) ?_
    refine v_getr 13 (9) C dX9_findings_13 fl_X9_38 rfl kM_0 rfl ?_
    refine v_iload_n 16 C dX9_findings_16 rfl (lv_at hl 1 rfl) ?_
    refine v_iald 17 C dX9_findings_17 kM_9 rfl h (fun v3 h => ?_)
    refine v_goto 18 22 C dX9_findings_18 (by decide) ?_
    exact w_X9_findings_b22 C (lv_sub hl [] rfl) h
theorem c_X9_findings {w : zWd} {l0 : Launch} {x1 : Int32} {S S1 : zMem} {r : Int32} (h : f_X9_findings x1 S = some (r, S1)) : zMet LM w l0 yX9_findings cX9_findings 2 (some .int) 2 [.ref (w.2.2.1 0), .int x1] S (some (.int r)) S1 :=
  zMet_of (by decide +kernel) (Nat.le_of_ble_eq_true rfl) (fun X ls C hl => w_X9_findings_b0 C hl h)
theorem co_X9_311 : Cond.constantLong RX9 311 31 ∈ zT := zT_of (List.mem_of_getElem? (i := 1356) (by decide +kernel)) rfl
theorem co_X9_309 : Cond.constantLong RX9 309 17 ∈ zT := zT_of (List.mem_of_getElem? (i := 1355) (by decide +kernel)) rfl
theorem dX9_digest_0 : decode cX9_digest 0 = .ok (.ldc2_w 309, 3) := by decide +kernel
theorem dX9_digest_3 : decode cX9_digest 3 = .ok (.lstore_n 1, 1) := by decide +kernel
theorem dX9_digest_4 : decode cX9_digest 4 = .ok (.iconst 0, 1) := by decide +kernel
theorem dX9_digest_5 : decode cX9_digest 5 = .ok (.istore_n 3, 1) := by decide +kernel
theorem dX9_digest_6 : decode cX9_digest 6 = .ok (.iload_n 3, 1) := by decide +kernel
theorem dX9_digest_7 : decode cX9_digest 7 = .ok (.bipush 14, 2) := by decide +kernel
theorem dX9_digest_9 : decode cX9_digest 9 = .ok (.if_icmp .ge 22, 3) := by decide +kernel
theorem dX9_digest_12 : decode cX9_digest 12 = .ok (.ldc2_w 311, 3) := by decide +kernel
theorem dX9_digest_15 : decode cX9_digest 15 = .ok (.lload_n 1, 1) := by decide +kernel
theorem dX9_digest_16 : decode cX9_digest 16 = .ok (.lmul, 1) := by decide +kernel
theorem dX9_digest_17 : decode cX9_digest 17 = .ok (.aload_n 0, 1) := by decide +kernel
theorem dX9_digest_18 : decode cX9_digest 18 = .ok (.iload_n 3, 1) := by decide +kernel
theorem dX9_digest_19 : decode cX9_digest 19 = .ok (.invokevirtual 306, 3) := by decide +kernel
theorem dX9_digest_22 : decode cX9_digest 22 = .ok (.i2l, 1) := by decide +kernel
theorem dX9_digest_23 : decode cX9_digest 23 = .ok (.ladd, 1) := by decide +kernel
theorem dX9_digest_24 : decode cX9_digest 24 = .ok (.lstore_n 1, 1) := by decide +kernel
theorem dX9_digest_25 : decode cX9_digest 25 = .ok (.iinc 3 1, 3) := by decide +kernel
theorem dX9_digest_28 : decode cX9_digest 28 = .ok (.goto (-22), 3) := by decide +kernel
theorem dX9_digest_31 : decode cX9_digest 31 = .ok (.iconst 0, 1) := by decide +kernel
theorem dX9_digest_32 : decode cX9_digest 32 = .ok (.istore_n 3, 1) := by decide +kernel
theorem dX9_digest_33 : decode cX9_digest 33 = .ok (.iload_n 3, 1) := by decide +kernel
theorem dX9_digest_34 : decode cX9_digest 34 = .ok (.iconst 3, 1) := by decide +kernel
theorem dX9_digest_35 : decode cX9_digest 35 = .ok (.aload_n 0, 1) := by decide +kernel
theorem dX9_digest_36 : decode cX9_digest 36 = .ok (.getfield 149, 3) := by decide +kernel
theorem dX9_digest_39 : decode cX9_digest 39 = .ok (.imul, 1) := by decide +kernel
theorem dX9_digest_40 : decode cX9_digest 40 = .ok (.if_icmp .ge 27, 3) := by decide +kernel
theorem dX9_digest_43 : decode cX9_digest 43 = .ok (.ldc2_w 311, 3) := by decide +kernel
theorem dX9_digest_46 : decode cX9_digest 46 = .ok (.lload_n 1, 1) := by decide +kernel
theorem dX9_digest_47 : decode cX9_digest 47 = .ok (.lmul, 1) := by decide +kernel
theorem dX9_digest_48 : decode cX9_digest 48 = .ok (.aload_n 0, 1) := by decide +kernel
theorem dX9_digest_49 : decode cX9_digest 49 = .ok (.iload_n 3, 1) := by decide +kernel
theorem dX9_digest_50 : decode cX9_digest 50 = .ok (.iconst 3, 1) := by decide +kernel
theorem dX9_digest_51 : decode cX9_digest 51 = .ok (.idiv, 1) := by decide +kernel
theorem dX9_digest_52 : decode cX9_digest 52 = .ok (.iload_n 3, 1) := by decide +kernel
theorem dX9_digest_53 : decode cX9_digest 53 = .ok (.iconst 3, 1) := by decide +kernel
theorem dX9_digest_54 : decode cX9_digest 54 = .ok (.irem, 1) := by decide +kernel
theorem dX9_digest_55 : decode cX9_digest 55 = .ok (.invokevirtual 173, 3) := by decide +kernel
theorem dX9_digest_58 : decode cX9_digest 58 = .ok (.i2l, 1) := by decide +kernel
theorem dX9_digest_59 : decode cX9_digest 59 = .ok (.ladd, 1) := by decide +kernel
theorem dX9_digest_60 : decode cX9_digest 60 = .ok (.lstore_n 1, 1) := by decide +kernel
theorem dX9_digest_61 : decode cX9_digest 61 = .ok (.iinc 3 1, 3) := by decide +kernel
theorem dX9_digest_64 : decode cX9_digest 64 = .ok (.goto (-31), 3) := by decide +kernel
theorem dX9_digest_67 : decode cX9_digest 67 = .ok (.iconst 0, 1) := by decide +kernel
theorem dX9_digest_68 : decode cX9_digest 68 = .ok (.istore_n 3, 1) := by decide +kernel
theorem dX9_digest_69 : decode cX9_digest 69 = .ok (.iload_n 3, 1) := by decide +kernel
theorem dX9_digest_70 : decode cX9_digest 70 = .ok (.iconst 5, 1) := by decide +kernel
theorem dX9_digest_71 : decode cX9_digest 71 = .ok (.aload_n 0, 1) := by decide +kernel
theorem dX9_digest_72 : decode cX9_digest 72 = .ok (.getfield 152, 3) := by decide +kernel
theorem dX9_digest_75 : decode cX9_digest 75 = .ok (.imul, 1) := by decide +kernel
theorem dX9_digest_76 : decode cX9_digest 76 = .ok (.if_icmp .ge 27, 3) := by decide +kernel
theorem dX9_digest_79 : decode cX9_digest 79 = .ok (.ldc2_w 311, 3) := by decide +kernel
theorem dX9_digest_82 : decode cX9_digest 82 = .ok (.lload_n 1, 1) := by decide +kernel
theorem dX9_digest_83 : decode cX9_digest 83 = .ok (.lmul, 1) := by decide +kernel
theorem dX9_digest_84 : decode cX9_digest 84 = .ok (.aload_n 0, 1) := by decide +kernel
theorem dX9_digest_85 : decode cX9_digest 85 = .ok (.iload_n 3, 1) := by decide +kernel
theorem dX9_digest_86 : decode cX9_digest 86 = .ok (.iconst 5, 1) := by decide +kernel
theorem dX9_digest_87 : decode cX9_digest 87 = .ok (.idiv, 1) := by decide +kernel
theorem dX9_digest_88 : decode cX9_digest 88 = .ok (.iload_n 3, 1) := by decide +kernel
theorem dX9_digest_89 : decode cX9_digest 89 = .ok (.iconst 5, 1) := by decide +kernel
theorem dX9_digest_90 : decode cX9_digest 90 = .ok (.irem, 1) := by decide +kernel
theorem dX9_digest_91 : decode cX9_digest 91 = .ok (.invokevirtual 191, 3) := by decide +kernel
theorem dX9_digest_94 : decode cX9_digest 94 = .ok (.i2l, 1) := by decide +kernel
theorem dX9_digest_95 : decode cX9_digest 95 = .ok (.ladd, 1) := by decide +kernel
theorem dX9_digest_96 : decode cX9_digest 96 = .ok (.lstore_n 1, 1) := by decide +kernel
theorem dX9_digest_97 : decode cX9_digest 97 = .ok (.iinc 3 1, 3) := by decide +kernel
theorem dX9_digest_100 : decode cX9_digest 100 = .ok (.goto (-31), 3) := by decide +kernel
theorem dX9_digest_103 : decode cX9_digest 103 = .ok (.iconst 1, 1) := by decide +kernel
theorem dX9_digest_104 : decode cX9_digest 104 = .ok (.istore_n 3, 1) := by decide +kernel
theorem dX9_digest_105 : decode cX9_digest 105 = .ok (.iload_n 3, 1) := by decide +kernel
theorem dX9_digest_106 : decode cX9_digest 106 = .ok (.iconst 4, 1) := by decide +kernel
theorem dX9_digest_107 : decode cX9_digest 107 = .ok (.if_icmp .ge 29, 3) := by decide +kernel
theorem dX9_digest_110 : decode cX9_digest 110 = .ok (.ldc2_w 311, 3) := by decide +kernel
theorem dX9_digest_113 : decode cX9_digest 113 = .ok (.lload_n 1, 1) := by decide +kernel
theorem dX9_digest_114 : decode cX9_digest 114 = .ok (.lmul, 1) := by decide +kernel
theorem dX9_digest_115 : decode cX9_digest 115 = .ok (.aload_n 0, 1) := by decide +kernel
theorem dX9_digest_116 : decode cX9_digest 116 = .ok (.getfield 7, 3) := by decide +kernel
theorem dX9_digest_119 : decode cX9_digest 119 = .ok (.sipush 698, 3) := by decide +kernel
theorem dX9_digest_122 : decode cX9_digest 122 = .ok (.iload_n 3, 1) := by decide +kernel
theorem dX9_digest_123 : decode cX9_digest 123 = .ok (.imul, 1) := by decide +kernel
theorem dX9_digest_124 : decode cX9_digest 124 = .ok (.iconst 0, 1) := by decide +kernel
theorem dX9_digest_125 : decode cX9_digest 125 = .ok (.iadd, 1) := by decide +kernel
theorem dX9_digest_126 : decode cX9_digest 126 = .ok (.iaload, 1) := by decide +kernel
theorem dX9_digest_127 : decode cX9_digest 127 = .ok (.i2l, 1) := by decide +kernel
theorem dX9_digest_128 : decode cX9_digest 128 = .ok (.ladd, 1) := by decide +kernel
theorem dX9_digest_129 : decode cX9_digest 129 = .ok (.lstore_n 1, 1) := by decide +kernel
theorem dX9_digest_130 : decode cX9_digest 130 = .ok (.iinc 3 1, 3) := by decide +kernel
theorem dX9_digest_133 : decode cX9_digest 133 = .ok (.goto (-28), 3) := by decide +kernel
theorem dX9_digest_136 : decode cX9_digest 136 = .ok (.iconst 0, 1) := by decide +kernel
theorem dX9_digest_137 : decode cX9_digest 137 = .ok (.istore_n 3, 1) := by decide +kernel
theorem dX9_digest_138 : decode cX9_digest 138 = .ok (.iload_n 3, 1) := by decide +kernel
theorem dX9_digest_139 : decode cX9_digest 139 = .ok (.bipush 6, 2) := by decide +kernel
theorem dX9_digest_141 : decode cX9_digest 141 = .ok (.if_icmp .ge 63, 3) := by decide +kernel
theorem dX9_digest_144 : decode cX9_digest 144 = .ok (.ldc2_w 311, 3) := by decide +kernel
theorem dX9_digest_147 : decode cX9_digest 147 = .ok (.lload_n 1, 1) := by decide +kernel
theorem dX9_digest_148 : decode cX9_digest 148 = .ok (.lmul, 1) := by decide +kernel
theorem dX9_digest_149 : decode cX9_digest 149 = .ok (.aload_n 0, 1) := by decide +kernel
theorem dX9_digest_150 : decode cX9_digest 150 = .ok (.getfield 22, 3) := by decide +kernel
theorem dX9_digest_153 : decode cX9_digest 153 = .ok (.iload_n 3, 1) := by decide +kernel
theorem dX9_digest_154 : decode cX9_digest 154 = .ok (.iaload, 1) := by decide +kernel
theorem dX9_digest_155 : decode cX9_digest 155 = .ok (.i2l, 1) := by decide +kernel
theorem dX9_digest_156 : decode cX9_digest 156 = .ok (.ladd, 1) := by decide +kernel
theorem dX9_digest_157 : decode cX9_digest 157 = .ok (.lstore_n 1, 1) := by decide +kernel
theorem dX9_digest_158 : decode cX9_digest 158 = .ok (.iconst 0, 1) := by decide +kernel
theorem dX9_digest_159 : decode cX9_digest 159 = .ok (.istore 4, 2) := by decide +kernel
theorem dX9_digest_161 : decode cX9_digest 161 = .ok (.iload 4, 2) := by decide +kernel
theorem dX9_digest_163 : decode cX9_digest 163 = .ok (.aload_n 0, 1) := by decide +kernel
theorem dX9_digest_164 : decode cX9_digest 164 = .ok (.getfield 22, 3) := by decide +kernel
theorem dX9_digest_167 : decode cX9_digest 167 = .ok (.iload_n 3, 1) := by decide +kernel
theorem dX9_digest_168 : decode cX9_digest 168 = .ok (.iaload, 1) := by decide +kernel
theorem dX9_digest_169 : decode cX9_digest 169 = .ok (.if_icmp .ge 29, 3) := by decide +kernel
theorem dX9_digest_172 : decode cX9_digest 172 = .ok (.ldc2_w 311, 3) := by decide +kernel
theorem dX9_digest_175 : decode cX9_digest 175 = .ok (.lload_n 1, 1) := by decide +kernel
theorem dX9_digest_176 : decode cX9_digest 176 = .ok (.lmul, 1) := by decide +kernel
theorem dX9_digest_177 : decode cX9_digest 177 = .ok (.aload_n 0, 1) := by decide +kernel
theorem dX9_digest_178 : decode cX9_digest 178 = .ok (.getfield 25, 3) := by decide +kernel
theorem dX9_digest_181 : decode cX9_digest 181 = .ok (.bipush 40, 2) := by decide +kernel
theorem dX9_digest_183 : decode cX9_digest 183 = .ok (.iload_n 3, 1) := by decide +kernel
theorem dX9_digest_184 : decode cX9_digest 184 = .ok (.imul, 1) := by decide +kernel
theorem dX9_digest_185 : decode cX9_digest 185 = .ok (.iload 4, 2) := by decide +kernel
theorem dX9_digest_187 : decode cX9_digest 187 = .ok (.iadd, 1) := by decide +kernel
theorem dX9_digest_188 : decode cX9_digest 188 = .ok (.iaload, 1) := by decide +kernel
theorem dX9_digest_189 : decode cX9_digest 189 = .ok (.i2l, 1) := by decide +kernel
theorem dX9_digest_190 : decode cX9_digest 190 = .ok (.ladd, 1) := by decide +kernel
theorem dX9_digest_191 : decode cX9_digest 191 = .ok (.lstore_n 1, 1) := by decide +kernel
theorem dX9_digest_192 : decode cX9_digest 192 = .ok (.iinc 4 1, 3) := by decide +kernel
theorem dX9_digest_195 : decode cX9_digest 195 = .ok (.goto (-34), 3) := by decide +kernel
theorem dX9_digest_198 : decode cX9_digest 198 = .ok (.iinc 3 1, 3) := by decide +kernel
theorem dX9_digest_201 : decode cX9_digest 201 = .ok (.goto (-63), 3) := by decide +kernel
theorem dX9_digest_204 : decode cX9_digest 204 = .ok (.iconst 0, 1) := by decide +kernel
theorem dX9_digest_205 : decode cX9_digest 205 = .ok (.istore_n 3, 1) := by decide +kernel
theorem dX9_digest_206 : decode cX9_digest 206 = .ok (.iload_n 3, 1) := by decide +kernel
theorem dX9_digest_207 : decode cX9_digest 207 = .ok (.iconst 4, 1) := by decide +kernel
theorem dX9_digest_208 : decode cX9_digest 208 = .ok (.if_icmp .ge 63, 3) := by decide +kernel
theorem dX9_digest_211 : decode cX9_digest 211 = .ok (.ldc2_w 311, 3) := by decide +kernel
theorem dX9_digest_214 : decode cX9_digest 214 = .ok (.lload_n 1, 1) := by decide +kernel
theorem dX9_digest_215 : decode cX9_digest 215 = .ok (.lmul, 1) := by decide +kernel
theorem dX9_digest_216 : decode cX9_digest 216 = .ok (.aload_n 0, 1) := by decide +kernel
theorem dX9_digest_217 : decode cX9_digest 217 = .ok (.getfield 28, 3) := by decide +kernel
theorem dX9_digest_220 : decode cX9_digest 220 = .ok (.iload_n 3, 1) := by decide +kernel
theorem dX9_digest_221 : decode cX9_digest 221 = .ok (.iaload, 1) := by decide +kernel
theorem dX9_digest_222 : decode cX9_digest 222 = .ok (.i2l, 1) := by decide +kernel
theorem dX9_digest_223 : decode cX9_digest 223 = .ok (.ladd, 1) := by decide +kernel
theorem dX9_digest_224 : decode cX9_digest 224 = .ok (.lstore_n 1, 1) := by decide +kernel
theorem dX9_digest_225 : decode cX9_digest 225 = .ok (.iconst 0, 1) := by decide +kernel
theorem dX9_digest_226 : decode cX9_digest 226 = .ok (.istore 4, 2) := by decide +kernel
theorem dX9_digest_228 : decode cX9_digest 228 = .ok (.iload 4, 2) := by decide +kernel
theorem dX9_digest_230 : decode cX9_digest 230 = .ok (.aload_n 0, 1) := by decide +kernel
theorem dX9_digest_231 : decode cX9_digest 231 = .ok (.getfield 28, 3) := by decide +kernel
theorem dX9_digest_234 : decode cX9_digest 234 = .ok (.iload_n 3, 1) := by decide +kernel
theorem dX9_digest_235 : decode cX9_digest 235 = .ok (.iaload, 1) := by decide +kernel
theorem dX9_digest_236 : decode cX9_digest 236 = .ok (.if_icmp .ge 29, 3) := by decide +kernel
theorem dX9_digest_239 : decode cX9_digest 239 = .ok (.ldc2_w 311, 3) := by decide +kernel
theorem dX9_digest_242 : decode cX9_digest 242 = .ok (.lload_n 1, 1) := by decide +kernel
theorem dX9_digest_243 : decode cX9_digest 243 = .ok (.lmul, 1) := by decide +kernel
theorem dX9_digest_244 : decode cX9_digest 244 = .ok (.aload_n 0, 1) := by decide +kernel
theorem dX9_digest_245 : decode cX9_digest 245 = .ok (.getfield 31, 3) := by decide +kernel
theorem dX9_digest_248 : decode cX9_digest 248 = .ok (.bipush 60, 2) := by decide +kernel
theorem dX9_digest_250 : decode cX9_digest 250 = .ok (.iload_n 3, 1) := by decide +kernel
theorem dX9_digest_251 : decode cX9_digest 251 = .ok (.imul, 1) := by decide +kernel
theorem dX9_digest_252 : decode cX9_digest 252 = .ok (.iload 4, 2) := by decide +kernel
theorem dX9_digest_254 : decode cX9_digest 254 = .ok (.iadd, 1) := by decide +kernel
theorem dX9_digest_255 : decode cX9_digest 255 = .ok (.iaload, 1) := by decide +kernel
theorem dX9_digest_256 : decode cX9_digest 256 = .ok (.i2l, 1) := by decide +kernel
theorem dX9_digest_257 : decode cX9_digest 257 = .ok (.ladd, 1) := by decide +kernel
theorem dX9_digest_258 : decode cX9_digest 258 = .ok (.lstore_n 1, 1) := by decide +kernel
theorem dX9_digest_259 : decode cX9_digest 259 = .ok (.iinc 4 1, 3) := by decide +kernel
theorem dX9_digest_262 : decode cX9_digest 262 = .ok (.goto (-34), 3) := by decide +kernel
theorem dX9_digest_265 : decode cX9_digest 265 = .ok (.iinc 3 1, 3) := by decide +kernel
theorem dX9_digest_268 : decode cX9_digest 268 = .ok (.goto (-62), 3) := by decide +kernel
theorem dX9_digest_271 : decode cX9_digest 271 = .ok (.lload_n 1, 1) := by decide +kernel
theorem dX9_digest_272 : decode cX9_digest 272 = .ok (.lreturn, 1) := by decide +kernel
set_option maxRecDepth 20000 in
theorem w_X9_digest_b161 {w : zWd} {X : zX} {l0 : Launch} {r : Int64} {S1 : zMem} (C : zC LM w X l0 cX9_digest RX9 5 4 (some .long)) {k138 : Int64 → Int32 → zMem → Option (Int64 × zMem)} {k161 : Int64 → Int32 → Int32 → zMem → Option (Int64 × zMem)} (hc138 : ∀ (y1 : Int64) (x3 : Int32) (S : zMem) (ls : Array Slot), lv_has ls 5 [(0, .ref (w.2.2.1 0)), (1, .long y1), (3, .int x3)] → k138 y1 x3 S = some (r, S1) → zV LM w X (some (.long r)) S1 S 138 ls []) (hc161 : ∀ (y1 : Int64) (x3 : Int32) (x4 : Int32) (S : zMem) (ls : Array Slot), lv_has ls 5 [(0, .ref (w.2.2.1 0)), (1, .long y1), (3, .int x3), (4, .int x4)] → k161 y1 x3 x4 S = some (r, S1) → zV LM w X (some (.long r)) S1 S 161 ls []) {y1 : Int64} {x3 : Int32} {x4 : Int32} {S : zMem} {ls : Array Slot} (hl : lv_has ls 5 [(0, .ref (w.2.2.1 0)), (1, .long y1), (3, .int x3), (4, .int x4)]) (h : X9_digest_b161 k138 k161 y1 x3 x4 S = some (r, S1)) : zV LM w X (some (.long r)) S1 S 161 ls [] := by
  unfold X9_digest_b161 at h
  refine v_iload 161 C dX9_digest_161 (lv_at hl 3 rfl) ?_
  refine v_aload_n 163 C dX9_digest_163 rfl (lv_at hl 0 rfl) ?_
  refine v_getr 164 (5) C dX9_digest_164 fl_X9_22 rfl kM_0 rfl ?_
  refine v_iload_n 167 C dX9_digest_167 rfl (lv_at hl 2 rfl) ?_
  refine v_iald 168 C dX9_digest_168 kM_5 rfl h (fun v1 h => ?_)
  refine v_icmp_ge 169 198 C dX9_digest_169 (by decide) h (fun h => ?_) (fun h => ?_)
  · refine v_iinc 198 C (nn := (1 : Int32)) (fun v => [(3, .int v), (0, .ref (w.2.2.1 0)), (1, .long y1), (4, .int x4)]) dX9_digest_198 hl (k := 2) rfl (by decide) (by decide) (fun _ => rfl) h (fun v2 ls hl h => ?_)
    refine v_goto 201 138 C dX9_digest_201 (by decide) ?_
    exact hc138 _ _ _ _ (lv_sub hl [1, 2, 0] rfl) h
  · refine v_ldc2 172 C (v := 31) dX9_digest_172 co_X9_311 ?_
    refine v_lload_n 175 C dX9_digest_175 rfl (lv_at hl 1 rfl) ?_
    refine v_lmul 176 C dX9_digest_176 h (fun v3 h => ?_)
    refine v_aload_n 177 C dX9_digest_177 rfl (lv_at hl 0 rfl) ?_
    refine v_getr 178 (6) C dX9_digest_178 fl_X9_25 rfl kM_0 rfl ?_
    refine v_bipush 181 C (v := (40 : Int32)) dX9_digest_181 (by decide) ?_
    refine v_iload_n 183 C dX9_digest_183 rfl (lv_at hl 2 rfl) ?_
    refine v_imul 184 C dX9_digest_184 h (fun v4 h => ?_)
    refine v_iload 185 C dX9_digest_185 (lv_at hl 3 rfl) ?_
    refine v_iadd 187 C dX9_digest_187 h (fun v5 h => ?_)
    refine v_iald 188 C dX9_digest_188 kM_6 rfl h (fun v6 h => ?_)
    refine v_i2l 189 C dX9_digest_189 h (fun v7 h => ?_)
    refine v_ladd 190 C dX9_digest_190 h (fun v8 h => ?_)
    refine v_lstore_n 191 C [(1, .long v8), (0, .ref (w.2.2.1 0)), (3, .int x3), (4, .int x4)] dX9_digest_191 rfl hl (by decide) rfl (fun ls hl => ?_)
    refine v_iinc 192 C (nn := (1 : Int32)) (fun v => [(4, .int v), (1, .long v8), (0, .ref (w.2.2.1 0)), (3, .int x3)]) dX9_digest_192 hl (k := 3) rfl (by decide) (by decide) (fun _ => rfl) h (fun v9 ls hl h => ?_)
    refine v_goto 195 161 C dX9_digest_195 (by decide) ?_
    exact hc161 _ _ _ _ _ (lv_sub hl [2, 1, 3, 0] rfl) h
theorem w_X9_digest_l161 {w : zWd} {X : zX} {l0 : Launch} {r : Int64} {S1 : zMem} (C : zC LM w X l0 cX9_digest RX9 5 4 (some .long)) {k138 : Int64 → Int32 → zMem → Option (Int64 × zMem)} (hc138 : ∀ (y1 : Int64) (x3 : Int32) (S : zMem) (ls : Array Slot), lv_has ls 5 [(0, .ref (w.2.2.1 0)), (1, .long y1), (3, .int x3)] → k138 y1 x3 S = some (r, S1) → zV LM w X (some (.long r)) S1 S 138 ls []) : ∀ (n : Nat) (y1 : Int64) (x3 : Int32) (x4 : Int32) (S : zMem) (ls : Array Slot), lv_has ls 5 [(0, .ref (w.2.2.1 0)), (1, .long y1), (3, .int x3), (4, .int x4)] → X9_digest_l161 k138 n y1 x3 x4 S = some (r, S1) → zV LM w X (some (.long r)) S1 S 161 ls [] := by
  intro n
  induction n with
  | zero =>
    intro y1 x3 x4 S ls hl h
    cases (show (none : Option (Int64 × zMem)) = some _ from h)
  | succ n ih =>
    intro y1 x3 x4 S ls hl h
    exact w_X9_digest_b161 C hc138 ih hl h
set_option maxRecDepth 20000 in
theorem w_X9_digest_b228 {w : zWd} {X : zX} {l0 : Launch} {r : Int64} {S1 : zMem} (C : zC LM w X l0 cX9_digest RX9 5 4 (some .long)) {k206 : Int64 → Int32 → zMem → Option (Int64 × zMem)} {k228 : Int64 → Int32 → Int32 → zMem → Option (Int64 × zMem)} (hc206 : ∀ (y1 : Int64) (x3 : Int32) (S : zMem) (ls : Array Slot), lv_has ls 5 [(0, .ref (w.2.2.1 0)), (1, .long y1), (3, .int x3)] → k206 y1 x3 S = some (r, S1) → zV LM w X (some (.long r)) S1 S 206 ls []) (hc228 : ∀ (y1 : Int64) (x3 : Int32) (x4 : Int32) (S : zMem) (ls : Array Slot), lv_has ls 5 [(0, .ref (w.2.2.1 0)), (1, .long y1), (3, .int x3), (4, .int x4)] → k228 y1 x3 x4 S = some (r, S1) → zV LM w X (some (.long r)) S1 S 228 ls []) {y1 : Int64} {x3 : Int32} {x4 : Int32} {S : zMem} {ls : Array Slot} (hl : lv_has ls 5 [(0, .ref (w.2.2.1 0)), (1, .long y1), (3, .int x3), (4, .int x4)]) (h : X9_digest_b228 k206 k228 y1 x3 x4 S = some (r, S1)) : zV LM w X (some (.long r)) S1 S 228 ls [] := by
  unfold X9_digest_b228 at h
  refine v_iload 228 C dX9_digest_228 (lv_at hl 3 rfl) ?_
  refine v_aload_n 230 C dX9_digest_230 rfl (lv_at hl 0 rfl) ?_
  refine v_getr 231 (7) C dX9_digest_231 fl_X9_28 rfl kM_0 rfl ?_
  refine v_iload_n 234 C dX9_digest_234 rfl (lv_at hl 2 rfl) ?_
  refine v_iald 235 C dX9_digest_235 kM_7 rfl h (fun v1 h => ?_)
  refine v_icmp_ge 236 265 C dX9_digest_236 (by decide) h (fun h => ?_) (fun h => ?_)
  · refine v_iinc 265 C (nn := (1 : Int32)) (fun v => [(3, .int v), (0, .ref (w.2.2.1 0)), (1, .long y1), (4, .int x4)]) dX9_digest_265 hl (k := 2) rfl (by decide) (by decide) (fun _ => rfl) h (fun v2 ls hl h => ?_)
    refine v_goto 268 206 C dX9_digest_268 (by decide) ?_
    exact hc206 _ _ _ _ (lv_sub hl [1, 2, 0] rfl) h
  · refine v_ldc2 239 C (v := 31) dX9_digest_239 co_X9_311 ?_
    refine v_lload_n 242 C dX9_digest_242 rfl (lv_at hl 1 rfl) ?_
    refine v_lmul 243 C dX9_digest_243 h (fun v3 h => ?_)
    refine v_aload_n 244 C dX9_digest_244 rfl (lv_at hl 0 rfl) ?_
    refine v_getr 245 (8) C dX9_digest_245 fl_X9_31 rfl kM_0 rfl ?_
    refine v_bipush 248 C (v := (60 : Int32)) dX9_digest_248 (by decide) ?_
    refine v_iload_n 250 C dX9_digest_250 rfl (lv_at hl 2 rfl) ?_
    refine v_imul 251 C dX9_digest_251 h (fun v4 h => ?_)
    refine v_iload 252 C dX9_digest_252 (lv_at hl 3 rfl) ?_
    refine v_iadd 254 C dX9_digest_254 h (fun v5 h => ?_)
    refine v_iald 255 C dX9_digest_255 kM_8 rfl h (fun v6 h => ?_)
    refine v_i2l 256 C dX9_digest_256 h (fun v7 h => ?_)
    refine v_ladd 257 C dX9_digest_257 h (fun v8 h => ?_)
    refine v_lstore_n 258 C [(1, .long v8), (0, .ref (w.2.2.1 0)), (3, .int x3), (4, .int x4)] dX9_digest_258 rfl hl (by decide) rfl (fun ls hl => ?_)
    refine v_iinc 259 C (nn := (1 : Int32)) (fun v => [(4, .int v), (1, .long v8), (0, .ref (w.2.2.1 0)), (3, .int x3)]) dX9_digest_259 hl (k := 3) rfl (by decide) (by decide) (fun _ => rfl) h (fun v9 ls hl h => ?_)
    refine v_goto 262 228 C dX9_digest_262 (by decide) ?_
    exact hc228 _ _ _ _ _ (lv_sub hl [2, 1, 3, 0] rfl) h
theorem w_X9_digest_l228 {w : zWd} {X : zX} {l0 : Launch} {r : Int64} {S1 : zMem} (C : zC LM w X l0 cX9_digest RX9 5 4 (some .long)) {k206 : Int64 → Int32 → zMem → Option (Int64 × zMem)} (hc206 : ∀ (y1 : Int64) (x3 : Int32) (S : zMem) (ls : Array Slot), lv_has ls 5 [(0, .ref (w.2.2.1 0)), (1, .long y1), (3, .int x3)] → k206 y1 x3 S = some (r, S1) → zV LM w X (some (.long r)) S1 S 206 ls []) : ∀ (n : Nat) (y1 : Int64) (x3 : Int32) (x4 : Int32) (S : zMem) (ls : Array Slot), lv_has ls 5 [(0, .ref (w.2.2.1 0)), (1, .long y1), (3, .int x3), (4, .int x4)] → X9_digest_l228 k206 n y1 x3 x4 S = some (r, S1) → zV LM w X (some (.long r)) S1 S 228 ls [] := by
  intro n
  induction n with
  | zero =>
    intro y1 x3 x4 S ls hl h
    cases (show (none : Option (Int64 × zMem)) = some _ from h)
  | succ n ih =>
    intro y1 x3 x4 S ls hl h
    exact w_X9_digest_b228 C hc206 ih hl h
set_option maxRecDepth 20000 in
theorem w_X9_digest_b206 {w : zWd} {X : zX} {l0 : Launch} {r : Int64} {S1 : zMem} (C : zC LM w X l0 cX9_digest RX9 5 4 (some .long)) {k206 : Int64 → Int32 → zMem → Option (Int64 × zMem)} (hc206 : ∀ (y1 : Int64) (x3 : Int32) (S : zMem) (ls : Array Slot), lv_has ls 5 [(0, .ref (w.2.2.1 0)), (1, .long y1), (3, .int x3)] → k206 y1 x3 S = some (r, S1) → zV LM w X (some (.long r)) S1 S 206 ls []) {y1 : Int64} {x3 : Int32} {S : zMem} {ls : Array Slot} (hl : lv_has ls 5 [(0, .ref (w.2.2.1 0)), (1, .long y1), (3, .int x3)]) (h : X9_digest_b206 k206 y1 x3 S = some (r, S1)) : zV LM w X (some (.long r)) S1 S 206 ls [] := by
  unfold X9_digest_b206 at h
  refine v_iload_n 206 C dX9_digest_206 rfl (lv_at hl 2 rfl) ?_
  refine v_iconst 207 C (v := (4 : Int32)) dX9_digest_207 (by decide) ?_
  refine v_icmp_ge 208 271 C dX9_digest_208 (by decide) h (fun h => ?_) (fun h => ?_)
  · refine v_lload_n 271 C dX9_digest_271 rfl (lv_at hl 1 rfl) ?_
    exact v_lreturn 272 C dX9_digest_272 h
  · refine v_ldc2 211 C (v := 31) dX9_digest_211 co_X9_311 ?_
    refine v_lload_n 214 C dX9_digest_214 rfl (lv_at hl 1 rfl) ?_
    refine v_lmul 215 C dX9_digest_215 h (fun v1 h => ?_)
    refine v_aload_n 216 C dX9_digest_216 rfl (lv_at hl 0 rfl) ?_
    refine v_getr 217 (7) C dX9_digest_217 fl_X9_28 rfl kM_0 rfl ?_
    refine v_iload_n 220 C dX9_digest_220 rfl (lv_at hl 2 rfl) ?_
    refine v_iald 221 C dX9_digest_221 kM_7 rfl h (fun v2 h => ?_)
    refine v_i2l 222 C dX9_digest_222 h (fun v3 h => ?_)
    refine v_ladd 223 C dX9_digest_223 h (fun v4 h => ?_)
    refine v_lstore_n 224 C [(1, .long v4), (0, .ref (w.2.2.1 0)), (3, .int x3)] dX9_digest_224 rfl hl (by decide) rfl (fun ls hl => ?_)
    refine v_iconst 225 C (v := (0 : Int32)) dX9_digest_225 (by decide) ?_
    refine v_istore 226 C [(4, .int (0 : Int32)), (1, .long v4), (0, .ref (w.2.2.1 0)), (3, .int x3)] dX9_digest_226 hl (by decide) rfl (fun ls hl => ?_)
    exact w_X9_digest_l228 C hc206 zF _ _ _ _ _ (lv_sub hl [2, 1, 3, 0] rfl) h
theorem w_X9_digest_l206 {w : zWd} {X : zX} {l0 : Launch} {r : Int64} {S1 : zMem} (C : zC LM w X l0 cX9_digest RX9 5 4 (some .long)) : ∀ (n : Nat) (y1 : Int64) (x3 : Int32) (S : zMem) (ls : Array Slot), lv_has ls 5 [(0, .ref (w.2.2.1 0)), (1, .long y1), (3, .int x3)] → X9_digest_l206 n y1 x3 S = some (r, S1) → zV LM w X (some (.long r)) S1 S 206 ls [] := by
  intro n
  induction n with
  | zero =>
    intro y1 x3 S ls hl h
    cases (show (none : Option (Int64 × zMem)) = some _ from h)
  | succ n ih =>
    intro y1 x3 S ls hl h
    exact w_X9_digest_b206 C ih hl h
set_option maxRecDepth 20000 in
theorem w_X9_digest_b138 {w : zWd} {X : zX} {l0 : Launch} {r : Int64} {S1 : zMem} (C : zC LM w X l0 cX9_digest RX9 5 4 (some .long)) {k138 : Int64 → Int32 → zMem → Option (Int64 × zMem)} (hc138 : ∀ (y1 : Int64) (x3 : Int32) (S : zMem) (ls : Array Slot), lv_has ls 5 [(0, .ref (w.2.2.1 0)), (1, .long y1), (3, .int x3)] → k138 y1 x3 S = some (r, S1) → zV LM w X (some (.long r)) S1 S 138 ls []) {y1 : Int64} {x3 : Int32} {S : zMem} {ls : Array Slot} (hl : lv_has ls 5 [(0, .ref (w.2.2.1 0)), (1, .long y1), (3, .int x3)]) (h : X9_digest_b138 k138 y1 x3 S = some (r, S1)) : zV LM w X (some (.long r)) S1 S 138 ls [] := by
  unfold X9_digest_b138 at h
  refine v_iload_n 138 C dX9_digest_138 rfl (lv_at hl 2 rfl) ?_
  refine v_bipush 139 C (v := (6 : Int32)) dX9_digest_139 (by decide) ?_
  refine v_icmp_ge 141 204 C dX9_digest_141 (by decide) h (fun h => ?_) (fun h => ?_)
  · refine v_iconst 204 C (v := (0 : Int32)) dX9_digest_204 (by decide) ?_
    refine v_istore_n 205 C [(3, .int (0 : Int32)), (0, .ref (w.2.2.1 0)), (1, .long y1)] dX9_digest_205 rfl hl (by decide) rfl (fun ls hl => ?_)
    exact w_X9_digest_l206 C zF _ _ _ _ (lv_sub hl [1, 2, 0] rfl) h
  · refine v_ldc2 144 C (v := 31) dX9_digest_144 co_X9_311 ?_
    refine v_lload_n 147 C dX9_digest_147 rfl (lv_at hl 1 rfl) ?_
    refine v_lmul 148 C dX9_digest_148 h (fun v1 h => ?_)
    refine v_aload_n 149 C dX9_digest_149 rfl (lv_at hl 0 rfl) ?_
    refine v_getr 150 (5) C dX9_digest_150 fl_X9_22 rfl kM_0 rfl ?_
    refine v_iload_n 153 C dX9_digest_153 rfl (lv_at hl 2 rfl) ?_
    refine v_iald 154 C dX9_digest_154 kM_5 rfl h (fun v2 h => ?_)
    refine v_i2l 155 C dX9_digest_155 h (fun v3 h => ?_)
    refine v_ladd 156 C dX9_digest_156 h (fun v4 h => ?_)
    refine v_lstore_n 157 C [(1, .long v4), (0, .ref (w.2.2.1 0)), (3, .int x3)] dX9_digest_157 rfl hl (by decide) rfl (fun ls hl => ?_)
    refine v_iconst 158 C (v := (0 : Int32)) dX9_digest_158 (by decide) ?_
    refine v_istore 159 C [(4, .int (0 : Int32)), (1, .long v4), (0, .ref (w.2.2.1 0)), (3, .int x3)] dX9_digest_159 hl (by decide) rfl (fun ls hl => ?_)
    exact w_X9_digest_l161 C hc138 zF _ _ _ _ _ (lv_sub hl [2, 1, 3, 0] rfl) h
theorem w_X9_digest_l138 {w : zWd} {X : zX} {l0 : Launch} {r : Int64} {S1 : zMem} (C : zC LM w X l0 cX9_digest RX9 5 4 (some .long)) : ∀ (n : Nat) (y1 : Int64) (x3 : Int32) (S : zMem) (ls : Array Slot), lv_has ls 5 [(0, .ref (w.2.2.1 0)), (1, .long y1), (3, .int x3)] → X9_digest_l138 n y1 x3 S = some (r, S1) → zV LM w X (some (.long r)) S1 S 138 ls [] := by
  intro n
  induction n with
  | zero =>
    intro y1 x3 S ls hl h
    cases (show (none : Option (Int64 × zMem)) = some _ from h)
  | succ n ih =>
    intro y1 x3 S ls hl h
    exact w_X9_digest_b138 C ih hl h
set_option maxRecDepth 20000 in
theorem w_X9_digest_b105 {w : zWd} {X : zX} {l0 : Launch} {r : Int64} {S1 : zMem} (C : zC LM w X l0 cX9_digest RX9 5 4 (some .long)) {k105 : Int64 → Int32 → zMem → Option (Int64 × zMem)} (hc105 : ∀ (y1 : Int64) (x3 : Int32) (S : zMem) (ls : Array Slot), lv_has ls 5 [(0, .ref (w.2.2.1 0)), (1, .long y1), (3, .int x3)] → k105 y1 x3 S = some (r, S1) → zV LM w X (some (.long r)) S1 S 105 ls []) {y1 : Int64} {x3 : Int32} {S : zMem} {ls : Array Slot} (hl : lv_has ls 5 [(0, .ref (w.2.2.1 0)), (1, .long y1), (3, .int x3)]) (h : X9_digest_b105 k105 y1 x3 S = some (r, S1)) : zV LM w X (some (.long r)) S1 S 105 ls [] := by
  unfold X9_digest_b105 at h
  refine v_iload_n 105 C dX9_digest_105 rfl (lv_at hl 2 rfl) ?_
  refine v_iconst 106 C (v := (4 : Int32)) dX9_digest_106 (by decide) ?_
  refine v_icmp_ge 107 136 C dX9_digest_107 (by decide) h (fun h => ?_) (fun h => ?_)
  · refine v_iconst 136 C (v := (0 : Int32)) dX9_digest_136 (by decide) ?_
    refine v_istore_n 137 C [(3, .int (0 : Int32)), (0, .ref (w.2.2.1 0)), (1, .long y1)] dX9_digest_137 rfl hl (by decide) rfl (fun ls hl => ?_)
    exact w_X9_digest_l138 C zF _ _ _ _ (lv_sub hl [1, 2, 0] rfl) h
  · refine v_ldc2 110 C (v := 31) dX9_digest_110 co_X9_311 ?_
    refine v_lload_n 113 C dX9_digest_113 rfl (lv_at hl 1 rfl) ?_
    refine v_lmul 114 C dX9_digest_114 h (fun v1 h => ?_)
    refine v_aload_n 115 C dX9_digest_115 rfl (lv_at hl 0 rfl) ?_
    refine v_getr 116 (1) C dX9_digest_116 fl_X9_7 rfl kM_0 rfl ?_
    refine v_sipush 119 C (v := (698 : Int32)) dX9_digest_119 (by decide) ?_
    refine v_iload_n 122 C dX9_digest_122 rfl (lv_at hl 2 rfl) ?_
    refine v_imul 123 C dX9_digest_123 h (fun v2 h => ?_)
    refine v_iconst 124 C (v := (0 : Int32)) dX9_digest_124 (by decide) ?_
    refine v_iadd 125 C dX9_digest_125 h (fun v3 h => ?_)
    refine v_iald 126 C dX9_digest_126 kM_1 rfl h (fun v4 h => ?_)
    refine v_i2l 127 C dX9_digest_127 h (fun v5 h => ?_)
    refine v_ladd 128 C dX9_digest_128 h (fun v6 h => ?_)
    refine v_lstore_n 129 C [(1, .long v6), (0, .ref (w.2.2.1 0)), (3, .int x3)] dX9_digest_129 rfl hl (by decide) rfl (fun ls hl => ?_)
    refine v_iinc 130 C (nn := (1 : Int32)) (fun v => [(3, .int v), (1, .long v6), (0, .ref (w.2.2.1 0))]) dX9_digest_130 hl (k := 2) rfl (by decide) (by decide) (fun _ => rfl) h (fun v7 ls hl h => ?_)
    refine v_goto 133 105 C dX9_digest_133 (by decide) ?_
    exact hc105 _ _ _ _ (lv_sub hl [2, 1, 0] rfl) h
theorem w_X9_digest_l105 {w : zWd} {X : zX} {l0 : Launch} {r : Int64} {S1 : zMem} (C : zC LM w X l0 cX9_digest RX9 5 4 (some .long)) : ∀ (n : Nat) (y1 : Int64) (x3 : Int32) (S : zMem) (ls : Array Slot), lv_has ls 5 [(0, .ref (w.2.2.1 0)), (1, .long y1), (3, .int x3)] → X9_digest_l105 n y1 x3 S = some (r, S1) → zV LM w X (some (.long r)) S1 S 105 ls [] := by
  intro n
  induction n with
  | zero =>
    intro y1 x3 S ls hl h
    cases (show (none : Option (Int64 × zMem)) = some _ from h)
  | succ n ih =>
    intro y1 x3 S ls hl h
    exact w_X9_digest_b105 C ih hl h
set_option maxRecDepth 20000 in
theorem w_X9_digest_b69 {w : zWd} {X : zX} {l0 : Launch} {r : Int64} {S1 : zMem} (C : zC LM w X l0 cX9_digest RX9 5 4 (some .long)) {k69 : Int64 → Int32 → zMem → Option (Int64 × zMem)} (hc69 : ∀ (y1 : Int64) (x3 : Int32) (S : zMem) (ls : Array Slot), lv_has ls 5 [(0, .ref (w.2.2.1 0)), (1, .long y1), (3, .int x3)] → k69 y1 x3 S = some (r, S1) → zV LM w X (some (.long r)) S1 S 69 ls []) {y1 : Int64} {x3 : Int32} {S : zMem} {ls : Array Slot} (hl : lv_has ls 5 [(0, .ref (w.2.2.1 0)), (1, .long y1), (3, .int x3)]) (h : X9_digest_b69 k69 y1 x3 S = some (r, S1)) : zV LM w X (some (.long r)) S1 S 69 ls [] := by
  unfold X9_digest_b69 at h
  refine v_iload_n 69 C dX9_digest_69 rfl (lv_at hl 2 rfl) ?_
  refine v_iconst 70 C (v := (5 : Int32)) dX9_digest_70 (by decide) ?_
  refine v_aload_n 71 C dX9_digest_71 rfl (lv_at hl 0 rfl) ?_
  refine v_geti 72 C dX9_digest_72 fl_X9_152 rfl kM_0 h (fun v1 h => ?_)
  refine v_imul 75 C dX9_digest_75 h (fun v2 h => ?_)
  refine v_icmp_ge 76 103 C dX9_digest_76 (by decide) h (fun h => ?_) (fun h => ?_)
  · refine v_iconst 103 C (v := (1 : Int32)) dX9_digest_103 (by decide) ?_
    refine v_istore_n 104 C [(3, .int (1 : Int32)), (0, .ref (w.2.2.1 0)), (1, .long y1)] dX9_digest_104 rfl hl (by decide) rfl (fun ls hl => ?_)
    exact w_X9_digest_l105 C zF _ _ _ _ (lv_sub hl [1, 2, 0] rfl) h
  · refine v_ldc2 79 C (v := 31) dX9_digest_79 co_X9_311 ?_
    refine v_lload_n 82 C dX9_digest_82 rfl (lv_at hl 1 rfl) ?_
    refine v_lmul 83 C dX9_digest_83 h (fun v3 h => ?_)
    refine v_aload_n 84 C dX9_digest_84 rfl (lv_at hl 0 rfl) ?_
    refine v_iload_n 85 C dX9_digest_85 rfl (lv_at hl 2 rfl) ?_
    refine v_iconst 86 C (v := (5 : Int32)) dX9_digest_86 (by decide) ?_
    refine v_idiv 87 C dX9_digest_87 (by decide) h (fun v4 h => ?_)
    refine v_iload_n 88 C dX9_digest_88 rfl (lv_at hl 2 rfl) ?_
    refine v_iconst 89 C (v := (5 : Int32)) dX9_digest_89 (by decide) ?_
    refine v_irem 90 C dX9_digest_90 (by decide) h (fun v5 h => ?_)
    obtain ⟨v6, S, hc, h⟩ := zb_e h
    refine v_callVi 91 C (ci := 8) [.long v3] dX9_digest_91 ml_X9_191 hy_X9_letterTold (c_X9_letterTold  hc) (by decide) rfl hl.1 kM_0 rfl (Nat.le_of_ble_eq_true rfl) rfl ?_
    refine v_i2l 94 C dX9_digest_94 h (fun v7 h => ?_)
    refine v_ladd 95 C dX9_digest_95 h (fun v8 h => ?_)
    refine v_lstore_n 96 C [(1, .long v8), (0, .ref (w.2.2.1 0)), (3, .int x3)] dX9_digest_96 rfl hl (by decide) rfl (fun ls hl => ?_)
    refine v_iinc 97 C (nn := (1 : Int32)) (fun v => [(3, .int v), (1, .long v8), (0, .ref (w.2.2.1 0))]) dX9_digest_97 hl (k := 2) rfl (by decide) (by decide) (fun _ => rfl) h (fun v9 ls hl h => ?_)
    refine v_goto 100 69 C dX9_digest_100 (by decide) ?_
    exact hc69 _ _ _ _ (lv_sub hl [2, 1, 0] rfl) h
theorem w_X9_digest_l69 {w : zWd} {X : zX} {l0 : Launch} {r : Int64} {S1 : zMem} (C : zC LM w X l0 cX9_digest RX9 5 4 (some .long)) : ∀ (n : Nat) (y1 : Int64) (x3 : Int32) (S : zMem) (ls : Array Slot), lv_has ls 5 [(0, .ref (w.2.2.1 0)), (1, .long y1), (3, .int x3)] → X9_digest_l69 n y1 x3 S = some (r, S1) → zV LM w X (some (.long r)) S1 S 69 ls [] := by
  intro n
  induction n with
  | zero =>
    intro y1 x3 S ls hl h
    cases (show (none : Option (Int64 × zMem)) = some _ from h)
  | succ n ih =>
    intro y1 x3 S ls hl h
    exact w_X9_digest_b69 C ih hl h
set_option maxRecDepth 20000 in
theorem w_X9_digest_b33 {w : zWd} {X : zX} {l0 : Launch} {r : Int64} {S1 : zMem} (C : zC LM w X l0 cX9_digest RX9 5 4 (some .long)) {k33 : Int64 → Int32 → zMem → Option (Int64 × zMem)} (hc33 : ∀ (y1 : Int64) (x3 : Int32) (S : zMem) (ls : Array Slot), lv_has ls 5 [(0, .ref (w.2.2.1 0)), (1, .long y1), (3, .int x3)] → k33 y1 x3 S = some (r, S1) → zV LM w X (some (.long r)) S1 S 33 ls []) {y1 : Int64} {x3 : Int32} {S : zMem} {ls : Array Slot} (hl : lv_has ls 5 [(0, .ref (w.2.2.1 0)), (1, .long y1), (3, .int x3)]) (h : X9_digest_b33 k33 y1 x3 S = some (r, S1)) : zV LM w X (some (.long r)) S1 S 33 ls [] := by
  unfold X9_digest_b33 at h
  refine v_iload_n 33 C dX9_digest_33 rfl (lv_at hl 2 rfl) ?_
  refine v_iconst 34 C (v := (3 : Int32)) dX9_digest_34 (by decide) ?_
  refine v_aload_n 35 C dX9_digest_35 rfl (lv_at hl 0 rfl) ?_
  refine v_geti 36 C dX9_digest_36 fl_X9_149 rfl kM_0 h (fun v1 h => ?_)
  refine v_imul 39 C dX9_digest_39 h (fun v2 h => ?_)
  refine v_icmp_ge 40 67 C dX9_digest_40 (by decide) h (fun h => ?_) (fun h => ?_)
  · refine v_iconst 67 C (v := (0 : Int32)) dX9_digest_67 (by decide) ?_
    refine v_istore_n 68 C [(3, .int (0 : Int32)), (0, .ref (w.2.2.1 0)), (1, .long y1)] dX9_digest_68 rfl hl (by decide) rfl (fun ls hl => ?_)
    exact w_X9_digest_l69 C zF _ _ _ _ (lv_sub hl [1, 2, 0] rfl) h
  · refine v_ldc2 43 C (v := 31) dX9_digest_43 co_X9_311 ?_
    refine v_lload_n 46 C dX9_digest_46 rfl (lv_at hl 1 rfl) ?_
    refine v_lmul 47 C dX9_digest_47 h (fun v3 h => ?_)
    refine v_aload_n 48 C dX9_digest_48 rfl (lv_at hl 0 rfl) ?_
    refine v_iload_n 49 C dX9_digest_49 rfl (lv_at hl 2 rfl) ?_
    refine v_iconst 50 C (v := (3 : Int32)) dX9_digest_50 (by decide) ?_
    refine v_idiv 51 C dX9_digest_51 (by decide) h (fun v4 h => ?_)
    refine v_iload_n 52 C dX9_digest_52 rfl (lv_at hl 2 rfl) ?_
    refine v_iconst 53 C (v := (3 : Int32)) dX9_digest_53 (by decide) ?_
    refine v_irem 54 C dX9_digest_54 (by decide) h (fun v5 h => ?_)
    obtain ⟨v6, S, hc, h⟩ := zb_e h
    refine v_callVi 55 C (ci := 8) [.long v3] dX9_digest_55 ml_X9_173 hy_X9_houseTold (c_X9_houseTold  hc) (by decide) rfl hl.1 kM_0 rfl (Nat.le_of_ble_eq_true rfl) rfl ?_
    refine v_i2l 58 C dX9_digest_58 h (fun v7 h => ?_)
    refine v_ladd 59 C dX9_digest_59 h (fun v8 h => ?_)
    refine v_lstore_n 60 C [(1, .long v8), (0, .ref (w.2.2.1 0)), (3, .int x3)] dX9_digest_60 rfl hl (by decide) rfl (fun ls hl => ?_)
    refine v_iinc 61 C (nn := (1 : Int32)) (fun v => [(3, .int v), (1, .long v8), (0, .ref (w.2.2.1 0))]) dX9_digest_61 hl (k := 2) rfl (by decide) (by decide) (fun _ => rfl) h (fun v9 ls hl h => ?_)
    refine v_goto 64 33 C dX9_digest_64 (by decide) ?_
    exact hc33 _ _ _ _ (lv_sub hl [2, 1, 0] rfl) h
theorem w_X9_digest_l33 {w : zWd} {X : zX} {l0 : Launch} {r : Int64} {S1 : zMem} (C : zC LM w X l0 cX9_digest RX9 5 4 (some .long)) : ∀ (n : Nat) (y1 : Int64) (x3 : Int32) (S : zMem) (ls : Array Slot), lv_has ls 5 [(0, .ref (w.2.2.1 0)), (1, .long y1), (3, .int x3)] → X9_digest_l33 n y1 x3 S = some (r, S1) → zV LM w X (some (.long r)) S1 S 33 ls [] := by
  intro n
  induction n with
  | zero =>
    intro y1 x3 S ls hl h
    cases (show (none : Option (Int64 × zMem)) = some _ from h)
  | succ n ih =>
    intro y1 x3 S ls hl h
    exact w_X9_digest_b33 C ih hl h
set_option maxRecDepth 20000 in
theorem w_X9_digest_b6 {w : zWd} {X : zX} {l0 : Launch} {r : Int64} {S1 : zMem} (C : zC LM w X l0 cX9_digest RX9 5 4 (some .long)) {k6 : Int64 → Int32 → zMem → Option (Int64 × zMem)} (hc6 : ∀ (y1 : Int64) (x3 : Int32) (S : zMem) (ls : Array Slot), lv_has ls 5 [(0, .ref (w.2.2.1 0)), (1, .long y1), (3, .int x3)] → k6 y1 x3 S = some (r, S1) → zV LM w X (some (.long r)) S1 S 6 ls []) {y1 : Int64} {x3 : Int32} {S : zMem} {ls : Array Slot} (hl : lv_has ls 5 [(0, .ref (w.2.2.1 0)), (1, .long y1), (3, .int x3)]) (h : X9_digest_b6 k6 y1 x3 S = some (r, S1)) : zV LM w X (some (.long r)) S1 S 6 ls [] := by
  unfold X9_digest_b6 at h
  refine v_iload_n 6 C dX9_digest_6 rfl (lv_at hl 2 rfl) ?_
  refine v_bipush 7 C (v := (14 : Int32)) dX9_digest_7 (by decide) ?_
  refine v_icmp_ge 9 31 C dX9_digest_9 (by decide) h (fun h => ?_) (fun h => ?_)
  · refine v_iconst 31 C (v := (0 : Int32)) dX9_digest_31 (by decide) ?_
    refine v_istore_n 32 C [(3, .int (0 : Int32)), (0, .ref (w.2.2.1 0)), (1, .long y1)] dX9_digest_32 rfl hl (by decide) rfl (fun ls hl => ?_)
    exact w_X9_digest_l33 C zF _ _ _ _ (lv_sub hl [1, 2, 0] rfl) h
  · refine v_ldc2 12 C (v := 31) dX9_digest_12 co_X9_311 ?_
    refine v_lload_n 15 C dX9_digest_15 rfl (lv_at hl 1 rfl) ?_
    refine v_lmul 16 C dX9_digest_16 h (fun v1 h => ?_)
    refine v_aload_n 17 C dX9_digest_17 rfl (lv_at hl 0 rfl) ?_
    refine v_iload_n 18 C dX9_digest_18 rfl (lv_at hl 2 rfl) ?_
    obtain ⟨v2, S, hc, h⟩ := zb_e h
    refine v_callVi 19 C (ci := 8) [.long v1] dX9_digest_19 ml_X9_306 hy_X9_countOf (c_X9_countOf  hc) (by decide) rfl hl.1 kM_0 rfl (Nat.le_of_ble_eq_true rfl) rfl ?_
    refine v_i2l 22 C dX9_digest_22 h (fun v3 h => ?_)
    refine v_ladd 23 C dX9_digest_23 h (fun v4 h => ?_)
    refine v_lstore_n 24 C [(1, .long v4), (0, .ref (w.2.2.1 0)), (3, .int x3)] dX9_digest_24 rfl hl (by decide) rfl (fun ls hl => ?_)
    refine v_iinc 25 C (nn := (1 : Int32)) (fun v => [(3, .int v), (1, .long v4), (0, .ref (w.2.2.1 0))]) dX9_digest_25 hl (k := 2) rfl (by decide) (by decide) (fun _ => rfl) h (fun v5 ls hl h => ?_)
    refine v_goto 28 6 C dX9_digest_28 (by decide) ?_
    exact hc6 _ _ _ _ (lv_sub hl [2, 1, 0] rfl) h
theorem w_X9_digest_l6 {w : zWd} {X : zX} {l0 : Launch} {r : Int64} {S1 : zMem} (C : zC LM w X l0 cX9_digest RX9 5 4 (some .long)) : ∀ (n : Nat) (y1 : Int64) (x3 : Int32) (S : zMem) (ls : Array Slot), lv_has ls 5 [(0, .ref (w.2.2.1 0)), (1, .long y1), (3, .int x3)] → X9_digest_l6 n y1 x3 S = some (r, S1) → zV LM w X (some (.long r)) S1 S 6 ls [] := by
  intro n
  induction n with
  | zero =>
    intro y1 x3 S ls hl h
    cases (show (none : Option (Int64 × zMem)) = some _ from h)
  | succ n ih =>
    intro y1 x3 S ls hl h
    exact w_X9_digest_b6 C ih hl h
set_option maxRecDepth 20000 in
theorem w_X9_digest_b0 {w : zWd} {X : zX} {l0 : Launch} {r : Int64} {S1 : zMem} (C : zC LM w X l0 cX9_digest RX9 5 4 (some .long)) {S : zMem} {ls : Array Slot} (hl : lv_has ls 5 [(0, .ref (w.2.2.1 0))]) (h : X9_digest_b0  S = some (r, S1)) : zV LM w X (some (.long r)) S1 S 0 ls [] := by
  unfold X9_digest_b0 at h
  refine v_ldc2 0 C (v := 17) dX9_digest_0 co_X9_309 ?_
  refine v_lstore_n 3 C [(1, .long (17 : Int64)), (0, .ref (w.2.2.1 0))] dX9_digest_3 rfl hl (by decide) rfl (fun ls hl => ?_)
  refine v_iconst 4 C (v := (0 : Int32)) dX9_digest_4 (by decide) ?_
  refine v_istore_n 5 C [(3, .int (0 : Int32)), (1, .long (17 : Int64)), (0, .ref (w.2.2.1 0))] dX9_digest_5 rfl hl (by decide) rfl (fun ls hl => ?_)
  exact w_X9_digest_l6 C zF _ _ _ _ (lv_sub hl [2, 1, 0] rfl) h
theorem c_X9_digest {w : zWd} {l0 : Launch} {S S1 : zMem} {r : Int64} (h : f_X9_digest  S = some (r, S1)) : zMet LM w l0 yX9_digest cX9_digest 5 (some .long) 4 [.ref (w.2.2.1 0)] S (some (.long r)) S1 :=
  zMet_of (by decide +kernel) (Nat.le_of_ble_eq_true rfl) (fun X ls C hl => w_X9_digest_b0 C hl h)
