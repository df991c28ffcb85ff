-- X3_warmest X7_lieAs X8_round X3_reaches X3_fewest X8_plan X8_wrongLetters X8_rest X8_wrongPairs X0_fits X0_wordsFor X8_meant X0_kindsFor X8_kinds X0_greatestPart X0_bestMood X8_test X6_wordsOf X8_commonDivisor X8_tellPart X8_sets X8_sure X3_settled
theorem fl_X3_22 : zFL RX3 22 3 9 := ⟨_, rfl, by decide, zT_of (List.mem_of_getElem? (i := 183) (by decide +kernel)) rfl⟩
theorem fp_2_3 : zFP 2 3 .int := fun q h => by cases h; exact ⟨rfl, by decide +kernel⟩
theorem fl_X3_32 : zFL RX3 32 3 8 := ⟨_, rfl, by decide, zT_of (List.mem_of_getElem? (i := 179) (by decide +kernel)) rfl⟩
theorem fl_X3_35 : zFL RX3 35 3 10 := ⟨_, rfl, by decide, zT_of (List.mem_of_getElem? (i := 187) (by decide +kernel)) rfl⟩
theorem dX3_warmest_0 : decode cX3_warmest 0 = .ok (.aload_n 0, 1) := by decide +kernel
theorem dX3_warmest_1 : decode cX3_warmest 1 = .ok (.aload_n 1, 1) := by decide +kernel
theorem dX3_warmest_2 : decode cX3_warmest 2 = .ok (.getfield 22, 3) := by decide +kernel
theorem dX3_warmest_5 : decode cX3_warmest 5 = .ok (.putfield 28, 3) := by decide +kernel
theorem dX3_warmest_8 : decode cX3_warmest 8 = .ok (.aload_n 0, 1) := by decide +kernel
theorem dX3_warmest_9 : decode cX3_warmest 9 = .ok (.bipush (-9), 2) := by decide +kernel
theorem dX3_warmest_11 : decode cX3_warmest 11 = .ok (.putfield 29, 3) := by decide +kernel
theorem dX3_warmest_14 : decode cX3_warmest 14 = .ok (.aload_n 0, 1) := by decide +kernel
theorem dX3_warmest_15 : decode cX3_warmest 15 = .ok (.iconst 0, 1) := by decide +kernel
theorem dX3_warmest_16 : decode cX3_warmest 16 = .ok (.iload_n 2, 1) := by decide +kernel
theorem dX3_warmest_17 : decode cX3_warmest 17 = .ok (.aload_n 1, 1) := by decide +kernel
theorem dX3_warmest_18 : decode cX3_warmest 18 = .ok (.getfield 32, 3) := by decide +kernel
theorem dX3_warmest_21 : decode cX3_warmest 21 = .ok (.aload_n 1, 1) := by decide +kernel
theorem dX3_warmest_22 : decode cX3_warmest 22 = .ok (.getfield 35, 3) := by decide +kernel
theorem dX3_warmest_25 : decode cX3_warmest 25 = .ok (.iconst 0, 1) := by decide +kernel
theorem dX3_warmest_26 : decode cX3_warmest 26 = .ok (.invokevirtual 38, 3) := by decide +kernel
theorem dX3_warmest_29 : decode cX3_warmest 29 = .ok (.aload_n 0, 1) := by decide +kernel
theorem dX3_warmest_30 : decode cX3_warmest 30 = .ok (.getfield 29, 3) := by decide +kernel
theorem dX3_warmest_33 : decode cX3_warmest 33 = .ok (.ireturn, 1) := by decide +kernel
set_option maxRecDepth 20000 in
theorem w_X3_warmest_b0 {w : zWd} {X : zX} {l0 : Launch} {r : Int32} {S1 : zMem} (C : zC LC w X l0 cX3_warmest RX3 3 12 (some .int)) {x2 : Int32} {S : zMem} {ls : Array Slot} (hl : lv_has ls 3 [(0, .ref (w.2.2.1 60)), (1, .ref (w.2.2.1 35)), (2, .int x2)]) (h : X3_warmest_b0 x2 S = some (r, S1)) : zV LC w X (some (.int r)) S1 S 0 ls [] := by
  unfold X3_warmest_b0 at h
  refine v_aload_n 0 C dX3_warmest_0 rfl (lv_at hl 0 rfl) ?_
  refine v_aload_n 1 C dX3_warmest_1 rfl (lv_at hl 1 rfl) ?_
  refine v_geti 2 C dX3_warmest_2 fl_X3_22 rfl kC_35 h (fun v1 h => ?_)
  refine v_puti 5 C dX3_warmest_5 fl_X3_28 fp_2_3 rfl kC_60 h (fun S h => ?_)
  refine v_aload_n 8 C dX3_warmest_8 rfl (lv_at hl 0 rfl) ?_
  refine v_bipush 9 C (v := (-9 : Int32)) dX3_warmest_9 (by decide) ?_
  refine v_puti 11 C dX3_warmest_11 fl_X3_29 fp_2_4 rfl kC_60 h (fun S h => ?_)
  refine v_aload_n 14 C dX3_warmest_14 rfl (lv_at hl 0 rfl) ?_
  refine v_iconst 15 C (v := (0 : Int32)) dX3_warmest_15 (by decide) ?_
  refine v_iload_n 16 C dX3_warmest_16 rfl (lv_at hl 2 rfl) ?_
  refine v_aload_n 17 C dX3_warmest_17 rfl (lv_at hl 1 rfl) ?_
  refine v_geti 18 C dX3_warmest_18 fl_X3_32 rfl kC_35 h (fun v2 h => ?_)
  refine v_aload_n 21 C dX3_warmest_21 rfl (lv_at hl 1 rfl) ?_
  refine v_geti 22 C dX3_warmest_22 fl_X3_35 rfl kC_35 h (fun v3 h => ?_)
  refine v_iconst 25 C (v := (0 : Int32)) dX3_warmest_25 (by decide) ?_
  obtain ⟨v4, S, hc, h⟩ := zb_e h
  refine v_callVv 26 C (ci := 2) [] dX3_warmest_26 ml_X3_38 hy_X3_tryWarmer (c_X3_tryWarmer 8  hc) (by decide) rfl hl.1 kC_60 rfl (Nat.le_of_ble_eq_true rfl) rfl ?_
  refine v_aload_n 29 C dX3_warmest_29 rfl (lv_at hl 0 rfl) ?_
  refine v_geti 30 C dX3_warmest_30 fl_X3_29 rfl kC_60 h (fun v5 h => ?_)
  exact v_ireturn 33 C dX3_warmest_33 h
theorem c_X3_warmest {w : zWd} {l0 : Launch} {x2 : Int32} {S S1 : zMem} {r : Int32} (h : f_X3_warmest x2 S = some (r, S1)) : zMet LC w l0 yX3_warmest cX3_warmest 3 (some .int) 12 [.ref (w.2.2.1 60), .ref (w.2.2.1 35), .int x2] S (some (.int r)) S1 :=
  zMet_of (by decide +kernel) (Nat.le_of_ble_eq_true rfl) (fun X ls C hl => w_X3_warmest_b0 C hl h)
theorem ml_X7_17 : Cond.methodLink RX7 17 arraycopyName ∈ zT := zT_of (List.mem_of_getElem? (i := 684) (by decide +kernel)) rfl
theorem dX7_lieAs_0 : decode cX7_lieAs 0 = .ok (.iload_n 2, 1) := by decide +kernel
theorem dX7_lieAs_1 : decode cX7_lieAs 1 = .ok (.ifCond .lt 18, 3) := by decide +kernel
theorem dX7_lieAs_4 : decode cX7_lieAs 4 = .ok (.iload_n 2, 1) := by decide +kernel
theorem dX7_lieAs_5 : decode cX7_lieAs 5 = .ok (.aload_n 1, 1) := by decide +kernel
theorem dX7_lieAs_6 : decode cX7_lieAs 6 = .ok (.arraylength, 1) := by decide +kernel
theorem dX7_lieAs_7 : decode cX7_lieAs 7 = .ok (.if_icmp .gt 12, 3) := by decide +kernel
theorem dX7_lieAs_10 : decode cX7_lieAs 10 = .ok (.iload_n 2, 1) := by decide +kernel
theorem dX7_lieAs_11 : decode cX7_lieAs 11 = .ok (.aload_n 0, 1) := by decide +kernel
theorem dX7_lieAs_12 : decode cX7_lieAs 12 = .ok (.getfield 13, 3) := by decide +kernel
theorem dX7_lieAs_15 : decode cX7_lieAs 15 = .ok (.arraylength, 1) := by decide +kernel
theorem dX7_lieAs_16 : decode cX7_lieAs 16 = .ok (.if_icmp .le 4, 3) := by decide +kernel
theorem dX7_lieAs_19 : decode cX7_lieAs 19 = .ok (.return_, 1) := by decide +kernel
theorem dX7_lieAs_20 : decode cX7_lieAs 20 = .ok (.aload_n 0, 1) := by decide +kernel
theorem dX7_lieAs_21 : decode cX7_lieAs 21 = .ok (.iload_n 2, 1) := by decide +kernel
theorem dX7_lieAs_22 : decode cX7_lieAs 22 = .ok (.putfield 9, 3) := by decide +kernel
theorem dX7_lieAs_25 : decode cX7_lieAs 25 = .ok (.aload_n 1, 1) := by decide +kernel
theorem dX7_lieAs_26 : decode cX7_lieAs 26 = .ok (.iconst 0, 1) := by decide +kernel
theorem dX7_lieAs_27 : decode cX7_lieAs 27 = .ok (.aload_n 0, 1) := by decide +kernel
theorem dX7_lieAs_28 : decode cX7_lieAs 28 = .ok (.getfield 13, 3) := by decide +kernel
theorem dX7_lieAs_31 : decode cX7_lieAs 31 = .ok (.iconst 0, 1) := by decide +kernel
theorem dX7_lieAs_32 : decode cX7_lieAs 32 = .ok (.iload_n 2, 1) := by decide +kernel
theorem dX7_lieAs_33 : decode cX7_lieAs 33 = .ok (.invokestatic 17, 3) := by decide +kernel
theorem dX7_lieAs_36 : decode cX7_lieAs 36 = .ok (.return_, 1) := by decide +kernel
set_option maxRecDepth 20000 in
theorem w_X7_lieAs_b19 {w : zWd} {X : zX} {l0 : Launch} {r : Unit} {S1 : zMem} (C : zC LC w X l0 cX7_lieAs RX7 3 1 none) {S : zMem} {ls : Array Slot} (hl : lv_has ls 3 []) (h : X7_lieAs_b19  S = some (r, S1)) : zV LC w X none S1 S 19 ls [] := by
  unfold X7_lieAs_b19 at h
  exact v_return 19 C dX7_lieAs_19 h
set_option maxRecDepth 20000 in
theorem w_X7_lieAs_b0 {w : zWd} {X : zX} {l0 : Launch} {r : Unit} {S1 : zMem} (C : zC LC w X l0 cX7_lieAs RX7 3 1 none) {c0 : Nat} {c1 : Nat} {x2 : Int32} {S : zMem} {ls : Array Slot} (hl : lv_has ls 3 [(0, .ref (w.2.2.1 c0)), (1, .ref (w.2.2.1 c1)), (2, .int x2)]) (hk_c0 : c0 < LC.1 ∧ LC.2.1 c0 = 9) (hk_c1 : c1 < LC.1 ∧ LC.2.1 c1 = 0) (h : X7_lieAs_b0 c0 c1 x2 S = some (r, S1)) : zV LC w X none S1 S 0 ls [] := by
  unfold X7_lieAs_b0 at h
  refine v_iload_n 0 C dX7_lieAs_0 rfl (lv_at hl 2 rfl) ?_
  refine v_if_lt 1 19 C dX7_lieAs_1 (by decide) h (fun h => ?_) (fun h => ?_)
  · exact w_X7_lieAs_b19 C (lv_sub hl [] rfl) h
  · refine v_iload_n 4 C dX7_lieAs_4 rfl (lv_at hl 2 rfl) ?_
    refine v_aload_n 5 C dX7_lieAs_5 rfl (lv_at hl 1 rfl) ?_
    refine v_ilen 6 C (v := (Int32.ofNat (lnC (c1)))) dX7_lieAs_6 hk_c1 rfl ?_
    refine v_icmp_gt 7 19 C dX7_lieAs_7 (by decide) h (fun h => ?_) (fun h => ?_)
    · exact w_X7_lieAs_b19 C (lv_sub hl [] rfl) h
    · refine v_iload_n 10 C dX7_lieAs_10 rfl (lv_at hl 2 rfl) ?_
      refine v_aload_n 11 C dX7_lieAs_11 rfl (lv_at hl 0 rfl) ?_
      refine v_getr 12 (c0 + 1) C dX7_lieAs_12 fl_X7_13 rfl hk_c0 (rS1 hk_c0) ?_
      refine v_ilen 15 C (v := (Int32.ofNat (lnC (c0 + 1)))) dX7_lieAs_15 (kS1 hk_c0) rfl ?_
      refine v_icmp_le 16 20 C dX7_lieAs_16 (by decide) h (fun h => ?_) (fun h => ?_)
      · refine v_aload_n 20 C dX7_lieAs_20 rfl (lv_at hl 0 rfl) ?_
        refine v_iload_n 21 C dX7_lieAs_21 rfl (lv_at hl 2 rfl) ?_
        refine v_puti 22 C dX7_lieAs_22 fl_X7_9 fp_6_1 rfl hk_c0 h (fun S h => ?_)
        refine v_aload_n 25 C dX7_lieAs_25 rfl (lv_at hl 1 rfl) ?_
        refine v_iconst 26 C (v := (0 : Int32)) dX7_lieAs_26 (by decide) ?_
        refine v_aload_n 27 C dX7_lieAs_27 rfl (lv_at hl 0 rfl) ?_
        refine v_getr 28 (c0 + 1) C dX7_lieAs_28 fl_X7_13 rfl hk_c0 (rS1 hk_c0) ?_
        refine v_iconst 31 C (v := (0 : Int32)) dX7_lieAs_31 (by decide) ?_
        refine v_iload_n 32 C dX7_lieAs_32 rfl (lv_at hl 2 rfl) ?_
        refine v_copy 33 C dX7_lieAs_33 ml_X7_17 hl.1 (by decide) (Nat.le_of_ble_eq_true rfl) hk_c1 (kS1 hk_c0) rfl rfl h (fun S h => ?_)
        exact v_return 36 C dX7_lieAs_36 h
      · exact w_X7_lieAs_b19 C (lv_sub hl [] rfl) h
theorem c_X7_lieAs {w : zWd} {l0 : Launch} {c0 : Nat} {c1 : Nat} {x2 : Int32} {S S1 : zMem} {r : Unit} (hk_c0 : c0 < LC.1 ∧ LC.2.1 c0 = 9) (hk_c1 : c1 < LC.1 ∧ LC.2.1 c1 = 0) (h : f_X7_lieAs c0 c1 x2 S = some (r, S1)) : zMet LC w l0 yX7_lieAs cX7_lieAs 3 none 1 [.ref (w.2.2.1 c0), .ref (w.2.2.1 c1), .int x2] S none S1 :=
  zMet_of (by decide +kernel) (Nat.le_of_ble_eq_true rfl) (fun X ls C hl => w_X7_lieAs_b0 C hl hk_c0 hk_c1 h)
theorem ml_X8_242 : Cond.methodLink RX8 242 yX6_allLetters ∈ zT := zT_of (List.mem_of_getElem? (i := 664) (by decide +kernel)) rfl
theorem hy_X6_allLetters : zYv yX6_allLetters cX6_allLetters 1 (some .int) 0 := ⟨⟨zT_of (List.mem_of_getElem? (i := 667) (by decide +kernel)) rfl, zT_of (List.mem_of_getElem? (i := 71) (by decide +kernel)) rfl, by decide, by decide +kernel, by decide +kernel, by decide +kernel⟩, zT_of (List.mem_of_getElem? (i := 665) (by decide +kernel)) rfl, zT_of (List.mem_of_getElem? (i := 666) (by decide +kernel)) rfl⟩
theorem fl_X8_51 : zFL RX8 51 7 7 := ⟨_, rfl, by decide, zT_of (List.mem_of_getElem? (i := 324) (by decide +kernel)) rfl⟩
theorem ml_X8_245 : Cond.methodLink RX8 245 yX3_warmest ∈ zT := zT_of (List.mem_of_getElem? (i := 668) (by decide +kernel)) rfl
theorem hy_X3_warmest : zYv yX3_warmest cX3_warmest 3 (some .int) 2 := ⟨⟨zT_of (List.mem_of_getElem? (i := 671) (by decide +kernel)) rfl, zT_of (List.mem_of_getElem? (i := 74) (by decide +kernel)) rfl, by decide, by decide +kernel, by decide +kernel, by decide +kernel⟩, zT_of (List.mem_of_getElem? (i := 669) (by decide +kernel)) rfl, zT_of (List.mem_of_getElem? (i := 670) (by decide +kernel)) rfl⟩
theorem fl_X8_249 : zFL RX8 249 2 2 := ⟨_, rfl, by decide, zT_of (List.mem_of_getElem? (i := 230) (by decide +kernel)) rfl⟩
theorem ml_X8_252 : Cond.methodLink RX8 252 yX7_lieAs ∈ zT := zT_of (List.mem_of_getElem? (i := 680) (by decide +kernel)) rfl
theorem hy_X7_lieAs : zYv yX7_lieAs cX7_lieAs 3 none 2 := ⟨⟨zT_of (List.mem_of_getElem? (i := 683) (by decide +kernel)) rfl, zT_of (List.mem_of_getElem? (i := 77) (by decide +kernel)) rfl, by decide, by decide +kernel, by decide +kernel, by decide +kernel⟩, zT_of (List.mem_of_getElem? (i := 681) (by decide +kernel)) rfl, zT_of (List.mem_of_getElem? (i := 682) (by decide +kernel)) rfl⟩
theorem dX8_round_0 : decode cX8_round 0 = .ok (.iload_n 2, 1) := by decide +kernel
theorem dX8_round_1 : decode cX8_round 1 = .ok (.invokestatic 80, 3) := by decide +kernel
theorem dX8_round_4 : decode cX8_round 4 = .ok (.ifCond .eq 17, 3) := by decide +kernel
theorem dX8_round_7 : decode cX8_round 7 = .ok (.iload_n 1, 1) := by decide +kernel
theorem dX8_round_8 : decode cX8_round 8 = .ok (.aload_n 0, 1) := by decide +kernel
theorem dX8_round_9 : decode cX8_round 9 = .ok (.getfield 21, 3) := by decide +kernel
theorem dX8_round_12 : decode cX8_round 12 = .ok (.invokevirtual 242, 3) := by decide +kernel
theorem dX8_round_15 : decode cX8_round 15 = .ok (.iconst (-1), 1) := by decide +kernel
theorem dX8_round_16 : decode cX8_round 16 = .ok (.ixor, 1) := by decide +kernel
theorem dX8_round_17 : decode cX8_round 17 = .ok (.iand, 1) := by decide +kernel
theorem dX8_round_18 : decode cX8_round 18 = .ok (.ifCond .eq 5, 3) := by decide +kernel
theorem dX8_round_21 : decode cX8_round 21 = .ok (.iconst (-1), 1) := by decide +kernel
theorem dX8_round_22 : decode cX8_round 22 = .ok (.ireturn, 1) := by decide +kernel
theorem dX8_round_23 : decode cX8_round 23 = .ok (.iload_n 1, 1) := by decide +kernel
theorem dX8_round_24 : decode cX8_round 24 = .ok (.aload_n 0, 1) := by decide +kernel
theorem dX8_round_25 : decode cX8_round 25 = .ok (.getfield 37, 3) := by decide +kernel
theorem dX8_round_28 : decode cX8_round 28 = .ok (.getfield 202, 3) := by decide +kernel
theorem dX8_round_31 : decode cX8_round 31 = .ok (.iand, 1) := by decide +kernel
theorem dX8_round_32 : decode cX8_round 32 = .ok (.ifCond .eq 6, 3) := by decide +kernel
theorem dX8_round_35 : decode cX8_round 35 = .ok (.bipush (-4), 2) := by decide +kernel
theorem dX8_round_37 : decode cX8_round 37 = .ok (.ireturn, 1) := by decide +kernel
theorem dX8_round_38 : decode cX8_round 38 = .ok (.aload_n 0, 1) := by decide +kernel
theorem dX8_round_39 : decode cX8_round 39 = .ok (.getfield 51, 3) := by decide +kernel
theorem dX8_round_42 : decode cX8_round 42 = .ok (.aload_n 0, 1) := by decide +kernel
theorem dX8_round_43 : decode cX8_round 43 = .ok (.getfield 37, 3) := by decide +kernel
theorem dX8_round_46 : decode cX8_round 46 = .ok (.iload_n 1, 1) := by decide +kernel
theorem dX8_round_47 : decode cX8_round 47 = .ok (.invokevirtual 245, 3) := by decide +kernel
theorem dX8_round_50 : decode cX8_round 50 = .ok (.istore_n 3, 1) := by decide +kernel
theorem dX8_round_51 : decode cX8_round 51 = .ok (.aload_n 0, 1) := by decide +kernel
theorem dX8_round_52 : decode cX8_round 52 = .ok (.getfield 11, 3) := by decide +kernel
theorem dX8_round_55 : decode cX8_round 55 = .ok (.iload_n 2, 1) := by decide +kernel
theorem dX8_round_56 : decode cX8_round 56 = .ok (.aaload, 1) := by decide +kernel
theorem dX8_round_57 : decode cX8_round 57 = .ok (.aload_n 0, 1) := by decide +kernel
theorem dX8_round_58 : decode cX8_round 58 = .ok (.getfield 51, 3) := by decide +kernel
theorem dX8_round_61 : decode cX8_round 61 = .ok (.getfield 249, 3) := by decide +kernel
theorem dX8_round_64 : decode cX8_round 64 = .ok (.iload_n 1, 1) := by decide +kernel
theorem dX8_round_65 : decode cX8_round 65 = .ok (.invokestatic 205, 3) := by decide +kernel
theorem dX8_round_68 : decode cX8_round 68 = .ok (.invokevirtual 252, 3) := by decide +kernel
theorem dX8_round_71 : decode cX8_round 71 = .ok (.iload_n 3, 1) := by decide +kernel
theorem dX8_round_72 : decode cX8_round 72 = .ok (.ireturn, 1) := by decide +kernel
set_option maxRecDepth 20000 in
theorem w_X8_round_b21 {w : zWd} {X : zX} {l0 : Launch} {r : Int32} {S1 : zMem} (C : zC LC w X l0 cX8_round RX8 4 13 (some .int)) {S : zMem} {ls : Array Slot} (hl : lv_has ls 4 []) (h : X8_round_b21  S = some (r, S1)) : zV LC w X (some (.int r)) S1 S 21 ls [] := by
  unfold X8_round_b21 at h
  refine v_iconst 21 C (v := (-1 : Int32)) dX8_round_21 (by decide) ?_
  exact v_ireturn 22 C dX8_round_22 h
set_option maxRecDepth 20000 in
theorem w_X8_round_b0 {w : zWd} {X : zX} {l0 : Launch} {r : Int32} {S1 : zMem} (C : zC LC w X l0 cX8_round RX8 4 13 (some .int)) {x1 : Int32} {x2 : Int32} {S : zMem} {ls : Array Slot} (hl : lv_has ls 4 [(0, .ref (w.2.2.1 0)), (1, .int x1), (2, .int x2)]) (h : X8_round_b0 x1 x2 S = some (r, S1)) : zV LC w X (some (.int r)) S1 S 0 ls [] := by
  unfold X8_round_b0 at h
  refine v_iload_n 0 C dX8_round_0 rfl (lv_at hl 2 rfl) ?_
  obtain ⟨v1, S, hc, h⟩ := zb_e h
  refine v_callSi 1 C [] dX8_round_1 ml_X8_80 hy_X8_isRow (c_X8_isRow  hc) (by decide) rfl hl.1 (Nat.le_of_ble_eq_true rfl) rfl ?_
  refine v_if_eq 4 21 C dX8_round_4 (by decide) h (fun h => ?_) (fun h => ?_)
  · exact w_X8_round_b21 C (lv_sub hl [] rfl) h
  · refine v_iload_n 7 C dX8_round_7 rfl (lv_at hl 1 rfl) ?_
    refine v_aload_n 8 C dX8_round_8 rfl (lv_at hl 0 rfl) ?_
    refine v_getr 9 (24) C dX8_round_9 fl_X8_21 rfl kC_0 rfl ?_
    obtain ⟨v2, S, hc, h⟩ := zb_e h
    refine v_callVi 12 C (ci := 5) [.int x1] dX8_round_12 ml_X8_242 hy_X6_allLetters (c_X6_allLetters  hc) (by decide) rfl hl.1 kC_24 rfl (Nat.le_of_ble_eq_true rfl) rfl ?_
    refine v_iconst 15 C (v := (-1 : Int32)) dX8_round_15 (by decide) ?_
    refine v_ixor 16 C dX8_round_16 h (fun v3 h => ?_)
    refine v_iand 17 C dX8_round_17 h (fun v4 h => ?_)
    refine v_if_eq 18 23 C dX8_round_18 (by decide) h (fun h => ?_) (fun h => ?_)
    · refine v_iload_n 23 C dX8_round_23 rfl (lv_at hl 1 rfl) ?_
      refine v_aload_n 24 C dX8_round_24 rfl (lv_at hl 0 rfl) ?_
      refine v_getr 25 (35) C dX8_round_25 fl_X8_37 rfl kC_0 rfl ?_
      refine v_geti 28 C dX8_round_28 fl_X8_202 rfl kC_35 h (fun v5 h => ?_)
      refine v_iand 31 C dX8_round_31 h (fun v6 h => ?_)
      refine v_if_eq 32 38 C dX8_round_32 (by decide) h (fun h => ?_) (fun h => ?_)
      · refine v_aload_n 38 C dX8_round_38 rfl (lv_at hl 0 rfl) ?_
        refine v_getr 39 (60) C dX8_round_39 fl_X8_51 rfl kC_0 rfl ?_
        refine v_aload_n 42 C dX8_round_42 rfl (lv_at hl 0 rfl) ?_
        refine v_getr 43 (35) C dX8_round_43 fl_X8_37 rfl kC_0 rfl ?_
        refine v_iload_n 46 C dX8_round_46 rfl (lv_at hl 1 rfl) ?_
        obtain ⟨v7, S, hc, h⟩ := zb_e h
        refine v_callVi 47 C (ci := 2) [] dX8_round_47 ml_X8_245 hy_X3_warmest (c_X3_warmest  hc) (by decide) rfl hl.1 kC_60 rfl (Nat.le_of_ble_eq_true rfl) rfl ?_
        refine v_istore_n 50 C [(3, .int v7), (0, .ref (w.2.2.1 0)), (1, .int x1), (2, .int x2)] dX8_round_50 rfl hl (by decide) rfl (fun ls hl => ?_)
        refine v_aload_n 51 C dX8_round_51 rfl (lv_at hl 1 rfl) ?_
        refine v_getr 52 (1) C dX8_round_52 fl_X8_11 rfl kC_0 rfl ?_
        refine v_iload_n 55 C dX8_round_55 rfl (lv_at hl 3 rfl) ?_
        refine v_aald 56 (4 + 2 * Int32.toNatClampNeg x2) C dX8_round_56 kC_1 (Or.inl rfl) rfl rfl h (fun hz8 h => ?_)
        refine v_aload_n 57 C dX8_round_57 rfl (lv_at hl 1 rfl) ?_
        refine v_getr 58 (60) C dX8_round_58 fl_X8_51 rfl kC_0 rfl ?_
        refine v_getr 61 (62) C dX8_round_61 fl_X8_249 rfl kC_60 rfl ?_
        refine v_iload_n 64 C dX8_round_64 rfl (lv_at hl 2 rfl) ?_
        obtain ⟨v9, S, hc, h⟩ := zb_e h
        refine v_callSi 65 C [.ref (w.2.2.1 62), .ref (w.2.2.1 (4 + 2 * Int32.toNatClampNeg x2))] dX8_round_65 ml_X8_205 hy_J6_bitCount_0f7a4 (c_J6_bitCount_0f7a4  hc) (by decide) rfl hl.1 (Nat.le_of_ble_eq_true rfl) rfl ?_
        obtain ⟨v10, S, hc, h⟩ := zb_e h
        refine v_callVv 68 C (ci := 6) [] dX8_round_68 ml_X8_252 hy_X7_lieAs (c_X7_lieAs (kRow hz8) kC_62 hc) (by decide) rfl hl.1 (kRow hz8) rfl (Nat.le_of_ble_eq_true rfl) rfl ?_
        refine v_iload_n 71 C dX8_round_71 rfl (lv_at hl 0 rfl) ?_
        exact v_ireturn 72 C dX8_round_72 h
      · refine v_bipush 35 C (v := (-4 : Int32)) dX8_round_35 (by decide) ?_
        exact v_ireturn 37 C dX8_round_37 h
    · exact w_X8_round_b21 C (lv_sub hl [] rfl) h
theorem c_X8_round {w : zWd} {l0 : Launch} {x1 : Int32} {x2 : Int32} {S S1 : zMem} {r : Int32} (h : f_X8_round x1 x2 S = some (r, S1)) : zMet LC w l0 yX8_round cX8_round 4 (some .int) 13 [.ref (w.2.2.1 0), .int x1, .int x2] S (some (.int r)) S1 :=
  zMet_of (by decide +kernel) (Nat.le_of_ble_eq_true rfl) (fun X ls C hl => w_X8_round_b0 C hl h)
theorem fl_X3_71 : zFL RX3 71 2 6 := ⟨_, rfl, by decide, zT_of (List.mem_of_getElem? (i := 234) (by decide +kernel)) rfl⟩
theorem ml_X3_90 : Cond.methodLink RX3 90 yX3_reaches ∈ zT := zT_of (List.mem_of_getElem? (i := 695) (by decide +kernel)) rfl
theorem hy_X3_reaches : zYv yX3_reaches cX3_reaches 13 (some .boolean) 6 := ⟨⟨zT_of (List.mem_of_getElem? (i := 698) (by decide +kernel)) rfl, zT_of (List.mem_of_getElem? (i := 74) (by decide +kernel)) rfl, by decide, by decide +kernel, by decide +kernel, by decide +kernel⟩, zT_of (List.mem_of_getElem? (i := 697) (by decide +kernel)) rfl, zT_of (List.mem_of_getElem? (i := 13) (by decide +kernel)) rfl⟩
theorem fl_X3_68 : zFL RX3 68 2 5 := ⟨_, rfl, by decide, zT_of (List.mem_of_getElem? (i := 233) (by decide +kernel)) rfl⟩
theorem ml_X3_94 : Cond.methodLink RX3 94 yX6_bondBehind ∈ zT := zT_of (List.mem_of_getElem? (i := 699) (by decide +kernel)) rfl
theorem dX3_reaches_0 : decode cX3_reaches 0 = .ok (.iload_n 1, 1) := by decide +kernel
theorem dX3_reaches_1 : decode cX3_reaches 1 = .ok (.iload_n 2, 1) := by decide +kernel
theorem dX3_reaches_2 : decode cX3_reaches 2 = .ok (.if_icmp .ge 9, 3) := by decide +kernel
theorem dX3_reaches_5 : decode cX3_reaches 5 = .ok (.iload_n 1, 1) := by decide +kernel
theorem dX3_reaches_6 : decode cX3_reaches 6 = .ok (.bipush 6, 2) := by decide +kernel
theorem dX3_reaches_8 : decode cX3_reaches 8 = .ok (.if_icmp .lt 18, 3) := by decide +kernel
theorem dX3_reaches_11 : decode cX3_reaches 11 = .ok (.iload 6, 2) := by decide +kernel
theorem dX3_reaches_13 : decode cX3_reaches 13 = .ok (.aload_n 0, 1) := by decide +kernel
theorem dX3_reaches_14 : decode cX3_reaches 14 = .ok (.getfield 71, 3) := by decide +kernel
theorem dX3_reaches_17 : decode cX3_reaches 17 = .ok (.if_icmp .lt 7, 3) := by decide +kernel
theorem dX3_reaches_20 : decode cX3_reaches 20 = .ok (.iconst 1, 1) := by decide +kernel
theorem dX3_reaches_21 : decode cX3_reaches 21 = .ok (.goto 4, 3) := by decide +kernel
theorem dX3_reaches_24 : decode cX3_reaches 24 = .ok (.iconst 0, 1) := by decide +kernel
theorem dX3_reaches_25 : decode cX3_reaches 25 = .ok (.ireturn, 1) := by decide +kernel
theorem dX3_reaches_26 : decode cX3_reaches 26 = .ok (.iconst 0, 1) := by decide +kernel
theorem dX3_reaches_27 : decode cX3_reaches 27 = .ok (.istore 7, 2) := by decide +kernel
theorem dX3_reaches_29 : decode cX3_reaches 29 = .ok (.iload 7, 2) := by decide +kernel
theorem dX3_reaches_31 : decode cX3_reaches 31 = .ok (.aload_n 0, 1) := by decide +kernel
theorem dX3_reaches_32 : decode cX3_reaches 32 = .ok (.getfield 18, 3) := by decide +kernel
theorem dX3_reaches_35 : decode cX3_reaches 35 = .ok (.getfield 48, 3) := by decide +kernel
theorem dX3_reaches_38 : decode cX3_reaches 38 = .ok (.if_icmp .ge 135, 3) := by decide +kernel
theorem dX3_reaches_41 : decode cX3_reaches 41 = .ok (.iload_n 3, 1) := by decide +kernel
theorem dX3_reaches_42 : decode cX3_reaches 42 = .ok (.iload 7, 2) := by decide +kernel
theorem dX3_reaches_44 : decode cX3_reaches 44 = .ok (.ishr, 1) := by decide +kernel
theorem dX3_reaches_45 : decode cX3_reaches 45 = .ok (.iconst 1, 1) := by decide +kernel
theorem dX3_reaches_46 : decode cX3_reaches 46 = .ok (.iand, 1) := by decide +kernel
theorem dX3_reaches_47 : decode cX3_reaches 47 = .ok (.ifCond .eq 120, 3) := by decide +kernel
theorem dX3_reaches_50 : decode cX3_reaches 50 = .ok (.aload_n 0, 1) := by decide +kernel
theorem dX3_reaches_51 : decode cX3_reaches 51 = .ok (.getfield 9, 3) := by decide +kernel
theorem dX3_reaches_54 : decode cX3_reaches 54 = .ok (.iload_n 1, 1) := by decide +kernel
theorem dX3_reaches_55 : decode cX3_reaches 55 = .ok (.iload 7, 2) := by decide +kernel
theorem dX3_reaches_57 : decode cX3_reaches 57 = .ok (.iastore, 1) := by decide +kernel
theorem dX3_reaches_58 : decode cX3_reaches 58 = .ok (.aload_n 0, 1) := by decide +kernel
theorem dX3_reaches_59 : decode cX3_reaches 59 = .ok (.getfield 18, 3) := by decide +kernel
theorem dX3_reaches_62 : decode cX3_reaches 62 = .ok (.getfield 65, 3) := by decide +kernel
theorem dX3_reaches_65 : decode cX3_reaches 65 = .ok (.iload 7, 2) := by decide +kernel
theorem dX3_reaches_67 : decode cX3_reaches 67 = .ok (.iaload, 1) := by decide +kernel
theorem dX3_reaches_68 : decode cX3_reaches 68 = .ok (.istore 8, 2) := by decide +kernel
theorem dX3_reaches_70 : decode cX3_reaches 70 = .ok (.aload_n 0, 1) := by decide +kernel
theorem dX3_reaches_71 : decode cX3_reaches 71 = .ok (.getfield 18, 3) := by decide +kernel
theorem dX3_reaches_74 : decode cX3_reaches 74 = .ok (.iload 7, 2) := by decide +kernel
theorem dX3_reaches_76 : decode cX3_reaches 76 = .ok (.iload 4, 2) := by decide +kernel
theorem dX3_reaches_78 : decode cX3_reaches 78 = .ok (.iload 5, 2) := by decide +kernel
theorem dX3_reaches_80 : decode cX3_reaches 80 = .ok (.aload_n 0, 1) := by decide +kernel
theorem dX3_reaches_81 : decode cX3_reaches 81 = .ok (.getfield 28, 3) := by decide +kernel
theorem dX3_reaches_84 : decode cX3_reaches 84 = .ok (.invokevirtual 53, 3) := by decide +kernel
theorem dX3_reaches_87 : decode cX3_reaches 87 = .ok (.istore 9, 2) := by decide +kernel
theorem dX3_reaches_89 : decode cX3_reaches 89 = .ok (.aload_n 0, 1) := by decide +kernel
theorem dX3_reaches_90 : decode cX3_reaches 90 = .ok (.getfield 18, 3) := by decide +kernel
theorem dX3_reaches_93 : decode cX3_reaches 93 = .ok (.iload 7, 2) := by decide +kernel
theorem dX3_reaches_95 : decode cX3_reaches 95 = .ok (.iload 9, 2) := by decide +kernel
theorem dX3_reaches_97 : decode cX3_reaches 97 = .ok (.invokevirtual 57, 3) := by decide +kernel
theorem dX3_reaches_100 : decode cX3_reaches 100 = .ok (.istore 10, 2) := by decide +kernel
theorem dX3_reaches_102 : decode cX3_reaches 102 = .ok (.aload_n 0, 1) := by decide +kernel
theorem dX3_reaches_103 : decode cX3_reaches 103 = .ok (.getfield 18, 3) := by decide +kernel
theorem dX3_reaches_106 : decode cX3_reaches 106 = .ok (.iload 7, 2) := by decide +kernel
theorem dX3_reaches_108 : decode cX3_reaches 108 = .ok (.iload 9, 2) := by decide +kernel
theorem dX3_reaches_110 : decode cX3_reaches 110 = .ok (.iload 10, 2) := by decide +kernel
theorem dX3_reaches_112 : decode cX3_reaches 112 = .ok (.invokevirtual 61, 3) := by decide +kernel
theorem dX3_reaches_115 : decode cX3_reaches 115 = .ok (.istore 11, 2) := by decide +kernel
theorem dX3_reaches_117 : decode cX3_reaches 117 = .ok (.iload 8, 2) := by decide +kernel
theorem dX3_reaches_119 : decode cX3_reaches 119 = .ok (.aload_n 0, 1) := by decide +kernel
theorem dX3_reaches_120 : decode cX3_reaches 120 = .ok (.getfield 68, 3) := by decide +kernel
theorem dX3_reaches_123 : decode cX3_reaches 123 = .ok (.if_icmp .ne 13, 3) := by decide +kernel
theorem dX3_reaches_126 : decode cX3_reaches 126 = .ok (.iload 6, 2) := by decide +kernel
theorem dX3_reaches_128 : decode cX3_reaches 128 = .ok (.iload 10, 2) := by decide +kernel
theorem dX3_reaches_130 : decode cX3_reaches 130 = .ok (.invokestatic 94, 3) := by decide +kernel
theorem dX3_reaches_133 : decode cX3_reaches 133 = .ok (.goto 5, 3) := by decide +kernel
theorem dX3_reaches_136 : decode cX3_reaches 136 = .ok (.iload 6, 2) := by decide +kernel
theorem dX3_reaches_138 : decode cX3_reaches 138 = .ok (.istore 12, 2) := by decide +kernel
theorem dX3_reaches_140 : decode cX3_reaches 140 = .ok (.aload_n 0, 1) := by decide +kernel
theorem dX3_reaches_141 : decode cX3_reaches 141 = .ok (.iload_n 1, 1) := by decide +kernel
theorem dX3_reaches_142 : decode cX3_reaches 142 = .ok (.iconst 1, 1) := by decide +kernel
theorem dX3_reaches_143 : decode cX3_reaches 143 = .ok (.iadd, 1) := by decide +kernel
theorem dX3_reaches_144 : decode cX3_reaches 144 = .ok (.iload_n 2, 1) := by decide +kernel
theorem dX3_reaches_145 : decode cX3_reaches 145 = .ok (.iload_n 3, 1) := by decide +kernel
theorem dX3_reaches_146 : decode cX3_reaches 146 = .ok (.iconst 1, 1) := by decide +kernel
theorem dX3_reaches_147 : decode cX3_reaches 147 = .ok (.iload 7, 2) := by decide +kernel
theorem dX3_reaches_149 : decode cX3_reaches 149 = .ok (.ishl, 1) := by decide +kernel
theorem dX3_reaches_150 : decode cX3_reaches 150 = .ok (.iconst (-1), 1) := by decide +kernel
theorem dX3_reaches_151 : decode cX3_reaches 151 = .ok (.ixor, 1) := by decide +kernel
theorem dX3_reaches_152 : decode cX3_reaches 152 = .ok (.iand, 1) := by decide +kernel
theorem dX3_reaches_153 : decode cX3_reaches 153 = .ok (.iload 11, 2) := by decide +kernel
theorem dX3_reaches_155 : decode cX3_reaches 155 = .ok (.iload 8, 2) := by decide +kernel
theorem dX3_reaches_157 : decode cX3_reaches 157 = .ok (.iload 12, 2) := by decide +kernel
theorem dX3_reaches_159 : decode cX3_reaches 159 = .ok (.invokevirtual 90, 3) := by decide +kernel
theorem dX3_reaches_162 : decode cX3_reaches 162 = .ok (.ifCond .eq 5, 3) := by decide +kernel
theorem dX3_reaches_165 : decode cX3_reaches 165 = .ok (.iconst 1, 1) := by decide +kernel
theorem dX3_reaches_166 : decode cX3_reaches 166 = .ok (.ireturn, 1) := by decide +kernel
theorem dX3_reaches_167 : decode cX3_reaches 167 = .ok (.iinc 7 1, 3) := by decide +kernel
theorem dX3_reaches_170 : decode cX3_reaches 170 = .ok (.goto (-141), 3) := by decide +kernel
theorem dX3_reaches_173 : decode cX3_reaches 173 = .ok (.iconst 0, 1) := by decide +kernel
theorem dX3_reaches_174 : decode cX3_reaches 174 = .ok (.ireturn, 1) := by decide +kernel
set_option maxRecDepth 20000 in
theorem w_X3_reaches_b25 {w : zWd} {X : zX} {l0 : Launch} {r : Int32} {S1 : zMem} {d : Nat} (C : zC LC w X l0 cX3_reaches RX3 13 (3 + d + 1) (some .boolean)) {rec : Int32 → Int32 → Int32 → Int32 → Int32 → Int32 → zMem → Option (Int32 × zMem)} (hrec : ∀ (x1 : Int32) (x2 : Int32) (x3 : Int32) (x4 : Int32) (x5 : Int32) (x6 : Int32) (S : zMem) (r : Int32) (S1 : zMem), rec x1 x2 x3 x4 x5 x6 S = some (r, S1) → zMet LC w l0 yX3_reaches cX3_reaches 13 (some .boolean) (3 + d) [.ref (w.2.2.1 60), .int x1, .int x2, .int x3, .int x4, .int x5, .int x6] S (some (.int r)) S1) {s0 : Int32} {S : zMem} {ls : Array Slot} (hl : lv_has ls 13 []) (h : X3_reaches_b25 rec s0 S = some (r, S1)) : zV LC w X (some (.int r)) S1 S 25 ls [.int s0] := by
  unfold X3_reaches_b25 at h
  exact v_zreturn 25 C dX3_reaches_25 h
set_option maxRecDepth 20000 in
theorem w_X3_reaches_b11 {w : zWd} {X : zX} {l0 : Launch} {r : Int32} {S1 : zMem} {d : Nat} (C : zC LC w X l0 cX3_reaches RX3 13 (3 + d + 1) (some .boolean)) {rec : Int32 → Int32 → Int32 → Int32 → Int32 → Int32 → zMem → Option (Int32 × zMem)} (hrec : ∀ (x1 : Int32) (x2 : Int32) (x3 : Int32) (x4 : Int32) (x5 : Int32) (x6 : Int32) (S : zMem) (r : Int32) (S1 : zMem), rec x1 x2 x3 x4 x5 x6 S = some (r, S1) → zMet LC w l0 yX3_reaches cX3_reaches 13 (some .boolean) (3 + d) [.ref (w.2.2.1 60), .int x1, .int x2, .int x3, .int x4, .int x5, .int x6] S (some (.int r)) S1) {x6 : Int32} {S : zMem} {ls : Array Slot} (hl : lv_has ls 13 [(0, .ref (w.2.2.1 60)), (6, .int x6)]) (h : X3_reaches_b11 rec x6 S = some (r, S1)) : zV LC w X (some (.int r)) S1 S 11 ls [] := by
  unfold X3_reaches_b11 at h
  refine v_iload 11 C dX3_reaches_11 (lv_at hl 1 rfl) ?_
  refine v_aload_n 13 C dX3_reaches_13 rfl (lv_at hl 0 rfl) ?_
  refine v_geti 14 C dX3_reaches_14 fl_X3_71 rfl kC_60 h (fun v1 h => ?_)
  refine v_icmp_lt 17 24 C dX3_reaches_17 (by decide) h (fun h => ?_) (fun h => ?_)
  · refine v_iconst 24 C (v := (0 : Int32)) dX3_reaches_24 (by decide) ?_
    exact w_X3_reaches_b25 C hrec (lv_sub hl [] rfl) h
  · refine v_iconst 20 C (v := (1 : Int32)) dX3_reaches_20 (by decide) ?_
    refine v_goto 21 25 C dX3_reaches_21 (by decide) ?_
    exact w_X3_reaches_b25 C hrec (lv_sub hl [] rfl) h
set_option maxRecDepth 20000 in
theorem w_X3_reaches_b167 {w : zWd} {X : zX} {l0 : Launch} {r : Int32} {S1 : zMem} {d : Nat} (C : zC LC w X l0 cX3_reaches RX3 13 (3 + d + 1) (some .boolean)) {rec : Int32 → Int32 → Int32 → Int32 → Int32 → Int32 → zMem → Option (Int32 × zMem)} (hrec : ∀ (x1 : Int32) (x2 : Int32) (x3 : Int32) (x4 : Int32) (x5 : Int32) (x6 : Int32) (S : zMem) (r : Int32) (S1 : zMem), rec x1 x2 x3 x4 x5 x6 S = some (r, S1) → zMet LC w l0 yX3_reaches cX3_reaches 13 (some .boolean) (3 + d) [.ref (w.2.2.1 60), .int x1, .int x2, .int x3, .int x4, .int x5, .int x6] S (some (.int r)) S1) {k29 : Int32 → Int32 → Int32 → Int32 → Int32 → Int32 → Int32 → zMem → Option (Int32 × zMem)} (hc29 : ∀ (x1 : Int32) (x2 : Int32) (x3 : Int32) (x4 : Int32) (x5 : Int32) (x6 : Int32) (x7 : Int32) (S : zMem) (ls : Array Slot), lv_has ls 13 [(0, .ref (w.2.2.1 60)), (1, .int x1), (2, .int x2), (3, .int x3), (4, .int x4), (5, .int x5), (6, .int x6), (7, .int x7)] → k29 x1 x2 x3 x4 x5 x6 x7 S = some (r, S1) → zV LC w X (some (.int r)) S1 S 29 ls []) {x1 : Int32} {x2 : Int32} {x3 : Int32} {x4 : Int32} {x5 : Int32} {x6 : Int32} {x7 : Int32} {S : zMem} {ls : Array Slot} (hl : lv_has ls 13 [(0, .ref (w.2.2.1 60)), (1, .int x1), (2, .int x2), (3, .int x3), (4, .int x4), (5, .int x5), (6, .int x6), (7, .int x7)]) (h : X3_reaches_b167 rec k29 x1 x2 x3 x4 x5 x6 x7 S = some (r, S1)) : zV LC w X (some (.int r)) S1 S 167 ls [] := by
  unfold X3_reaches_b167 at h
  refine v_iinc 167 C (nn := (1 : Int32)) (fun v => [(7, .int v), (0, .ref (w.2.2.1 60)), (1, .int x1), (2, .int x2), (3, .int x3), (4, .int x4), (5, .int x5), (6, .int x6)]) dX3_reaches_167 hl (k := 7) rfl (by decide) (by decide) (fun _ => rfl) h (fun v1 ls hl h => ?_)
  refine v_goto 170 29 C dX3_reaches_170 (by decide) ?_
  exact hc29 _ _ _ _ _ _ _ _ _ (lv_sub hl [1, 2, 3, 4, 5, 6, 7, 0] rfl) h
set_option maxRecDepth 20000 in
theorem w_X3_reaches_b138 {w : zWd} {X : zX} {l0 : Launch} {r : Int32} {S1 : zMem} {d : Nat} (C : zC LC w X l0 cX3_reaches RX3 13 (3 + d + 1) (some .boolean)) {rec : Int32 → Int32 → Int32 → Int32 → Int32 → Int32 → zMem → Option (Int32 × zMem)} (hrec : ∀ (x1 : Int32) (x2 : Int32) (x3 : Int32) (x4 : Int32) (x5 : Int32) (x6 : Int32) (S : zMem) (r : Int32) (S1 : zMem), rec x1 x2 x3 x4 x5 x6 S = some (r, S1) → zMet LC w l0 yX3_reaches cX3_reaches 13 (some .boolean) (3 + d) [.ref (w.2.2.1 60), .int x1, .int x2, .int x3, .int x4, .int x5, .int x6] S (some (.int r)) S1) {k29 : Int32 → Int32 → Int32 → Int32 → Int32 → Int32 → Int32 → zMem → Option (Int32 × zMem)} (hc29 : ∀ (x1 : Int32) (x2 : Int32) (x3 : Int32) (x4 : Int32) (x5 : Int32) (x6 : Int32) (x7 : Int32) (S : zMem) (ls : Array Slot), lv_has ls 13 [(0, .ref (w.2.2.1 60)), (1, .int x1), (2, .int x2), (3, .int x3), (4, .int x4), (5, .int x5), (6, .int x6), (7, .int x7)] → k29 x1 x2 x3 x4 x5 x6 x7 S = some (r, S1) → zV LC w X (some (.int r)) S1 S 29 ls []) {x1 : Int32} {x2 : Int32} {x3 : Int32} {x4 : Int32} {x5 : Int32} {x6 : Int32} {x7 : Int32} {x8 : Int32} {x11 : Int32} {s0 : Int32} {S : zMem} {ls : Array Slot} (hl : lv_has ls 13 [(0, .ref (w.2.2.1 60)), (1, .int x1), (2, .int x2), (3, .int x3), (4, .int x4), (5, .int x5), (6, .int x6), (7, .int x7), (8, .int x8), (11, .int x11)]) (h : X3_reaches_b138 rec k29 x1 x2 x3 x4 x5 x6 x7 x8 x11 s0 S = some (r, S1)) : zV LC w X (some (.int r)) S1 S 138 ls [.int s0] := by
  unfold X3_reaches_b138 at h
  refine v_istore 138 C [(12, .int s0), (0, .ref (w.2.2.1 60)), (1, .int x1), (2, .int x2), (3, .int x3), (4, .int x4), (5, .int x5), (6, .int x6), (7, .int x7), (8, .int x8), (11, .int x11)] dX3_reaches_138 hl (by decide) rfl (fun ls hl => ?_)
  refine v_aload_n 140 C dX3_reaches_140 rfl (lv_at hl 1 rfl) ?_
  refine v_iload_n 141 C dX3_reaches_141 rfl (lv_at hl 2 rfl) ?_
  refine v_iconst 142 C (v := (1 : Int32)) dX3_reaches_142 (by decide) ?_
  refine v_iadd 143 C dX3_reaches_143 h (fun v1 h => ?_)
  refine v_iload_n 144 C dX3_reaches_144 rfl (lv_at hl 3 rfl) ?_
  refine v_iload_n 145 C dX3_reaches_145 rfl (lv_at hl 4 rfl) ?_
  refine v_iconst 146 C (v := (1 : Int32)) dX3_reaches_146 (by decide) ?_
  refine v_iload 147 C dX3_reaches_147 (lv_at hl 8 rfl) ?_
  refine v_ishl 149 C dX3_reaches_149 h (fun v2 h => ?_)
  refine v_iconst 150 C (v := (-1 : Int32)) dX3_reaches_150 (by decide) ?_
  refine v_ixor 151 C dX3_reaches_151 h (fun v3 h => ?_)
  refine v_iand 152 C dX3_reaches_152 h (fun v4 h => ?_)
  refine v_iload 153 C dX3_reaches_153 (lv_at hl 10 rfl) ?_
  refine v_iload 155 C dX3_reaches_155 (lv_at hl 9 rfl) ?_
  refine v_iload 157 C dX3_reaches_157 (lv_at hl 0 rfl) ?_
  obtain ⟨v5, S, hc, h⟩ := zb_e h
  refine v_callVi 159 C (ci := 2) [] dX3_reaches_159 ml_X3_90 hy_X3_reaches (hrec _ _ _ _ _ _ _ _ _  hc) (by omega) rfl hl.1 kC_60 rfl (Nat.le_of_ble_eq_true rfl) rfl ?_
  refine v_if_eq 162 167 C dX3_reaches_162 (by decide) h (fun h => ?_) (fun h => ?_)
  · exact w_X3_reaches_b167 C hrec hc29 (lv_sub hl [1, 2, 3, 4, 5, 6, 7, 8] rfl) h
  · refine v_iconst 165 C (v := (1 : Int32)) dX3_reaches_165 (by decide) ?_
    exact v_zreturn 166 C dX3_reaches_166 h
set_option maxRecDepth 20000 in
theorem w_X3_reaches_b29 {w : zWd} {X : zX} {l0 : Launch} {r : Int32} {S1 : zMem} {d : Nat} (C : zC LC w X l0 cX3_reaches RX3 13 (3 + d + 1) (some .boolean)) {rec : Int32 → Int32 → Int32 → Int32 → Int32 → Int32 → zMem → Option (Int32 × zMem)} (hrec : ∀ (x1 : Int32) (x2 : Int32) (x3 : Int32) (x4 : Int32) (x5 : Int32) (x6 : Int32) (S : zMem) (r : Int32) (S1 : zMem), rec x1 x2 x3 x4 x5 x6 S = some (r, S1) → zMet LC w l0 yX3_reaches cX3_reaches 13 (some .boolean) (3 + d) [.ref (w.2.2.1 60), .int x1, .int x2, .int x3, .int x4, .int x5, .int x6] S (some (.int r)) S1) {k29 : Int32 → Int32 → Int32 → Int32 → Int32 → Int32 → Int32 → zMem → Option (Int32 × zMem)} (hc29 : ∀ (x1 : Int32) (x2 : Int32) (x3 : Int32) (x4 : Int32) (x5 : Int32) (x6 : Int32) (x7 : Int32) (S : zMem) (ls : Array Slot), lv_has ls 13 [(0, .ref (w.2.2.1 60)), (1, .int x1), (2, .int x2), (3, .int x3), (4, .int x4), (5, .int x5), (6, .int x6), (7, .int x7)] → k29 x1 x2 x3 x4 x5 x6 x7 S = some (r, S1) → zV LC w X (some (.int r)) S1 S 29 ls []) {x1 : Int32} {x2 : Int32} {x3 : Int32} {x4 : Int32} {x5 : Int32} {x6 : Int32} {x7 : Int32} {S : zMem} {ls : Array Slot} (hl : lv_has ls 13 [(0, .ref (w.2.2.1 60)), (1, .int x1), (2, .int x2), (3, .int x3), (4, .int x4), (5, .int x5), (6, .int x6), (7, .int x7)]) (h : X3_reaches_b29 rec k29 x1 x2 x3 x4 x5 x6 x7 S = some (r, S1)) : zV LC w X (some (.int r)) S1 S 29 ls [] := by
  unfold X3_reaches_b29 at h
  refine v_iload 29 C dX3_reaches_29 (lv_at hl 7 rfl) ?_
  refine v_aload_n 31 C dX3_reaches_31 rfl (lv_at hl 0 rfl) ?_
  refine v_getr 32 (24) C dX3_reaches_32 fl_X3_18 rfl kC_60 rfl ?_
  refine v_geti 35 C dX3_reaches_35 fl_X3_48 rfl kC_24 h (fun v1 h => ?_)
  refine v_icmp_ge 38 173 C dX3_reaches_38 (by decide) h (fun h => ?_) (fun h => ?_)
  · refine v_iconst 173 C (v := (0 : Int32)) dX3_reaches_173 (by decide) ?_
    exact v_zreturn 174 C dX3_reaches_174 h
  · refine v_iload_n 41 C dX3_reaches_41 rfl (lv_at hl 3 rfl) ?_
    refine v_iload 42 C dX3_reaches_42 (lv_at hl 7 rfl) ?_
    refine v_ishr 44 C dX3_reaches_44 h (fun v2 h => ?_)
    refine v_iconst 45 C (v := (1 : Int32)) dX3_reaches_45 (by decide) ?_
    refine v_iand 46 C dX3_reaches_46 h (fun v3 h => ?_)
    refine v_if_eq 47 167 C dX3_reaches_47 (by decide) h (fun h => ?_) (fun h => ?_)
    · exact w_X3_reaches_b167 C hrec hc29 (lv_sub hl [0, 1, 2, 3, 4, 5, 6, 7] rfl) h
    · refine v_aload_n 50 C dX3_reaches_50 rfl (lv_at hl 0 rfl) ?_
      refine v_getr 51 (61) C dX3_reaches_51 fl_X3_9 rfl kC_60 rfl ?_
      refine v_iload_n 54 C dX3_reaches_54 rfl (lv_at hl 1 rfl) ?_
      refine v_iload 55 C dX3_reaches_55 (lv_at hl 7 rfl) ?_
      refine v_iast 57 C dX3_reaches_57 kC_61 rfl h (fun S h => ?_)
      refine v_aload_n 58 C dX3_reaches_58 rfl (lv_at hl 0 rfl) ?_
      refine v_getr 59 (24) C dX3_reaches_59 fl_X3_18 rfl kC_60 rfl ?_
      refine v_getr 62 (27) C dX3_reaches_62 fl_X3_65 rfl kC_24 rfl ?_
      refine v_iload 65 C dX3_reaches_65 (lv_at hl 7 rfl) ?_
      refine v_iald 67 C dX3_reaches_67 kC_27 rfl h (fun v4 h => ?_)
      refine v_istore 68 C [(8, .int v4), (0, .ref (w.2.2.1 60)), (1, .int x1), (2, .int x2), (3, .int x3), (4, .int x4), (5, .int x5), (6, .int x6), (7, .int x7)] dX3_reaches_68 hl (by decide) rfl (fun ls hl => ?_)
      refine v_aload_n 70 C dX3_reaches_70 rfl (lv_at hl 1 rfl) ?_
      refine v_getr 71 (24) C dX3_reaches_71 fl_X3_18 rfl kC_60 rfl ?_
      refine v_iload 74 C dX3_reaches_74 (lv_at hl 8 rfl) ?_
      refine v_iload 76 C dX3_reaches_76 (lv_at hl 5 rfl) ?_
      refine v_iload 78 C dX3_reaches_78 (lv_at hl 6 rfl) ?_
      refine v_aload_n 80 C dX3_reaches_80 rfl (lv_at hl 1 rfl) ?_
      refine v_geti 81 C dX3_reaches_81 fl_X3_28 rfl kC_60 h (fun v5 h => ?_)
      obtain ⟨v6, S, hc, h⟩ := zb_e h
      refine v_callVi 84 C (ci := 5) [] dX3_reaches_84 ml_X3_53 hy_X6_moodAtDoor (c_X6_moodAtDoor  hc) (by omega) rfl hl.1 kC_24 rfl (Nat.le_of_ble_eq_true rfl) rfl ?_
      refine v_istore 87 C [(9, .int v6), (8, .int v4), (0, .ref (w.2.2.1 60)), (1, .int x1), (2, .int x2), (3, .int x3), (4, .int x4), (5, .int x5), (6, .int x6), (7, .int x7)] dX3_reaches_87 hl (by decide) rfl (fun ls hl => ?_)
      refine v_aload_n 89 C dX3_reaches_89 rfl (lv_at hl 2 rfl) ?_
      refine v_getr 90 (24) C dX3_reaches_90 fl_X3_18 rfl kC_60 rfl ?_
      refine v_iload 93 C dX3_reaches_93 (lv_at hl 9 rfl) ?_
      refine v_iload 95 C dX3_reaches_95 (lv_at hl 0 rfl) ?_
      obtain ⟨v7, S, hc, h⟩ := zb_e h
      refine v_callVi 97 C (ci := 5) [] dX3_reaches_97 ml_X3_57 hy_X6_warmth (c_X6_warmth  hc) (by omega) rfl hl.1 kC_24 rfl (Nat.le_of_ble_eq_true rfl) rfl ?_
      refine v_istore 100 C [(10, .int v7), (9, .int v6), (8, .int v4), (0, .ref (w.2.2.1 60)), (1, .int x1), (2, .int x2), (3, .int x3), (4, .int x4), (5, .int x5), (6, .int x6), (7, .int x7)] dX3_reaches_100 hl (by decide) rfl (fun ls hl => ?_)
      refine v_aload_n 102 C dX3_reaches_102 rfl (lv_at hl 3 rfl) ?_
      refine v_getr 103 (24) C dX3_reaches_103 fl_X3_18 rfl kC_60 rfl ?_
      refine v_iload 106 C dX3_reaches_106 (lv_at hl 10 rfl) ?_
      refine v_iload 108 C dX3_reaches_108 (lv_at hl 1 rfl) ?_
      refine v_iload 110 C dX3_reaches_110 (lv_at hl 0 rfl) ?_
      obtain ⟨v8, S, hc, h⟩ := zb_e h
      refine v_callVi 112 C (ci := 5) [] dX3_reaches_112 ml_X3_61 hy_X6_moodBehind (c_X6_moodBehind  hc) (by omega) rfl hl.1 kC_24 rfl (Nat.le_of_ble_eq_true rfl) rfl ?_
      refine v_istore 115 C [(11, .int v8), (10, .int v7), (9, .int v6), (8, .int v4), (0, .ref (w.2.2.1 60)), (1, .int x1), (2, .int x2), (3, .int x3), (4, .int x4), (5, .int x5), (6, .int x6), (7, .int x7)] dX3_reaches_115 hl (by decide) rfl (fun ls hl => ?_)
      refine v_iload 117 C dX3_reaches_117 (lv_at hl 3 rfl) ?_
      refine v_aload_n 119 C dX3_reaches_119 rfl (lv_at hl 4 rfl) ?_
      refine v_geti 120 C dX3_reaches_120 fl_X3_68 rfl kC_60 h (fun v9 h => ?_)
      refine v_icmp_ne 123 136 C dX3_reaches_123 (by decide) h (fun h => ?_) (fun h => ?_)
      · refine v_iload 136 C dX3_reaches_136 (lv_at hl 10 rfl) ?_
        exact w_X3_reaches_b138 C hrec hc29 (lv_sub hl [4, 5, 6, 7, 8, 9, 10, 11, 3, 0] rfl) h
      · refine v_iload 126 C dX3_reaches_126 (lv_at hl 10 rfl) ?_
        refine v_iload 128 C dX3_reaches_128 (lv_at hl 1 rfl) ?_
        obtain ⟨v10, S, hc, h⟩ := zb_e h
        refine v_callSi 130 C [] dX3_reaches_130 ml_X3_94 hy_X6_bondBehind (c_X6_bondBehind  hc) (by omega) rfl hl.1 (Nat.le_of_ble_eq_true rfl) rfl ?_
        refine v_goto 133 138 C dX3_reaches_133 (by decide) ?_
        exact w_X3_reaches_b138 C hrec hc29 (lv_sub hl [4, 5, 6, 7, 8, 9, 10, 11, 3, 0] rfl) h
theorem w_X3_reaches_l29 {w : zWd} {X : zX} {l0 : Launch} {r : Int32} {S1 : zMem} {d : Nat} (C : zC LC w X l0 cX3_reaches RX3 13 (3 + d + 1) (some .boolean)) {rec : Int32 → Int32 → Int32 → Int32 → Int32 → Int32 → zMem → Option (Int32 × zMem)} (hrec : ∀ (x1 : Int32) (x2 : Int32) (x3 : Int32) (x4 : Int32) (x5 : Int32) (x6 : Int32) (S : zMem) (r : Int32) (S1 : zMem), rec x1 x2 x3 x4 x5 x6 S = some (r, S1) → zMet LC w l0 yX3_reaches cX3_reaches 13 (some .boolean) (3 + d) [.ref (w.2.2.1 60), .int x1, .int x2, .int x3, .int x4, .int x5, .int x6] S (some (.int r)) S1) : ∀ (n : Nat) (x1 : Int32) (x2 : Int32) (x3 : Int32) (x4 : Int32) (x5 : Int32) (x6 : Int32) (x7 : Int32) (S : zMem) (ls : Array Slot), lv_has ls 13 [(0, .ref (w.2.2.1 60)), (1, .int x1), (2, .int x2), (3, .int x3), (4, .int x4), (5, .int x5), (6, .int x6), (7, .int x7)] → X3_reaches_l29 rec n x1 x2 x3 x4 x5 x6 x7 S = some (r, S1) → zV LC w X (some (.int r)) S1 S 29 ls [] := by
  intro n
  induction n with
  | zero =>
    intro x1 x2 x3 x4 x5 x6 x7 S ls hl h
    cases (show (none : Option (Int32 × zMem)) = some _ from h)
  | succ n ih =>
    intro x1 x2 x3 x4 x5 x6 x7 S ls hl h
    exact w_X3_reaches_b29 C hrec ih hl h
set_option maxRecDepth 20000 in
theorem w_X3_reaches_b0 {w : zWd} {X : zX} {l0 : Launch} {r : Int32} {S1 : zMem} {d : Nat} (C : zC LC w X l0 cX3_reaches RX3 13 (3 + d + 1) (some .boolean)) {rec : Int32 → Int32 → Int32 → Int32 → Int32 → Int32 → zMem → Option (Int32 × zMem)} (hrec : ∀ (x1 : Int32) (x2 : Int32) (x3 : Int32) (x4 : Int32) (x5 : Int32) (x6 : Int32) (S : zMem) (r : Int32) (S1 : zMem), rec x1 x2 x3 x4 x5 x6 S = some (r, S1) → zMet LC w l0 yX3_reaches cX3_reaches 13 (some .boolean) (3 + d) [.ref (w.2.2.1 60), .int x1, .int x2, .int x3, .int x4, .int x5, .int x6] S (some (.int r)) S1) {x1 : Int32} {x2 : Int32} {x3 : Int32} {x4 : Int32} {x5 : Int32} {x6 : Int32} {S : zMem} {ls : Array Slot} (hl : lv_has ls 13 [(0, .ref (w.2.2.1 60)), (1, .int x1), (2, .int x2), (3, .int x3), (4, .int x4), (5, .int x5), (6, .int x6)]) (h : X3_reaches_b0 rec x1 x2 x3 x4 x5 x6 S = some (r, S1)) : zV LC w X (some (.int r)) S1 S 0 ls [] := by
  unfold X3_reaches_b0 at h
  refine v_iload_n 0 C dX3_reaches_0 rfl (lv_at hl 1 rfl) ?_
  refine v_iload_n 1 C dX3_reaches_1 rfl (lv_at hl 2 rfl) ?_
  refine v_icmp_ge 2 11 C dX3_reaches_2 (by decide) h (fun h => ?_) (fun h => ?_)
  · exact w_X3_reaches_b11 C hrec (lv_sub hl [0, 6] rfl) h
  · refine v_iload_n 5 C dX3_reaches_5 rfl (lv_at hl 1 rfl) ?_
    refine v_bipush 6 C (v := (6 : Int32)) dX3_reaches_6 (by decide) ?_
    refine v_icmp_lt 8 26 C dX3_reaches_8 (by decide) h (fun h => ?_) (fun h => ?_)
    · refine v_iconst 26 C (v := (0 : Int32)) dX3_reaches_26 (by decide) ?_
      refine v_istore 27 C [(7, .int (0 : Int32)), (0, .ref (w.2.2.1 60)), (1, .int x1), (2, .int x2), (3, .int x3), (4, .int x4), (5, .int x5), (6, .int x6)] dX3_reaches_27 hl (by decide) rfl (fun ls hl => ?_)
      exact w_X3_reaches_l29 C hrec zF _ _ _ _ _ _ _ _ _ (lv_sub hl [1, 2, 3, 4, 5, 6, 7, 0] rfl) h
    · exact w_X3_reaches_b11 C hrec (lv_sub hl [0, 6] rfl) h
theorem c_X3_reaches_all {w : zWd} {l0 : Launch} : ∀ d : Nat, ∀ (x1 : Int32) (x2 : Int32) (x3 : Int32) (x4 : Int32) (x5 : Int32) (x6 : Int32) (S : zMem) (r : Int32) (S1 : zMem), f_X3_reaches d x1 x2 x3 x4 x5 x6 S = some (r, S1) → zMet LC w l0 yX3_reaches cX3_reaches 13 (some .boolean) (3 + d) [.ref (w.2.2.1 60), .int x1, .int x2, .int x3, .int x4, .int x5, .int x6] S (some (.int r)) S1 := by
  intro d
  induction d with
  | zero =>
    intro x1 x2 x3 x4 x5 x6 S r S1 h
    cases (show (none : Option (Int32 × zMem)) = some _ from h)
  | succ d ih =>
    intro x1 x2 x3 x4 x5 x6 S r S1 h
    exact zMet_of (lev := 3 + d + 1) (by decide +kernel) (Nat.le_of_ble_eq_true rfl) (fun X ls C hl => w_X3_reaches_b0 C ih hl h)
theorem c_X3_reaches {w : zWd} {l0 : Launch} (d : Nat) {x1 : Int32} {x2 : Int32} {x3 : Int32} {x4 : Int32} {x5 : Int32} {x6 : Int32} {S S1 : zMem} {r : Int32} (h : f_X3_reaches d x1 x2 x3 x4 x5 x6 S = some (r, S1)) : zMet LC w l0 yX3_reaches cX3_reaches 13 (some .boolean) (3 + d) [.ref (w.2.2.1 60), .int x1, .int x2, .int x3, .int x4, .int x5, .int x6] S (some (.int r)) S1 := c_X3_reaches_all d _ _ _ _ _ _ _ _ _ h
theorem fl_X3_87 : zFL RX3 87 3 1 := ⟨_, rfl, by decide, zT_of (List.mem_of_getElem? (i := 167) (by decide +kernel)) rfl⟩
theorem fp_2_5 : zFP 2 5 .int := fun q h => by cases h; exact ⟨rfl, by decide +kernel⟩
theorem fp_2_6 : zFP 2 6 .int := fun q h => by cases h; exact ⟨rfl, by decide +kernel⟩
theorem ml_X3_74 : Cond.methodLink RX3 74 yX6_allLetters ∈ zT := zT_of (List.mem_of_getElem? (i := 693) (by decide +kernel)) rfl
theorem fl_X3_78 : zFL RX3 78 3 11 := ⟨_, rfl, by decide, zT_of (List.mem_of_getElem? (i := 192) (by decide +kernel)) rfl⟩
theorem ml_X3_81 : Cond.methodLink RX3 81 yJ6_bitCount_0f7a4 ∈ zT := zT_of (List.mem_of_getElem? (i := 694) (by decide +kernel)) rfl
theorem dX3_fewest_0 : decode cX3_fewest 0 = .ok (.aload_n 0, 1) := by decide +kernel
theorem dX3_fewest_1 : decode cX3_fewest 1 = .ok (.aload_n 1, 1) := by decide +kernel
theorem dX3_fewest_2 : decode cX3_fewest 2 = .ok (.getfield 22, 3) := by decide +kernel
theorem dX3_fewest_5 : decode cX3_fewest 5 = .ok (.putfield 28, 3) := by decide +kernel
theorem dX3_fewest_8 : decode cX3_fewest 8 = .ok (.aload_n 0, 1) := by decide +kernel
theorem dX3_fewest_9 : decode cX3_fewest 9 = .ok (.iload_n 2, 1) := by decide +kernel
theorem dX3_fewest_10 : decode cX3_fewest 10 = .ok (.putfield 68, 3) := by decide +kernel
theorem dX3_fewest_13 : decode cX3_fewest 13 = .ok (.aload_n 0, 1) := by decide +kernel
theorem dX3_fewest_14 : decode cX3_fewest 14 = .ok (.iload_n 3, 1) := by decide +kernel
theorem dX3_fewest_15 : decode cX3_fewest 15 = .ok (.putfield 71, 3) := by decide +kernel
theorem dX3_fewest_18 : decode cX3_fewest 18 = .ok (.aload_n 0, 1) := by decide +kernel
theorem dX3_fewest_19 : decode cX3_fewest 19 = .ok (.getfield 18, 3) := by decide +kernel
theorem dX3_fewest_22 : decode cX3_fewest 22 = .ok (.invokevirtual 74, 3) := by decide +kernel
theorem dX3_fewest_25 : decode cX3_fewest 25 = .ok (.aload_n 1, 1) := by decide +kernel
theorem dX3_fewest_26 : decode cX3_fewest 26 = .ok (.getfield 78, 3) := by decide +kernel
theorem dX3_fewest_29 : decode cX3_fewest 29 = .ok (.iconst (-1), 1) := by decide +kernel
theorem dX3_fewest_30 : decode cX3_fewest 30 = .ok (.ixor, 1) := by decide +kernel
theorem dX3_fewest_31 : decode cX3_fewest 31 = .ok (.iand, 1) := by decide +kernel
theorem dX3_fewest_32 : decode cX3_fewest 32 = .ok (.istore 4, 2) := by decide +kernel
theorem dX3_fewest_34 : decode cX3_fewest 34 = .ok (.iload 4, 2) := by decide +kernel
theorem dX3_fewest_36 : decode cX3_fewest 36 = .ok (.invokestatic 81, 3) := by decide +kernel
theorem dX3_fewest_39 : decode cX3_fewest 39 = .ok (.istore 5, 2) := by decide +kernel
theorem dX3_fewest_41 : decode cX3_fewest 41 = .ok (.iconst 0, 1) := by decide +kernel
theorem dX3_fewest_42 : decode cX3_fewest 42 = .ok (.istore 6, 2) := by decide +kernel
theorem dX3_fewest_44 : decode cX3_fewest 44 = .ok (.iload 6, 2) := by decide +kernel
theorem dX3_fewest_46 : decode cX3_fewest 46 = .ok (.iload 5, 2) := by decide +kernel
theorem dX3_fewest_48 : decode cX3_fewest 48 = .ok (.if_icmp .gt 38, 3) := by decide +kernel
theorem dX3_fewest_51 : decode cX3_fewest 51 = .ok (.aload_n 0, 1) := by decide +kernel
theorem dX3_fewest_52 : decode cX3_fewest 52 = .ok (.iconst 0, 1) := by decide +kernel
theorem dX3_fewest_53 : decode cX3_fewest 53 = .ok (.iload 6, 2) := by decide +kernel
theorem dX3_fewest_55 : decode cX3_fewest 55 = .ok (.iload 4, 2) := by decide +kernel
theorem dX3_fewest_57 : decode cX3_fewest 57 = .ok (.aload_n 1, 1) := by decide +kernel
theorem dX3_fewest_58 : decode cX3_fewest 58 = .ok (.getfield 32, 3) := by decide +kernel
theorem dX3_fewest_61 : decode cX3_fewest 61 = .ok (.aload_n 1, 1) := by decide +kernel
theorem dX3_fewest_62 : decode cX3_fewest 62 = .ok (.getfield 35, 3) := by decide +kernel
theorem dX3_fewest_65 : decode cX3_fewest 65 = .ok (.aload_n 1, 1) := by decide +kernel
theorem dX3_fewest_66 : decode cX3_fewest 66 = .ok (.getfield 87, 3) := by decide +kernel
theorem dX3_fewest_69 : decode cX3_fewest 69 = .ok (.iload_n 2, 1) := by decide +kernel
theorem dX3_fewest_70 : decode cX3_fewest 70 = .ok (.iaload, 1) := by decide +kernel
theorem dX3_fewest_71 : decode cX3_fewest 71 = .ok (.invokevirtual 90, 3) := by decide +kernel
theorem dX3_fewest_74 : decode cX3_fewest 74 = .ok (.ifCond .eq 6, 3) := by decide +kernel
theorem dX3_fewest_77 : decode cX3_fewest 77 = .ok (.iload 6, 2) := by decide +kernel
theorem dX3_fewest_79 : decode cX3_fewest 79 = .ok (.ireturn, 1) := by decide +kernel
theorem dX3_fewest_80 : decode cX3_fewest 80 = .ok (.iinc 6 1, 3) := by decide +kernel
theorem dX3_fewest_83 : decode cX3_fewest 83 = .ok (.goto (-39), 3) := by decide +kernel
theorem dX3_fewest_86 : decode cX3_fewest 86 = .ok (.bipush (-9), 2) := by decide +kernel
theorem dX3_fewest_88 : decode cX3_fewest 88 = .ok (.ireturn, 1) := by decide +kernel
set_option maxRecDepth 20000 in
theorem w_X3_fewest_b44 {w : zWd} {X : zX} {l0 : Launch} {r : Int32} {S1 : zMem} (C : zC LC w X l0 cX3_fewest RX3 7 12 (some .int)) {k44 : Int32 → Int32 → Int32 → Int32 → zMem → Option (Int32 × zMem)} (hc44 : ∀ (x2 : Int32) (x4 : Int32) (x5 : Int32) (x6 : Int32) (S : zMem) (ls : Array Slot), lv_has ls 7 [(0, .ref (w.2.2.1 60)), (1, .ref (w.2.2.1 35)), (2, .int x2), (4, .int x4), (5, .int x5), (6, .int x6)] → k44 x2 x4 x5 x6 S = some (r, S1) → zV LC w X (some (.int r)) S1 S 44 ls []) {x2 : Int32} {x4 : Int32} {x5 : Int32} {x6 : Int32} {S : zMem} {ls : Array Slot} (hl : lv_has ls 7 [(0, .ref (w.2.2.1 60)), (1, .ref (w.2.2.1 35)), (2, .int x2), (4, .int x4), (5, .int x5), (6, .int x6)]) (h : X3_fewest_b44 k44 x2 x4 x5 x6 S = some (r, S1)) : zV LC w X (some (.int r)) S1 S 44 ls [] := by
  unfold X3_fewest_b44 at h
  refine v_iload 44 C dX3_fewest_44 (lv_at hl 5 rfl) ?_
  refine v_iload 46 C dX3_fewest_46 (lv_at hl 4 rfl) ?_
  refine v_icmp_gt 48 86 C dX3_fewest_48 (by decide) h (fun h => ?_) (fun h => ?_)
  · refine v_bipush 86 C (v := (-9 : Int32)) dX3_fewest_86 (by decide) ?_
    exact v_ireturn 88 C dX3_fewest_88 h
  · refine v_aload_n 51 C dX3_fewest_51 rfl (lv_at hl 0 rfl) ?_
    refine v_iconst 52 C (v := (0 : Int32)) dX3_fewest_52 (by decide) ?_
    refine v_iload 53 C dX3_fewest_53 (lv_at hl 5 rfl) ?_
    refine v_iload 55 C dX3_fewest_55 (lv_at hl 3 rfl) ?_
    refine v_aload_n 57 C dX3_fewest_57 rfl (lv_at hl 1 rfl) ?_
    refine v_geti 58 C dX3_fewest_58 fl_X3_32 rfl kC_35 h (fun v1 h => ?_)
    refine v_aload_n 61 C dX3_fewest_61 rfl (lv_at hl 1 rfl) ?_
    refine v_geti 62 C dX3_fewest_62 fl_X3_35 rfl kC_35 h (fun v2 h => ?_)
    refine v_aload_n 65 C dX3_fewest_65 rfl (lv_at hl 1 rfl) ?_
    refine v_getr 66 (36) C dX3_fewest_66 fl_X3_87 rfl kC_35 rfl ?_
    refine v_iload_n 69 C dX3_fewest_69 rfl (lv_at hl 2 rfl) ?_
    refine v_iald 70 C dX3_fewest_70 kC_36 rfl h (fun v3 h => ?_)
    obtain ⟨v4, S, hc, h⟩ := zb_e h
    refine v_callVi 71 C (ci := 2) [] dX3_fewest_71 ml_X3_90 hy_X3_reaches (c_X3_reaches 8  hc) (by decide) rfl hl.1 kC_60 rfl (Nat.le_of_ble_eq_true rfl) rfl ?_
    refine v_if_eq 74 80 C dX3_fewest_74 (by decide) h (fun h => ?_) (fun h => ?_)
    · refine v_iinc 80 C (nn := (1 : Int32)) (fun v => [(6, .int v), (0, .ref (w.2.2.1 60)), (1, .ref (w.2.2.1 35)), (2, .int x2), (4, .int x4), (5, .int x5)]) dX3_fewest_80 hl (k := 5) rfl (by decide) (by decide) (fun _ => rfl) h (fun v5 ls hl h => ?_)
      refine v_goto 83 44 C dX3_fewest_83 (by decide) ?_
      exact hc44 _ _ _ _ _ _ (lv_sub hl [1, 2, 3, 4, 5, 0] rfl) h
    · refine v_iload 77 C dX3_fewest_77 (lv_at hl 5 rfl) ?_
      exact v_ireturn 79 C dX3_fewest_79 h
theorem w_X3_fewest_l44 {w : zWd} {X : zX} {l0 : Launch} {r : Int32} {S1 : zMem} (C : zC LC w X l0 cX3_fewest RX3 7 12 (some .int)) : ∀ (n : Nat) (x2 : Int32) (x4 : Int32) (x5 : Int32) (x6 : Int32) (S : zMem) (ls : Array Slot), lv_has ls 7 [(0, .ref (w.2.2.1 60)), (1, .ref (w.2.2.1 35)), (2, .int x2), (4, .int x4), (5, .int x5), (6, .int x6)] → X3_fewest_l44 n x2 x4 x5 x6 S = some (r, S1) → zV LC w X (some (.int r)) S1 S 44 ls [] := by
  intro n
  induction n with
  | zero =>
    intro x2 x4 x5 x6 S ls hl h
    cases (show (none : Option (Int32 × zMem)) = some _ from h)
  | succ n ih =>
    intro x2 x4 x5 x6 S ls hl h
    exact w_X3_fewest_b44 C ih hl h
set_option maxRecDepth 20000 in
theorem w_X3_fewest_b0 {w : zWd} {X : zX} {l0 : Launch} {r : Int32} {S1 : zMem} (C : zC LC w X l0 cX3_fewest RX3 7 12 (some .int)) {x2 : Int32} {x3 : Int32} {S : zMem} {ls : Array Slot} (hl : lv_has ls 7 [(0, .ref (w.2.2.1 60)), (1, .ref (w.2.2.1 35)), (2, .int x2), (3, .int x3)]) (h : X3_fewest_b0 x2 x3 S = some (r, S1)) : zV LC w X (some (.int r)) S1 S 0 ls [] := by
  unfold X3_fewest_b0 at h
  refine v_aload_n 0 C dX3_fewest_0 rfl (lv_at hl 0 rfl) ?_
  refine v_aload_n 1 C dX3_fewest_1 rfl (lv_at hl 1 rfl) ?_
  refine v_geti 2 C dX3_fewest_2 fl_X3_22 rfl kC_35 h (fun v1 h => ?_)
  refine v_puti 5 C dX3_fewest_5 fl_X3_28 fp_2_3 rfl kC_60 h (fun S h => ?_)
  refine v_aload_n 8 C dX3_fewest_8 rfl (lv_at hl 0 rfl) ?_
  refine v_iload_n 9 C dX3_fewest_9 rfl (lv_at hl 2 rfl) ?_
  refine v_puti 10 C dX3_fewest_10 fl_X3_68 fp_2_5 rfl kC_60 h (fun S h => ?_)
  refine v_aload_n 13 C dX3_fewest_13 rfl (lv_at hl 0 rfl) ?_
  refine v_iload_n 14 C dX3_fewest_14 rfl (lv_at hl 3 rfl) ?_
  refine v_puti 15 C dX3_fewest_15 fl_X3_71 fp_2_6 rfl kC_60 h (fun S h => ?_)
  refine v_aload_n 18 C dX3_fewest_18 rfl (lv_at hl 0 rfl) ?_
  refine v_getr 19 (24) C dX3_fewest_19 fl_X3_18 rfl kC_60 rfl ?_
  obtain ⟨v2, S, hc, h⟩ := zb_e h
  refine v_callVi 22 C (ci := 5) [] dX3_fewest_22 ml_X3_74 hy_X6_allLetters (c_X6_allLetters  hc) (by decide) rfl hl.1 kC_24 rfl (Nat.le_of_ble_eq_true rfl) rfl ?_
  refine v_aload_n 25 C dX3_fewest_25 rfl (lv_at hl 1 rfl) ?_
  refine v_geti 26 C dX3_fewest_26 fl_X3_78 rfl kC_35 h (fun v3 h => ?_)
  refine v_iconst 29 C (v := (-1 : Int32)) dX3_fewest_29 (by decide) ?_
  refine v_ixor 30 C dX3_fewest_30 h (fun v4 h => ?_)
  refine v_iand 31 C dX3_fewest_31 h (fun v5 h => ?_)
  refine v_istore 32 C [(4, .int v5), (0, .ref (w.2.2.1 60)), (1, .ref (w.2.2.1 35)), (2, .int x2), (3, .int x3)] dX3_fewest_32 hl (by decide) rfl (fun ls hl => ?_)
  refine v_iload 34 C dX3_fewest_34 (lv_at hl 0 rfl) ?_
  obtain ⟨v6, S, hc, h⟩ := zb_e h
  refine v_callSi 36 C [] dX3_fewest_36 ml_X3_81 hy_J6_bitCount_0f7a4 (c_J6_bitCount_0f7a4  hc) (by decide) rfl hl.1 (Nat.le_of_ble_eq_true rfl) rfl ?_
  refine v_istore 39 C [(5, .int v6), (4, .int v5), (0, .ref (w.2.2.1 60)), (1, .ref (w.2.2.1 35)), (2, .int x2), (3, .int x3)] dX3_fewest_39 hl (by decide) rfl (fun ls hl => ?_)
  refine v_iconst 41 C (v := (0 : Int32)) dX3_fewest_41 (by decide) ?_
  refine v_istore 42 C [(6, .int (0 : Int32)), (5, .int v6), (4, .int v5), (0, .ref (w.2.2.1 60)), (1, .ref (w.2.2.1 35)), (2, .int x2), (3, .int x3)] dX3_fewest_42 hl (by decide) rfl (fun ls hl => ?_)
  exact w_X3_fewest_l44 C zF _ _ _ _ _ _ (lv_sub hl [3, 4, 5, 2, 1, 0] rfl) h
theorem c_X3_fewest {w : zWd} {l0 : Launch} {x2 : Int32} {x3 : Int32} {S S1 : zMem} {r : Int32} (h : f_X3_fewest x2 x3 S = some (r, S1)) : zMet LC w l0 yX3_fewest cX3_fewest 7 (some .int) 12 [.ref (w.2.2.1 60), .ref (w.2.2.1 35), .int x2, .int x3] S (some (.int r)) S1 :=
  zMet_of (by decide +kernel) (Nat.le_of_ble_eq_true rfl) (fun X ls C hl => w_X3_fewest_b0 C hl h)
theorem ml_X8_256 : Cond.methodLink RX8 256 yX3_fewest ∈ zT := zT_of (List.mem_of_getElem? (i := 689) (by decide +kernel)) rfl
theorem hy_X3_fewest : zYv yX3_fewest cX3_fewest 7 (some .int) 3 := ⟨⟨zT_of (List.mem_of_getElem? (i := 692) (by decide +kernel)) rfl, zT_of (List.mem_of_getElem? (i := 74) (by decide +kernel)) rfl, by decide, by decide +kernel, by decide +kernel, by decide +kernel⟩, zT_of (List.mem_of_getElem? (i := 690) (by decide +kernel)) rfl, zT_of (List.mem_of_getElem? (i := 691) (by decide +kernel)) rfl⟩
theorem fl_X8_260 : zFL RX8 260 2 1 := ⟨_, rfl, by decide, zT_of (List.mem_of_getElem? (i := 228) (by decide +kernel)) rfl⟩
theorem dX8_plan_0 : decode cX8_plan 0 = .ok (.aload_n 0, 1) := by decide +kernel
theorem dX8_plan_1 : decode cX8_plan 1 = .ok (.iload_n 1, 1) := by decide +kernel
theorem dX8_plan_2 : decode cX8_plan 2 = .ok (.invokevirtual 149, 3) := by decide +kernel
theorem dX8_plan_5 : decode cX8_plan 5 = .ok (.ifCond .eq 19, 3) := by decide +kernel
theorem dX8_plan_8 : decode cX8_plan 8 = .ok (.iload_n 2, 1) := by decide +kernel
theorem dX8_plan_9 : decode cX8_plan 9 = .ok (.bipush 20, 2) := by decide +kernel
theorem dX8_plan_11 : decode cX8_plan 11 = .ok (.invokestatic 152, 3) := by decide +kernel
theorem dX8_plan_14 : decode cX8_plan 14 = .ok (.ifCond .eq 10, 3) := by decide +kernel
theorem dX8_plan_17 : decode cX8_plan 17 = .ok (.iload_n 3, 1) := by decide +kernel
theorem dX8_plan_18 : decode cX8_plan 18 = .ok (.invokestatic 80, 3) := by decide +kernel
theorem dX8_plan_21 : decode cX8_plan 21 = .ok (.ifCond .ne 5, 3) := by decide +kernel
theorem dX8_plan_24 : decode cX8_plan 24 = .ok (.iconst (-1), 1) := by decide +kernel
theorem dX8_plan_25 : decode cX8_plan 25 = .ok (.ireturn, 1) := by decide +kernel
theorem dX8_plan_26 : decode cX8_plan 26 = .ok (.aload_n 0, 1) := by decide +kernel
theorem dX8_plan_27 : decode cX8_plan 27 = .ok (.getfield 51, 3) := by decide +kernel
theorem dX8_plan_30 : decode cX8_plan 30 = .ok (.aload_n 0, 1) := by decide +kernel
theorem dX8_plan_31 : decode cX8_plan 31 = .ok (.getfield 37, 3) := by decide +kernel
theorem dX8_plan_34 : decode cX8_plan 34 = .ok (.iload_n 1, 1) := by decide +kernel
theorem dX8_plan_35 : decode cX8_plan 35 = .ok (.iload_n 2, 1) := by decide +kernel
theorem dX8_plan_36 : decode cX8_plan 36 = .ok (.invokevirtual 256, 3) := by decide +kernel
theorem dX8_plan_39 : decode cX8_plan 39 = .ok (.istore 4, 2) := by decide +kernel
theorem dX8_plan_41 : decode cX8_plan 41 = .ok (.iload 4, 2) := by decide +kernel
theorem dX8_plan_43 : decode cX8_plan 43 = .ok (.bipush (-9), 2) := by decide +kernel
theorem dX8_plan_45 : decode cX8_plan 45 = .ok (.if_icmp .eq 21, 3) := by decide +kernel
theorem dX8_plan_48 : decode cX8_plan 48 = .ok (.aload_n 0, 1) := by decide +kernel
theorem dX8_plan_49 : decode cX8_plan 49 = .ok (.getfield 11, 3) := by decide +kernel
theorem dX8_plan_52 : decode cX8_plan 52 = .ok (.iload_n 3, 1) := by decide +kernel
theorem dX8_plan_53 : decode cX8_plan 53 = .ok (.aaload, 1) := by decide +kernel
theorem dX8_plan_54 : decode cX8_plan 54 = .ok (.aload_n 0, 1) := by decide +kernel
theorem dX8_plan_55 : decode cX8_plan 55 = .ok (.getfield 51, 3) := by decide +kernel
theorem dX8_plan_58 : decode cX8_plan 58 = .ok (.getfield 260, 3) := by decide +kernel
theorem dX8_plan_61 : decode cX8_plan 61 = .ok (.iload 4, 2) := by decide +kernel
theorem dX8_plan_63 : decode cX8_plan 63 = .ok (.invokevirtual 252, 3) := by decide +kernel
theorem dX8_plan_66 : decode cX8_plan 66 = .ok (.iload 4, 2) := by decide +kernel
theorem dX8_plan_68 : decode cX8_plan 68 = .ok (.ireturn, 1) := by decide +kernel
set_option maxRecDepth 20000 in
theorem w_X8_plan_b24 {w : zWd} {X : zX} {l0 : Launch} {r : Int32} {S1 : zMem} (C : zC LC w X l0 cX8_plan RX8 5 13 (some .int)) {S : zMem} {ls : Array Slot} (hl : lv_has ls 5 []) (h : X8_plan_b24  S = some (r, S1)) : zV LC w X (some (.int r)) S1 S 24 ls [] := by
  unfold X8_plan_b24 at h
  refine v_iconst 24 C (v := (-1 : Int32)) dX8_plan_24 (by decide) ?_
  exact v_ireturn 25 C dX8_plan_25 h
set_option maxRecDepth 20000 in
theorem w_X8_plan_b66 {w : zWd} {X : zX} {l0 : Launch} {r : Int32} {S1 : zMem} (C : zC LC w X l0 cX8_plan RX8 5 13 (some .int)) {x4 : Int32} {S : zMem} {ls : Array Slot} (hl : lv_has ls 5 [(4, .int x4)]) (h : X8_plan_b66 x4 S = some (r, S1)) : zV LC w X (some (.int r)) S1 S 66 ls [] := by
  unfold X8_plan_b66 at h
  refine v_iload 66 C dX8_plan_66 (lv_at hl 0 rfl) ?_
  exact v_ireturn 68 C dX8_plan_68 h
set_option maxRecDepth 20000 in
theorem w_X8_plan_b0 {w : zWd} {X : zX} {l0 : Launch} {r : Int32} {S1 : zMem} (C : zC LC w X l0 cX8_plan RX8 5 13 (some .int)) {x1 : Int32} {x2 : Int32} {x3 : Int32} {S : zMem} {ls : Array Slot} (hl : lv_has ls 5 [(0, .ref (w.2.2.1 0)), (1, .int x1), (2, .int x2), (3, .int x3)]) (h : X8_plan_b0 x1 x2 x3 S = some (r, S1)) : zV LC w X (some (.int r)) S1 S 0 ls [] := by
  unfold X8_plan_b0 at h
  refine v_aload_n 0 C dX8_plan_0 rfl (lv_at hl 0 rfl) ?_
  refine v_iload_n 1 C dX8_plan_1 rfl (lv_at hl 1 rfl) ?_
  obtain ⟨v1, S, hc, h⟩ := zb_e h
  refine v_callVi 2 C (ci := 7) [] dX8_plan_2 ml_X8_149 hy_X8_isHouse (c_X8_isHouse  hc) (by decide) rfl hl.1 kC_0 rfl (Nat.le_of_ble_eq_true rfl) rfl ?_
  refine v_if_eq 5 24 C dX8_plan_5 (by decide) h (fun h => ?_) (fun h => ?_)
  · exact w_X8_plan_b24 C (lv_sub hl [] rfl) h
  · refine v_iload_n 8 C dX8_plan_8 rfl (lv_at hl 2 rfl) ?_
    refine v_bipush 9 C (v := (20 : Int32)) dX8_plan_9 (by decide) ?_
    obtain ⟨v2, S, hc, h⟩ := zb_e h
    refine v_callSi 11 C [] dX8_plan_11 ml_X8_152 hy_X8_within (c_X8_within  hc) (by decide) rfl hl.1 (Nat.le_of_ble_eq_true rfl) rfl ?_
    refine v_if_eq 14 24 C dX8_plan_14 (by decide) h (fun h => ?_) (fun h => ?_)
    · exact w_X8_plan_b24 C (lv_sub hl [] rfl) h
    · refine v_iload_n 17 C dX8_plan_17 rfl (lv_at hl 3 rfl) ?_
      obtain ⟨v3, S, hc, h⟩ := zb_e h
      refine v_callSi 18 C [] dX8_plan_18 ml_X8_80 hy_X8_isRow (c_X8_isRow  hc) (by decide) rfl hl.1 (Nat.le_of_ble_eq_true rfl) rfl ?_
      refine v_if_ne 21 26 C dX8_plan_21 (by decide) h (fun h => ?_) (fun h => ?_)
      · refine v_aload_n 26 C dX8_plan_26 rfl (lv_at hl 0 rfl) ?_
        refine v_getr 27 (60) C dX8_plan_27 fl_X8_51 rfl kC_0 rfl ?_
        refine v_aload_n 30 C dX8_plan_30 rfl (lv_at hl 0 rfl) ?_
        refine v_getr 31 (35) C dX8_plan_31 fl_X8_37 rfl kC_0 rfl ?_
        refine v_iload_n 34 C dX8_plan_34 rfl (lv_at hl 1 rfl) ?_
        refine v_iload_n 35 C dX8_plan_35 rfl (lv_at hl 2 rfl) ?_
        obtain ⟨v4, S, hc, h⟩ := zb_e h
        refine v_callVi 36 C (ci := 2) [] dX8_plan_36 ml_X8_256 hy_X3_fewest (c_X3_fewest  hc) (by decide) rfl hl.1 kC_60 rfl (Nat.le_of_ble_eq_true rfl) rfl ?_
        refine v_istore 39 C [(4, .int v4), (0, .ref (w.2.2.1 0)), (1, .int x1), (2, .int x2), (3, .int x3)] dX8_plan_39 hl (by decide) rfl (fun ls hl => ?_)
        refine v_iload 41 C dX8_plan_41 (lv_at hl 0 rfl) ?_
        refine v_bipush 43 C (v := (-9 : Int32)) dX8_plan_43 (by decide) ?_
        refine v_icmp_eq 45 66 C dX8_plan_45 (by decide) h (fun h => ?_) (fun h => ?_)
        · exact w_X8_plan_b66 C (lv_sub hl [0] rfl) h
        · refine v_aload_n 48 C dX8_plan_48 rfl (lv_at hl 1 rfl) ?_
          refine v_getr 49 (1) C dX8_plan_49 fl_X8_11 rfl kC_0 rfl ?_
          refine v_iload_n 52 C dX8_plan_52 rfl (lv_at hl 4 rfl) ?_
          refine v_aald 53 (4 + 2 * Int32.toNatClampNeg x3) C dX8_plan_53 kC_1 (Or.inl rfl) rfl rfl h (fun hz5 h => ?_)
          refine v_aload_n 54 C dX8_plan_54 rfl (lv_at hl 1 rfl) ?_
          refine v_getr 55 (60) C dX8_plan_55 fl_X8_51 rfl kC_0 rfl ?_
          refine v_getr 58 (61) C dX8_plan_58 fl_X8_260 rfl kC_60 rfl ?_
          refine v_iload 61 C dX8_plan_61 (lv_at hl 0 rfl) ?_
          obtain ⟨v6, S, hc, h⟩ := zb_e h
          refine v_callVv 63 C (ci := 6) [] dX8_plan_63 ml_X8_252 hy_X7_lieAs (c_X7_lieAs (kRow hz5) kC_61 hc) (by decide) rfl hl.1 (kRow hz5) rfl (Nat.le_of_ble_eq_true rfl) rfl ?_
          exact w_X8_plan_b66 C (lv_sub hl [0] rfl) h
      · exact w_X8_plan_b24 C (lv_sub hl [] rfl) h
theorem c_X8_plan {w : zWd} {l0 : Launch} {x1 : Int32} {x2 : Int32} {x3 : Int32} {S S1 : zMem} {r : Int32} (h : f_X8_plan x1 x2 x3 S = some (r, S1)) : zMet LC w l0 yX8_plan cX8_plan 5 (some .int) 13 [.ref (w.2.2.1 0), .int x1, .int x2, .int x3] S (some (.int r)) S1 :=
  zMet_of (by decide +kernel) (Nat.le_of_ble_eq_true rfl) (fun X ls C hl => w_X8_plan_b0 C hl h)
theorem dX8_wrongLetters_0 : decode cX8_wrongLetters 0 = .ok (.aload_n 1, 1) := by decide +kernel
theorem dX8_wrongLetters_1 : decode cX8_wrongLetters 1 = .ok (.invokevirtual 92, 3) := by decide +kernel
theorem dX8_wrongLetters_4 : decode cX8_wrongLetters 4 = .ok (.ifCond .ne 5, 3) := by decide +kernel
theorem dX8_wrongLetters_7 : decode cX8_wrongLetters 7 = .ok (.iconst 1, 1) := by decide +kernel
theorem dX8_wrongLetters_8 : decode cX8_wrongLetters 8 = .ok (.ireturn, 1) := by decide +kernel
theorem dX8_wrongLetters_9 : decode cX8_wrongLetters 9 = .ok (.aload_n 1, 1) := by decide +kernel
theorem dX8_wrongLetters_10 : decode cX8_wrongLetters 10 = .ok (.getfield 118, 3) := by decide +kernel
theorem dX8_wrongLetters_13 : decode cX8_wrongLetters 13 = .ok (.bipush 6, 2) := by decide +kernel
theorem dX8_wrongLetters_15 : decode cX8_wrongLetters 15 = .ok (.if_icmp .le 5, 3) := by decide +kernel
theorem dX8_wrongLetters_18 : decode cX8_wrongLetters 18 = .ok (.iconst 5, 1) := by decide +kernel
theorem dX8_wrongLetters_19 : decode cX8_wrongLetters 19 = .ok (.ireturn, 1) := by decide +kernel
theorem dX8_wrongLetters_20 : decode cX8_wrongLetters 20 = .ok (.iload_n 2, 1) := by decide +kernel
theorem dX8_wrongLetters_21 : decode cX8_wrongLetters 21 = .ok (.istore_n 3, 1) := by decide +kernel
theorem dX8_wrongLetters_22 : decode cX8_wrongLetters 22 = .ok (.iconst 0, 1) := by decide +kernel
theorem dX8_wrongLetters_23 : decode cX8_wrongLetters 23 = .ok (.istore 4, 2) := by decide +kernel
theorem dX8_wrongLetters_25 : decode cX8_wrongLetters 25 = .ok (.iload 4, 2) := by decide +kernel
theorem dX8_wrongLetters_27 : decode cX8_wrongLetters 27 = .ok (.aload_n 1, 1) := by decide +kernel
theorem dX8_wrongLetters_28 : decode cX8_wrongLetters 28 = .ok (.getfield 118, 3) := by decide +kernel
theorem dX8_wrongLetters_31 : decode cX8_wrongLetters 31 = .ok (.if_icmp .ge 45, 3) := by decide +kernel
theorem dX8_wrongLetters_34 : decode cX8_wrongLetters 34 = .ok (.aload_n 1, 1) := by decide +kernel
theorem dX8_wrongLetters_35 : decode cX8_wrongLetters 35 = .ok (.getfield 99, 3) := by decide +kernel
theorem dX8_wrongLetters_38 : decode cX8_wrongLetters 38 = .ok (.iload 4, 2) := by decide +kernel
theorem dX8_wrongLetters_40 : decode cX8_wrongLetters 40 = .ok (.iaload, 1) := by decide +kernel
theorem dX8_wrongLetters_41 : decode cX8_wrongLetters 41 = .ok (.istore 5, 2) := by decide +kernel
theorem dX8_wrongLetters_43 : decode cX8_wrongLetters 43 = .ok (.aload_n 0, 1) := by decide +kernel
theorem dX8_wrongLetters_44 : decode cX8_wrongLetters 44 = .ok (.iload 5, 2) := by decide +kernel
theorem dX8_wrongLetters_46 : decode cX8_wrongLetters 46 = .ok (.invokevirtual 159, 3) := by decide +kernel
theorem dX8_wrongLetters_49 : decode cX8_wrongLetters 49 = .ok (.ifCond .eq 12, 3) := by decide +kernel
theorem dX8_wrongLetters_52 : decode cX8_wrongLetters 52 = .ok (.iload_n 3, 1) := by decide +kernel
theorem dX8_wrongLetters_53 : decode cX8_wrongLetters 53 = .ok (.iload 5, 2) := by decide +kernel
theorem dX8_wrongLetters_55 : decode cX8_wrongLetters 55 = .ok (.ishr, 1) := by decide +kernel
theorem dX8_wrongLetters_56 : decode cX8_wrongLetters 56 = .ok (.iconst 1, 1) := by decide +kernel
theorem dX8_wrongLetters_57 : decode cX8_wrongLetters 57 = .ok (.iand, 1) := by decide +kernel
theorem dX8_wrongLetters_58 : decode cX8_wrongLetters 58 = .ok (.ifCond .eq 5, 3) := by decide +kernel
theorem dX8_wrongLetters_61 : decode cX8_wrongLetters 61 = .ok (.iconst 3, 1) := by decide +kernel
theorem dX8_wrongLetters_62 : decode cX8_wrongLetters 62 = .ok (.ireturn, 1) := by decide +kernel
theorem dX8_wrongLetters_63 : decode cX8_wrongLetters 63 = .ok (.iload_n 3, 1) := by decide +kernel
theorem dX8_wrongLetters_64 : decode cX8_wrongLetters 64 = .ok (.iconst 1, 1) := by decide +kernel
theorem dX8_wrongLetters_65 : decode cX8_wrongLetters 65 = .ok (.iload 5, 2) := by decide +kernel
theorem dX8_wrongLetters_67 : decode cX8_wrongLetters 67 = .ok (.ishl, 1) := by decide +kernel
theorem dX8_wrongLetters_68 : decode cX8_wrongLetters 68 = .ok (.ior, 1) := by decide +kernel
theorem dX8_wrongLetters_69 : decode cX8_wrongLetters 69 = .ok (.istore_n 3, 1) := by decide +kernel
theorem dX8_wrongLetters_70 : decode cX8_wrongLetters 70 = .ok (.iinc 4 1, 3) := by decide +kernel
theorem dX8_wrongLetters_73 : decode cX8_wrongLetters 73 = .ok (.goto (-48), 3) := by decide +kernel
theorem dX8_wrongLetters_76 : decode cX8_wrongLetters 76 = .ok (.iconst 0, 1) := by decide +kernel
theorem dX8_wrongLetters_77 : decode cX8_wrongLetters 77 = .ok (.ireturn, 1) := by decide +kernel
set_option maxRecDepth 20000 in
theorem w_X8_wrongLetters_b61 {w : zWd} {X : zX} {l0 : Launch} {r : Int32} {S1 : zMem} (C : zC LC w X l0 cX8_wrongLetters RX8 6 3 (some .int)) {S : zMem} {ls : Array Slot} (hl : lv_has ls 6 []) (h : X8_wrongLetters_b61  S = some (r, S1)) : zV LC w X (some (.int r)) S1 S 61 ls [] := by
  unfold X8_wrongLetters_b61 at h
  refine v_iconst 61 C (v := (3 : Int32)) dX8_wrongLetters_61 (by decide) ?_
  exact v_ireturn 62 C dX8_wrongLetters_62 h
set_option maxRecDepth 20000 in
theorem w_X8_wrongLetters_b25 {w : zWd} {X : zX} {l0 : Launch} {r : Int32} {S1 : zMem} (C : zC LC w X l0 cX8_wrongLetters RX8 6 3 (some .int)) {k25 : Nat → Int32 → Int32 → zMem → Option (Int32 × zMem)} (hc25 : ∀ (c1 : Nat) (x3 : Int32) (x4 : Int32) (S : zMem) (ls : Array Slot), lv_has ls 6 [(0, .ref (w.2.2.1 0)), (1, .ref (w.2.2.1 c1)), (3, .int x3), (4, .int x4)] → (c1 < LC.1 ∧ LC.2.1 c1 = 9) → k25 c1 x3 x4 S = some (r, S1) → zV LC w X (some (.int r)) S1 S 25 ls []) {c1 : Nat} {x3 : Int32} {x4 : Int32} {S : zMem} {ls : Array Slot} (hl : lv_has ls 6 [(0, .ref (w.2.2.1 0)), (1, .ref (w.2.2.1 c1)), (3, .int x3), (4, .int x4)]) (hk_c1 : c1 < LC.1 ∧ LC.2.1 c1 = 9) (h : X8_wrongLetters_b25 k25 c1 x3 x4 S = some (r, S1)) : zV LC w X (some (.int r)) S1 S 25 ls [] := by
  unfold X8_wrongLetters_b25 at h
  refine v_iload 25 C dX8_wrongLetters_25 (lv_at hl 3 rfl) ?_
  refine v_aload_n 27 C dX8_wrongLetters_27 rfl (lv_at hl 1 rfl) ?_
  refine v_geti 28 C dX8_wrongLetters_28 fl_X8_118 rfl hk_c1 h (fun v1 h => ?_)
  refine v_icmp_ge 31 76 C dX8_wrongLetters_31 (by decide) h (fun h => ?_) (fun h => ?_)
  · refine v_iconst 76 C (v := (0 : Int32)) dX8_wrongLetters_76 (by decide) ?_
    exact v_ireturn 77 C dX8_wrongLetters_77 h
  · refine v_aload_n 34 C dX8_wrongLetters_34 rfl (lv_at hl 1 rfl) ?_
    refine v_getr 35 (c1 + 1) C dX8_wrongLetters_35 fl_X8_99 rfl hk_c1 (rS1 hk_c1) ?_
    refine v_iload 38 C dX8_wrongLetters_38 (lv_at hl 3 rfl) ?_
    refine v_iald 40 C dX8_wrongLetters_40 (kS1 hk_c1) rfl h (fun v2 h => ?_)
    refine v_istore 41 C [(5, .int v2), (0, .ref (w.2.2.1 0)), (1, .ref (w.2.2.1 c1)), (3, .int x3), (4, .int x4)] dX8_wrongLetters_41 hl (by decide) rfl (fun ls hl => ?_)
    refine v_aload_n 43 C dX8_wrongLetters_43 rfl (lv_at hl 1 rfl) ?_
    refine v_iload 44 C dX8_wrongLetters_44 (lv_at hl 0 rfl) ?_
    obtain ⟨v3, S, hc, h⟩ := zb_e h
    refine v_callVi 46 C (ci := 7) [] dX8_wrongLetters_46 ml_X8_159 hy_X8_isLetter (c_X8_isLetter  hc) (by decide) rfl hl.1 kC_0 rfl (Nat.le_of_ble_eq_true rfl) rfl ?_
    refine v_if_eq 49 61 C dX8_wrongLetters_49 (by decide) h (fun h => ?_) (fun h => ?_)
    · exact w_X8_wrongLetters_b61 C (lv_sub hl [] rfl) h
    · refine v_iload_n 52 C dX8_wrongLetters_52 rfl (lv_at hl 3 rfl) ?_
      refine v_iload 53 C dX8_wrongLetters_53 (lv_at hl 0 rfl) ?_
      refine v_ishr 55 C dX8_wrongLetters_55 h (fun v4 h => ?_)
      refine v_iconst 56 C (v := (1 : Int32)) dX8_wrongLetters_56 (by decide) ?_
      refine v_iand 57 C dX8_wrongLetters_57 h (fun v5 h => ?_)
      refine v_if_eq 58 63 C dX8_wrongLetters_58 (by decide) h (fun h => ?_) (fun h => ?_)
      · refine v_iload_n 63 C dX8_wrongLetters_63 rfl (lv_at hl 3 rfl) ?_
        refine v_iconst 64 C (v := (1 : Int32)) dX8_wrongLetters_64 (by decide) ?_
        refine v_iload 65 C dX8_wrongLetters_65 (lv_at hl 0 rfl) ?_
        refine v_ishl 67 C dX8_wrongLetters_67 h (fun v6 h => ?_)
        refine v_ior 68 C dX8_wrongLetters_68 h (fun v7 h => ?_)
        refine v_istore_n 69 C [(3, .int v7), (5, .int v2), (0, .ref (w.2.2.1 0)), (1, .ref (w.2.2.1 c1)), (4, .int x4)] dX8_wrongLetters_69 rfl hl (by decide) rfl (fun ls hl => ?_)
        refine v_iinc 70 C (nn := (1 : Int32)) (fun v => [(4, .int v), (3, .int v7), (5, .int v2), (0, .ref (w.2.2.1 0)), (1, .ref (w.2.2.1 c1))]) dX8_wrongLetters_70 hl (k := 4) rfl (by decide) (by decide) (fun _ => rfl) h (fun v8 ls hl h => ?_)
        refine v_goto 73 25 C dX8_wrongLetters_73 (by decide) ?_
        exact hc25 _ _ _ _ _ (lv_sub hl [3, 4, 1, 0] rfl) hk_c1 h
      · exact w_X8_wrongLetters_b61 C (lv_sub hl [] rfl) h
theorem w_X8_wrongLetters_l25 {w : zWd} {X : zX} {l0 : Launch} {r : Int32} {S1 : zMem} (C : zC LC w X l0 cX8_wrongLetters RX8 6 3 (some .int)) : ∀ (n : Nat) (c1 : Nat) (x3 : Int32) (x4 : Int32) (S : zMem) (ls : Array Slot), lv_has ls 6 [(0, .ref (w.2.2.1 0)), (1, .ref (w.2.2.1 c1)), (3, .int x3), (4, .int x4)] → (c1 < LC.1 ∧ LC.2.1 c1 = 9) → X8_wrongLetters_l25 n c1 x3 x4 S = some (r, S1) → zV LC w X (some (.int r)) S1 S 25 ls [] := by
  intro n
  induction n with
  | zero =>
    intro c1 x3 x4 S ls hl hk_c1 h
    cases (show (none : Option (Int32 × zMem)) = some _ from h)
  | succ n ih =>
    intro c1 x3 x4 S ls hl hk_c1 h
    exact w_X8_wrongLetters_b25 C ih hl hk_c1 h
set_option maxRecDepth 20000 in
theorem w_X8_wrongLetters_b0 {w : zWd} {X : zX} {l0 : Launch} {r : Int32} {S1 : zMem} (C : zC LC w X l0 cX8_wrongLetters RX8 6 3 (some .int)) {c1 : Nat} {x2 : Int32} {S : zMem} {ls : Array Slot} (hl : lv_has ls 6 [(0, .ref (w.2.2.1 0)), (1, .ref (w.2.2.1 c1)), (2, .int x2)]) (hk_c1 : c1 < LC.1 ∧ LC.2.1 c1 = 9) (h : X8_wrongLetters_b0 c1 x2 S = some (r, S1)) : zV LC w X (some (.int r)) S1 S 0 ls [] := by
  unfold X8_wrongLetters_b0 at h
  refine v_aload_n 0 C dX8_wrongLetters_0 rfl (lv_at hl 1 rfl) ?_
  obtain ⟨v1, S, hc, h⟩ := zb_e h
  refine v_callVi 1 C (ci := 6) [] dX8_wrongLetters_1 ml_X8_92 hy_X7_isThere (c_X7_isThere hk_c1 hc) (by decide) rfl hl.1 hk_c1 rfl (Nat.le_of_ble_eq_true rfl) rfl ?_
  refine v_if_ne 4 9 C dX8_wrongLetters_4 (by decide) h (fun h => ?_) (fun h => ?_)
  · refine v_aload_n 9 C dX8_wrongLetters_9 rfl (lv_at hl 1 rfl) ?_
    refine v_geti 10 C dX8_wrongLetters_10 fl_X8_118 rfl hk_c1 h (fun v2 h => ?_)
    refine v_bipush 13 C (v := (6 : Int32)) dX8_wrongLetters_13 (by decide) ?_
    refine v_icmp_le 15 20 C dX8_wrongLetters_15 (by decide) h (fun h => ?_) (fun h => ?_)
    · refine v_iload_n 20 C dX8_wrongLetters_20 rfl (lv_at hl 2 rfl) ?_
      refine v_istore_n 21 C [(3, .int x2), (0, .ref (w.2.2.1 0)), (1, .ref (w.2.2.1 c1)), (2, .int x2)] dX8_wrongLetters_21 rfl hl (by decide) rfl (fun ls hl => ?_)
      refine v_iconst 22 C (v := (0 : Int32)) dX8_wrongLetters_22 (by decide) ?_
      refine v_istore 23 C [(4, .int (0 : Int32)), (3, .int x2), (0, .ref (w.2.2.1 0)), (1, .ref (w.2.2.1 c1)), (2, .int x2)] dX8_wrongLetters_23 hl (by decide) rfl (fun ls hl => ?_)
      exact w_X8_wrongLetters_l25 C zF _ _ _ _ _ (lv_sub hl [2, 3, 1, 0] rfl) hk_c1 h
    · refine v_iconst 18 C (v := (5 : Int32)) dX8_wrongLetters_18 (by decide) ?_
      exact v_ireturn 19 C dX8_wrongLetters_19 h
  · refine v_iconst 7 C (v := (1 : Int32)) dX8_wrongLetters_7 (by decide) ?_
    exact v_ireturn 8 C dX8_wrongLetters_8 h
theorem c_X8_wrongLetters {w : zWd} {l0 : Launch} {c1 : Nat} {x2 : Int32} {S S1 : zMem} {r : Int32} (hk_c1 : c1 < LC.1 ∧ LC.2.1 c1 = 9) (h : f_X8_wrongLetters c1 x2 S = some (r, S1)) : zMet LC w l0 yX8_wrongLetters cX8_wrongLetters 6 (some .int) 3 [.ref (w.2.2.1 0), .ref (w.2.2.1 c1), .int x2] S (some (.int r)) S1 :=
  zMet_of (by decide +kernel) (Nat.le_of_ble_eq_true rfl) (fun X ls C hl => w_X8_wrongLetters_b0 C hl hk_c1 h)
theorem fl_X8_41 : zFL RX8 41 7 5 := ⟨_, rfl, by decide, zT_of (List.mem_of_getElem? (i := 322) (by decide +kernel)) rfl⟩
theorem ml_X8_270 : Cond.methodLink RX8 270 yX4_deliver ∈ zT := zT_of (List.mem_of_getElem? (i := 709) (by decide +kernel)) rfl
theorem ml_X8_267 : Cond.methodLink RX8 267 yX4_beginDay ∈ zT := zT_of (List.mem_of_getElem? (i := 708) (by decide +kernel)) rfl
theorem ml_X8_263 : Cond.methodLink RX8 263 yX8_wrongLetters ∈ zT := zT_of (List.mem_of_getElem? (i := 704) (by decide +kernel)) rfl
theorem hy_X8_wrongLetters : zYv yX8_wrongLetters cX8_wrongLetters 6 (some .int) 2 := ⟨⟨zT_of (List.mem_of_getElem? (i := 707) (by decide +kernel)) rfl, zT_of (List.mem_of_getElem? (i := 70) (by decide +kernel)) rfl, by decide, by decide +kernel, by decide +kernel, by decide +kernel⟩, zT_of (List.mem_of_getElem? (i := 706) (by decide +kernel)) rfl, zT_of (List.mem_of_getElem? (i := 14) (by decide +kernel)) rfl⟩
theorem dX8_rest_0 : decode cX8_rest 0 = .ok (.aload_n 0, 1) := by decide +kernel
theorem dX8_rest_1 : decode cX8_rest 1 = .ok (.iload_n 1, 1) := by decide +kernel
theorem dX8_rest_2 : decode cX8_rest 2 = .ok (.invokevirtual 149, 3) := by decide +kernel
theorem dX8_rest_5 : decode cX8_rest 5 = .ok (.ifCond .eq 19, 3) := by decide +kernel
theorem dX8_rest_8 : decode cX8_rest 8 = .ok (.iload_n 2, 1) := by decide +kernel
theorem dX8_rest_9 : decode cX8_rest 9 = .ok (.bipush 20, 2) := by decide +kernel
theorem dX8_rest_11 : decode cX8_rest 11 = .ok (.invokestatic 152, 3) := by decide +kernel
theorem dX8_rest_14 : decode cX8_rest 14 = .ok (.ifCond .eq 10, 3) := by decide +kernel
theorem dX8_rest_17 : decode cX8_rest 17 = .ok (.iload_n 3, 1) := by decide +kernel
theorem dX8_rest_18 : decode cX8_rest 18 = .ok (.invokestatic 80, 3) := by decide +kernel
theorem dX8_rest_21 : decode cX8_rest 21 = .ok (.ifCond .ne 5, 3) := by decide +kernel
theorem dX8_rest_24 : decode cX8_rest 24 = .ok (.iconst (-1), 1) := by decide +kernel
theorem dX8_rest_25 : decode cX8_rest 25 = .ok (.ireturn, 1) := by decide +kernel
theorem dX8_rest_26 : decode cX8_rest 26 = .ok (.aload_n 0, 1) := by decide +kernel
theorem dX8_rest_27 : decode cX8_rest 27 = .ok (.getfield 11, 3) := by decide +kernel
theorem dX8_rest_30 : decode cX8_rest 30 = .ok (.iload_n 3, 1) := by decide +kernel
theorem dX8_rest_31 : decode cX8_rest 31 = .ok (.aaload, 1) := by decide +kernel
theorem dX8_rest_32 : decode cX8_rest 32 = .ok (.astore 4, 2) := by decide +kernel
theorem dX8_rest_34 : decode cX8_rest 34 = .ok (.aload_n 0, 1) := by decide +kernel
theorem dX8_rest_35 : decode cX8_rest 35 = .ok (.aload 4, 2) := by decide +kernel
theorem dX8_rest_37 : decode cX8_rest 37 = .ok (.iconst 0, 1) := by decide +kernel
theorem dX8_rest_38 : decode cX8_rest 38 = .ok (.invokevirtual 263, 3) := by decide +kernel
theorem dX8_rest_41 : decode cX8_rest 41 = .ok (.istore 5, 2) := by decide +kernel
theorem dX8_rest_43 : decode cX8_rest 43 = .ok (.iload 5, 2) := by decide +kernel
theorem dX8_rest_45 : decode cX8_rest 45 = .ok (.ifCond .eq 10, 3) := by decide +kernel
theorem dX8_rest_48 : decode cX8_rest 48 = .ok (.aload_n 0, 1) := by decide +kernel
theorem dX8_rest_49 : decode cX8_rest 49 = .ok (.iload 5, 2) := by decide +kernel
theorem dX8_rest_51 : decode cX8_rest 51 = .ok (.invokevirtual 84, 3) := by decide +kernel
theorem dX8_rest_54 : decode cX8_rest 54 = .ok (.ireturn, 1) := by decide +kernel
theorem dX8_rest_55 : decode cX8_rest 55 = .ok (.aload_n 0, 1) := by decide +kernel
theorem dX8_rest_56 : decode cX8_rest 56 = .ok (.getfield 41, 3) := by decide +kernel
theorem dX8_rest_59 : decode cX8_rest 59 = .ok (.aload_n 0, 1) := by decide +kernel
theorem dX8_rest_60 : decode cX8_rest 60 = .ok (.getfield 37, 3) := by decide +kernel
theorem dX8_rest_63 : decode cX8_rest 63 = .ok (.invokevirtual 219, 3) := by decide +kernel
theorem dX8_rest_66 : decode cX8_rest 66 = .ok (.iconst 0, 1) := by decide +kernel
theorem dX8_rest_67 : decode cX8_rest 67 = .ok (.istore 6, 2) := by decide +kernel
theorem dX8_rest_69 : decode cX8_rest 69 = .ok (.iload 6, 2) := by decide +kernel
theorem dX8_rest_71 : decode cX8_rest 71 = .ok (.iload_n 2, 1) := by decide +kernel
theorem dX8_rest_72 : decode cX8_rest 72 = .ok (.if_icmp .ge 50, 3) := by decide +kernel
theorem dX8_rest_75 : decode cX8_rest 75 = .ok (.aload_n 0, 1) := by decide +kernel
theorem dX8_rest_76 : decode cX8_rest 76 = .ok (.getfield 41, 3) := by decide +kernel
theorem dX8_rest_79 : decode cX8_rest 79 = .ok (.invokevirtual 267, 3) := by decide +kernel
theorem dX8_rest_82 : decode cX8_rest 82 = .ok (.iconst 0, 1) := by decide +kernel
theorem dX8_rest_83 : decode cX8_rest 83 = .ok (.istore 7, 2) := by decide +kernel
theorem dX8_rest_85 : decode cX8_rest 85 = .ok (.iload 7, 2) := by decide +kernel
theorem dX8_rest_87 : decode cX8_rest 87 = .ok (.aload 4, 2) := by decide +kernel
theorem dX8_rest_89 : decode cX8_rest 89 = .ok (.getfield 118, 3) := by decide +kernel
theorem dX8_rest_92 : decode cX8_rest 92 = .ok (.if_icmp .ge 24, 3) := by decide +kernel
theorem dX8_rest_95 : decode cX8_rest 95 = .ok (.aload_n 0, 1) := by decide +kernel
theorem dX8_rest_96 : decode cX8_rest 96 = .ok (.getfield 41, 3) := by decide +kernel
theorem dX8_rest_99 : decode cX8_rest 99 = .ok (.aload 4, 2) := by decide +kernel
theorem dX8_rest_101 : decode cX8_rest 101 = .ok (.getfield 99, 3) := by decide +kernel
theorem dX8_rest_104 : decode cX8_rest 104 = .ok (.iload 7, 2) := by decide +kernel
theorem dX8_rest_106 : decode cX8_rest 106 = .ok (.iaload, 1) := by decide +kernel
theorem dX8_rest_107 : decode cX8_rest 107 = .ok (.invokevirtual 270, 3) := by decide +kernel
theorem dX8_rest_110 : decode cX8_rest 110 = .ok (.iinc 7 1, 3) := by decide +kernel
theorem dX8_rest_113 : decode cX8_rest 113 = .ok (.goto (-28), 3) := by decide +kernel
theorem dX8_rest_116 : decode cX8_rest 116 = .ok (.iinc 6 1, 3) := by decide +kernel
theorem dX8_rest_119 : decode cX8_rest 119 = .ok (.goto (-50), 3) := by decide +kernel
theorem dX8_rest_122 : decode cX8_rest 122 = .ok (.aload_n 0, 1) := by decide +kernel
theorem dX8_rest_123 : decode cX8_rest 123 = .ok (.getfield 41, 3) := by decide +kernel
theorem dX8_rest_126 : decode cX8_rest 126 = .ok (.getfield 233, 3) := by decide +kernel
theorem dX8_rest_129 : decode cX8_rest 129 = .ok (.iload_n 1, 1) := by decide +kernel
theorem dX8_rest_130 : decode cX8_rest 130 = .ok (.iaload, 1) := by decide +kernel
theorem dX8_rest_131 : decode cX8_rest 131 = .ok (.ireturn, 1) := by decide +kernel
set_option maxRecDepth 20000 in
theorem w_X8_rest_b24 {w : zWd} {X : zX} {l0 : Launch} {r : Int32} {S1 : zMem} (C : zC LC w X l0 cX8_rest RX8 8 4 (some .int)) {S : zMem} {ls : Array Slot} (hl : lv_has ls 8 []) (h : X8_rest_b24  S = some (r, S1)) : zV LC w X (some (.int r)) S1 S 24 ls [] := by
  unfold X8_rest_b24 at h
  refine v_iconst 24 C (v := (-1 : Int32)) dX8_rest_24 (by decide) ?_
  exact v_ireturn 25 C dX8_rest_25 h
set_option maxRecDepth 20000 in
theorem w_X8_rest_b85 {w : zWd} {X : zX} {l0 : Launch} {r : Int32} {S1 : zMem} (C : zC LC w X l0 cX8_rest RX8 8 4 (some .int)) {k69 : Int32 → Int32 → Nat → Int32 → zMem → Option (Int32 × zMem)} {k85 : Int32 → Int32 → Nat → Int32 → Int32 → zMem → Option (Int32 × zMem)} (hc69 : ∀ (x1 : Int32) (x2 : Int32) (c4 : Nat) (x6 : Int32) (S : zMem) (ls : Array Slot), lv_has ls 8 [(0, .ref (w.2.2.1 0)), (1, .int x1), (2, .int x2), (4, .ref (w.2.2.1 c4)), (6, .int x6)] → (c4 < LC.1 ∧ LC.2.1 c4 = 9) → k69 x1 x2 c4 x6 S = some (r, S1) → zV LC w X (some (.int r)) S1 S 69 ls []) (hc85 : ∀ (x1 : Int32) (x2 : Int32) (c4 : Nat) (x6 : Int32) (x7 : Int32) (S : zMem) (ls : Array Slot), lv_has ls 8 [(0, .ref (w.2.2.1 0)), (1, .int x1), (2, .int x2), (4, .ref (w.2.2.1 c4)), (6, .int x6), (7, .int x7)] → (c4 < LC.1 ∧ LC.2.1 c4 = 9) → k85 x1 x2 c4 x6 x7 S = some (r, S1) → zV LC w X (some (.int r)) S1 S 85 ls []) {x1 : Int32} {x2 : Int32} {c4 : Nat} {x6 : Int32} {x7 : Int32} {S : zMem} {ls : Array Slot} (hl : lv_has ls 8 [(0, .ref (w.2.2.1 0)), (1, .int x1), (2, .int x2), (4, .ref (w.2.2.1 c4)), (6, .int x6), (7, .int x7)]) (hk_c4 : c4 < LC.1 ∧ LC.2.1 c4 = 9) (h : X8_rest_b85 k69 k85 x1 x2 c4 x6 x7 S = some (r, S1)) : zV LC w X (some (.int r)) S1 S 85 ls [] := by
  unfold X8_rest_b85 at h
  refine v_iload 85 C dX8_rest_85 (lv_at hl 5 rfl) ?_
  refine v_aload 87 C dX8_rest_87 (lv_at hl 3 rfl) ?_
  refine v_geti 89 C dX8_rest_89 fl_X8_118 rfl hk_c4 h (fun v1 h => ?_)
  refine v_icmp_ge 92 116 C dX8_rest_92 (by decide) h (fun h => ?_) (fun h => ?_)
  · refine v_iinc 116 C (nn := (1 : Int32)) (fun v => [(6, .int v), (0, .ref (w.2.2.1 0)), (1, .int x1), (2, .int x2), (4, .ref (w.2.2.1 c4)), (7, .int x7)]) dX8_rest_116 hl (k := 4) rfl (by decide) (by decide) (fun _ => rfl) h (fun v2 ls hl h => ?_)
    refine v_goto 119 69 C dX8_rest_119 (by decide) ?_
    exact hc69 _ _ _ _ _ _ (lv_sub hl [1, 2, 3, 4, 0] rfl) hk_c4 h
  · refine v_aload_n 95 C dX8_rest_95 rfl (lv_at hl 0 rfl) ?_
    refine v_getr 96 (40) C dX8_rest_96 fl_X8_41 rfl kC_0 rfl ?_
    refine v_aload 99 C dX8_rest_99 (lv_at hl 3 rfl) ?_
    refine v_getr 101 (c4 + 1) C dX8_rest_101 fl_X8_99 rfl hk_c4 (rS1 hk_c4) ?_
    refine v_iload 104 C dX8_rest_104 (lv_at hl 5 rfl) ?_
    refine v_iald 106 C dX8_rest_106 (kS1 hk_c4) rfl h (fun v3 h => ?_)
    obtain ⟨v4, S, hc, h⟩ := zb_e h
    refine v_callVv 107 C (ci := 3) [] dX8_rest_107 ml_X8_270 hy_X4_deliver (c_X4_deliver kC_40 hc) (by decide) rfl hl.1 kC_40 rfl (Nat.le_of_ble_eq_true rfl) rfl ?_
    refine v_iinc 110 C (nn := (1 : Int32)) (fun v => [(7, .int v), (0, .ref (w.2.2.1 0)), (1, .int x1), (2, .int x2), (4, .ref (w.2.2.1 c4)), (6, .int x6)]) dX8_rest_110 hl (k := 5) rfl (by decide) (by decide) (fun _ => rfl) h (fun v5 ls hl h => ?_)
    refine v_goto 113 85 C dX8_rest_113 (by decide) ?_
    exact hc85 _ _ _ _ _ _ _ (lv_sub hl [1, 2, 3, 4, 5, 0] rfl) hk_c4 h
theorem w_X8_rest_l85 {w : zWd} {X : zX} {l0 : Launch} {r : Int32} {S1 : zMem} (C : zC LC w X l0 cX8_rest RX8 8 4 (some .int)) {k69 : Int32 → Int32 → Nat → Int32 → zMem → Option (Int32 × zMem)} (hc69 : ∀ (x1 : Int32) (x2 : Int32) (c4 : Nat) (x6 : Int32) (S : zMem) (ls : Array Slot), lv_has ls 8 [(0, .ref (w.2.2.1 0)), (1, .int x1), (2, .int x2), (4, .ref (w.2.2.1 c4)), (6, .int x6)] → (c4 < LC.1 ∧ LC.2.1 c4 = 9) → k69 x1 x2 c4 x6 S = some (r, S1) → zV LC w X (some (.int r)) S1 S 69 ls []) : ∀ (n : Nat) (x1 : Int32) (x2 : Int32) (c4 : Nat) (x6 : Int32) (x7 : Int32) (S : zMem) (ls : Array Slot), lv_has ls 8 [(0, .ref (w.2.2.1 0)), (1, .int x1), (2, .int x2), (4, .ref (w.2.2.1 c4)), (6, .int x6), (7, .int x7)] → (c4 < LC.1 ∧ LC.2.1 c4 = 9) → X8_rest_l85 k69 n x1 x2 c4 x6 x7 S = some (r, S1) → zV LC w X (some (.int r)) S1 S 85 ls [] := by
  intro n
  induction n with
  | zero =>
    intro x1 x2 c4 x6 x7 S ls hl hk_c4 h
    cases (show (none : Option (Int32 × zMem)) = some _ from h)
  | succ n ih =>
    intro x1 x2 c4 x6 x7 S ls hl hk_c4 h
    exact w_X8_rest_b85 C hc69 ih hl hk_c4 h
set_option maxRecDepth 20000 in
theorem w_X8_rest_b69 {w : zWd} {X : zX} {l0 : Launch} {r : Int32} {S1 : zMem} (C : zC LC w X l0 cX8_rest RX8 8 4 (some .int)) {k69 : Int32 → Int32 → Nat → Int32 → zMem → Option (Int32 × zMem)} (hc69 : ∀ (x1 : Int32) (x2 : Int32) (c4 : Nat) (x6 : Int32) (S : zMem) (ls : Array Slot), lv_has ls 8 [(0, .ref (w.2.2.1 0)), (1, .int x1), (2, .int x2), (4, .ref (w.2.2.1 c4)), (6, .int x6)] → (c4 < LC.1 ∧ LC.2.1 c4 = 9) → k69 x1 x2 c4 x6 S = some (r, S1) → zV LC w X (some (.int r)) S1 S 69 ls []) {x1 : Int32} {x2 : Int32} {c4 : Nat} {x6 : Int32} {S : zMem} {ls : Array Slot} (hl : lv_has ls 8 [(0, .ref (w.2.2.1 0)), (1, .int x1), (2, .int x2), (4, .ref (w.2.2.1 c4)), (6, .int x6)]) (hk_c4 : c4 < LC.1 ∧ LC.2.1 c4 = 9) (h : X8_rest_b69 k69 x1 x2 c4 x6 S = some (r, S1)) : zV LC w X (some (.int r)) S1 S 69 ls [] := by
  unfold X8_rest_b69 at h
  refine v_iload 69 C dX8_rest_69 (lv_at hl 4 rfl) ?_
  refine v_iload_n 71 C dX8_rest_71 rfl (lv_at hl 2 rfl) ?_
  refine v_icmp_ge 72 122 C dX8_rest_72 (by decide) h (fun h => ?_) (fun h => ?_)
  · refine v_aload_n 122 C dX8_rest_122 rfl (lv_at hl 0 rfl) ?_
    refine v_getr 123 (40) C dX8_rest_123 fl_X8_41 rfl kC_0 rfl ?_
    refine v_getr 126 (41) C dX8_rest_126 fl_X8_233 rfl kC_40 rfl ?_
    refine v_iload_n 129 C dX8_rest_129 rfl (lv_at hl 1 rfl) ?_
    refine v_iald 130 C dX8_rest_130 kC_41 rfl h (fun v1 h => ?_)
    exact v_ireturn 131 C dX8_rest_131 h
  · refine v_aload_n 75 C dX8_rest_75 rfl (lv_at hl 0 rfl) ?_
    refine v_getr 76 (40) C dX8_rest_76 fl_X8_41 rfl kC_0 rfl ?_
    obtain ⟨v2, S, hc, h⟩ := zb_e h
    refine v_callVv 79 C (ci := 3) [] dX8_rest_79 ml_X8_267 hy_X4_beginDay (c_X4_beginDay kC_40 hc) (by decide) rfl hl.1 kC_40 rfl (Nat.le_of_ble_eq_true rfl) rfl ?_
    refine v_iconst 82 C (v := (0 : Int32)) dX8_rest_82 (by decide) ?_
    refine v_istore 83 C [(7, .int (0 : Int32)), (0, .ref (w.2.2.1 0)), (1, .int x1), (2, .int x2), (4, .ref (w.2.2.1 c4)), (6, .int x6)] dX8_rest_83 hl (by decide) rfl (fun ls hl => ?_)
    exact w_X8_rest_l85 C hc69 zF _ _ _ _ _ _ _ (lv_sub hl [1, 2, 3, 4, 5, 0] rfl) hk_c4 h
theorem w_X8_rest_l69 {w : zWd} {X : zX} {l0 : Launch} {r : Int32} {S1 : zMem} (C : zC LC w X l0 cX8_rest RX8 8 4 (some .int)) : ∀ (n : Nat) (x1 : Int32) (x2 : Int32) (c4 : Nat) (x6 : Int32) (S : zMem) (ls : Array Slot), lv_has ls 8 [(0, .ref (w.2.2.1 0)), (1, .int x1), (2, .int x2), (4, .ref (w.2.2.1 c4)), (6, .int x6)] → (c4 < LC.1 ∧ LC.2.1 c4 = 9) → X8_rest_l69 n x1 x2 c4 x6 S = some (r, S1) → zV LC w X (some (.int r)) S1 S 69 ls [] := by
  intro n
  induction n with
  | zero =>
    intro x1 x2 c4 x6 S ls hl hk_c4 h
    cases (show (none : Option (Int32 × zMem)) = some _ from h)
  | succ n ih =>
    intro x1 x2 c4 x6 S ls hl hk_c4 h
    exact w_X8_rest_b69 C ih hl hk_c4 h
set_option maxRecDepth 20000 in
theorem w_X8_rest_b0 {w : zWd} {X : zX} {l0 : Launch} {r : Int32} {S1 : zMem} (C : zC LC w X l0 cX8_rest RX8 8 4 (some .int)) {x1 : Int32} {x2 : Int32} {x3 : Int32} {S : zMem} {ls : Array Slot} (hl : lv_has ls 8 [(0, .ref (w.2.2.1 0)), (1, .int x1), (2, .int x2), (3, .int x3)]) (h : X8_rest_b0 x1 x2 x3 S = some (r, S1)) : zV LC w X (some (.int r)) S1 S 0 ls [] := by
  unfold X8_rest_b0 at h
  refine v_aload_n 0 C dX8_rest_0 rfl (lv_at hl 0 rfl) ?_
  refine v_iload_n 1 C dX8_rest_1 rfl (lv_at hl 1 rfl) ?_
  obtain ⟨v1, S, hc, h⟩ := zb_e h
  refine v_callVi 2 C (ci := 7) [] dX8_rest_2 ml_X8_149 hy_X8_isHouse (c_X8_isHouse  hc) (by decide) rfl hl.1 kC_0 rfl (Nat.le_of_ble_eq_true rfl) rfl ?_
  refine v_if_eq 5 24 C dX8_rest_5 (by decide) h (fun h => ?_) (fun h => ?_)
  · exact w_X8_rest_b24 C (lv_sub hl [] rfl) h
  · refine v_iload_n 8 C dX8_rest_8 rfl (lv_at hl 2 rfl) ?_
    refine v_bipush 9 C (v := (20 : Int32)) dX8_rest_9 (by decide) ?_
    obtain ⟨v2, S, hc, h⟩ := zb_e h
    refine v_callSi 11 C [] dX8_rest_11 ml_X8_152 hy_X8_within (c_X8_within  hc) (by decide) rfl hl.1 (Nat.le_of_ble_eq_true rfl) rfl ?_
    refine v_if_eq 14 24 C dX8_rest_14 (by decide) h (fun h => ?_) (fun h => ?_)
    · exact w_X8_rest_b24 C (lv_sub hl [] rfl) h
    · refine v_iload_n 17 C dX8_rest_17 rfl (lv_at hl 3 rfl) ?_
      obtain ⟨v3, S, hc, h⟩ := zb_e h
      refine v_callSi 18 C [] dX8_rest_18 ml_X8_80 hy_X8_isRow (c_X8_isRow  hc) (by decide) rfl hl.1 (Nat.le_of_ble_eq_true rfl) rfl ?_
      refine v_if_ne 21 26 C dX8_rest_21 (by decide) h (fun h => ?_) (fun h => ?_)
      · refine v_aload_n 26 C dX8_rest_26 rfl (lv_at hl 0 rfl) ?_
        refine v_getr 27 (1) C dX8_rest_27 fl_X8_11 rfl kC_0 rfl ?_
        refine v_iload_n 30 C dX8_rest_30 rfl (lv_at hl 3 rfl) ?_
        refine v_aald 31 (4 + 2 * Int32.toNatClampNeg x3) C dX8_rest_31 kC_1 (Or.inl rfl) rfl rfl h (fun hz4 h => ?_)
        refine v_astore 32 C [(4, .ref (w.2.2.1 (4 + 2 * Int32.toNatClampNeg x3))), (0, .ref (w.2.2.1 0)), (1, .int x1), (2, .int x2), (3, .int x3)] dX8_rest_32 hl (by decide) rfl (fun ls hl => ?_)
        refine v_aload_n 34 C dX8_rest_34 rfl (lv_at hl 1 rfl) ?_
        refine v_aload 35 C dX8_rest_35 (lv_at hl 0 rfl) ?_
        refine v_iconst 37 C (v := (0 : Int32)) dX8_rest_37 (by decide) ?_
        obtain ⟨v5, S, hc, h⟩ := zb_e h
        refine v_callVi 38 C (ci := 7) [] dX8_rest_38 ml_X8_263 hy_X8_wrongLetters (c_X8_wrongLetters (kRow hz4) hc) (by decide) rfl hl.1 kC_0 rfl (Nat.le_of_ble_eq_true rfl) rfl ?_
        refine v_istore 41 C [(5, .int v5), (4, .ref (w.2.2.1 (4 + 2 * Int32.toNatClampNeg x3))), (0, .ref (w.2.2.1 0)), (1, .int x1), (2, .int x2), (3, .int x3)] dX8_rest_41 hl (by decide) rfl (fun ls hl => ?_)
        refine v_iload 43 C dX8_rest_43 (lv_at hl 0 rfl) ?_
        refine v_if_eq 45 55 C dX8_rest_45 (by decide) h (fun h => ?_) (fun h => ?_)
        · refine v_aload_n 55 C dX8_rest_55 rfl (lv_at hl 2 rfl) ?_
          refine v_getr 56 (40) C dX8_rest_56 fl_X8_41 rfl kC_0 rfl ?_
          refine v_aload_n 59 C dX8_rest_59 rfl (lv_at hl 2 rfl) ?_
          refine v_getr 60 (35) C dX8_rest_60 fl_X8_37 rfl kC_0 rfl ?_
          obtain ⟨v6, S, hc, h⟩ := zb_e h
          refine v_callVv 63 C (ci := 3) [] dX8_rest_63 ml_X8_219 hy_X4_become (c_X4_become kC_40 kC_35 hc) (by decide) rfl hl.1 kC_40 rfl (Nat.le_of_ble_eq_true rfl) rfl ?_
          refine v_iconst 66 C (v := (0 : Int32)) dX8_rest_66 (by decide) ?_
          refine v_istore 67 C [(6, .int (0 : Int32)), (5, .int v5), (4, .ref (w.2.2.1 (4 + 2 * Int32.toNatClampNeg x3))), (0, .ref (w.2.2.1 0)), (1, .int x1), (2, .int x2), (3, .int x3)] dX8_rest_67 hl (by decide) rfl (fun ls hl => ?_)
          exact w_X8_rest_l69 C zF _ _ _ _ _ _ (lv_sub hl [3, 4, 5, 2, 0] rfl) (kRow hz4) h
        · refine v_aload_n 48 C dX8_rest_48 rfl (lv_at hl 2 rfl) ?_
          refine v_iload 49 C dX8_rest_49 (lv_at hl 0 rfl) ?_
          obtain ⟨v7, S, hc, h⟩ := zb_e h
          refine v_callVi 51 C (ci := 7) [] dX8_rest_51 ml_X8_84 hy_X8_refuse (c_X8_refuse  hc) (by decide) rfl hl.1 kC_0 rfl (Nat.le_of_ble_eq_true rfl) rfl ?_
          exact v_ireturn 54 C dX8_rest_54 h
      · exact w_X8_rest_b24 C (lv_sub hl [] rfl) h
theorem c_X8_rest {w : zWd} {l0 : Launch} {x1 : Int32} {x2 : Int32} {x3 : Int32} {S S1 : zMem} {r : Int32} (h : f_X8_rest x1 x2 x3 S = some (r, S1)) : zMet LC w l0 yX8_rest cX8_rest 8 (some .int) 4 [.ref (w.2.2.1 0), .int x1, .int x2, .int x3] S (some (.int r)) S1 :=
  zMet_of (by decide +kernel) (Nat.le_of_ble_eq_true rfl) (fun X ls C hl => w_X8_rest_b0 C hl h)
theorem dX8_wrongPairs_0 : decode cX8_wrongPairs 0 = .ok (.aload_n 0, 1) := by decide +kernel
theorem dX8_wrongPairs_1 : decode cX8_wrongPairs 1 = .ok (.invokevirtual 92, 3) := by decide +kernel
theorem dX8_wrongPairs_4 : decode cX8_wrongPairs 4 = .ok (.ifCond .ne 5, 3) := by decide +kernel
theorem dX8_wrongPairs_7 : decode cX8_wrongPairs 7 = .ok (.iconst 1, 1) := by decide +kernel
theorem dX8_wrongPairs_8 : decode cX8_wrongPairs 8 = .ok (.ireturn, 1) := by decide +kernel
theorem dX8_wrongPairs_9 : decode cX8_wrongPairs 9 = .ok (.aload_n 0, 1) := by decide +kernel
theorem dX8_wrongPairs_10 : decode cX8_wrongPairs 10 = .ok (.getfield 118, 3) := by decide +kernel
theorem dX8_wrongPairs_13 : decode cX8_wrongPairs 13 = .ok (.bipush 16, 2) := by decide +kernel
theorem dX8_wrongPairs_15 : decode cX8_wrongPairs 15 = .ok (.if_icmp .gt 12, 3) := by decide +kernel
theorem dX8_wrongPairs_18 : decode cX8_wrongPairs 18 = .ok (.aload_n 0, 1) := by decide +kernel
theorem dX8_wrongPairs_19 : decode cX8_wrongPairs 19 = .ok (.getfield 118, 3) := by decide +kernel
theorem dX8_wrongPairs_22 : decode cX8_wrongPairs 22 = .ok (.iconst 2, 1) := by decide +kernel
theorem dX8_wrongPairs_23 : decode cX8_wrongPairs 23 = .ok (.irem, 1) := by decide +kernel
theorem dX8_wrongPairs_24 : decode cX8_wrongPairs 24 = .ok (.ifCond .eq 5, 3) := by decide +kernel
theorem dX8_wrongPairs_27 : decode cX8_wrongPairs 27 = .ok (.iconst 5, 1) := by decide +kernel
theorem dX8_wrongPairs_28 : decode cX8_wrongPairs 28 = .ok (.ireturn, 1) := by decide +kernel
theorem dX8_wrongPairs_29 : decode cX8_wrongPairs 29 = .ok (.iconst 0, 1) := by decide +kernel
theorem dX8_wrongPairs_30 : decode cX8_wrongPairs 30 = .ok (.istore_n 1, 1) := by decide +kernel
theorem dX8_wrongPairs_31 : decode cX8_wrongPairs 31 = .ok (.iload_n 1, 1) := by decide +kernel
theorem dX8_wrongPairs_32 : decode cX8_wrongPairs 32 = .ok (.aload_n 0, 1) := by decide +kernel
theorem dX8_wrongPairs_33 : decode cX8_wrongPairs 33 = .ok (.getfield 118, 3) := by decide +kernel
theorem dX8_wrongPairs_36 : decode cX8_wrongPairs 36 = .ok (.if_icmp .ge 25, 3) := by decide +kernel
theorem dX8_wrongPairs_39 : decode cX8_wrongPairs 39 = .ok (.aload_n 0, 1) := by decide +kernel
theorem dX8_wrongPairs_40 : decode cX8_wrongPairs 40 = .ok (.getfield 99, 3) := by decide +kernel
theorem dX8_wrongPairs_43 : decode cX8_wrongPairs 43 = .ok (.iload_n 1, 1) := by decide +kernel
theorem dX8_wrongPairs_44 : decode cX8_wrongPairs 44 = .ok (.iaload, 1) := by decide +kernel
theorem dX8_wrongPairs_45 : decode cX8_wrongPairs 45 = .ok (.bipush 9, 2) := by decide +kernel
theorem dX8_wrongPairs_47 : decode cX8_wrongPairs 47 = .ok (.invokestatic 152, 3) := by decide +kernel
theorem dX8_wrongPairs_50 : decode cX8_wrongPairs 50 = .ok (.ifCond .ne 5, 3) := by decide +kernel
theorem dX8_wrongPairs_53 : decode cX8_wrongPairs 53 = .ok (.iconst 3, 1) := by decide +kernel
theorem dX8_wrongPairs_54 : decode cX8_wrongPairs 54 = .ok (.ireturn, 1) := by decide +kernel
theorem dX8_wrongPairs_55 : decode cX8_wrongPairs 55 = .ok (.iinc 1 1, 3) := by decide +kernel
theorem dX8_wrongPairs_58 : decode cX8_wrongPairs 58 = .ok (.goto (-27), 3) := by decide +kernel
theorem dX8_wrongPairs_61 : decode cX8_wrongPairs 61 = .ok (.iconst 0, 1) := by decide +kernel
theorem dX8_wrongPairs_62 : decode cX8_wrongPairs 62 = .ok (.ireturn, 1) := by decide +kernel
set_option maxRecDepth 20000 in
theorem w_X8_wrongPairs_b27 {w : zWd} {X : zX} {l0 : Launch} {r : Int32} {S1 : zMem} (C : zC LC w X l0 cX8_wrongPairs RX8 2 2 (some .int)) {S : zMem} {ls : Array Slot} (hl : lv_has ls 2 []) (h : X8_wrongPairs_b27  S = some (r, S1)) : zV LC w X (some (.int r)) S1 S 27 ls [] := by
  unfold X8_wrongPairs_b27 at h
  refine v_iconst 27 C (v := (5 : Int32)) dX8_wrongPairs_27 (by decide) ?_
  exact v_ireturn 28 C dX8_wrongPairs_28 h
set_option maxRecDepth 20000 in
theorem w_X8_wrongPairs_b31 {w : zWd} {X : zX} {l0 : Launch} {r : Int32} {S1 : zMem} (C : zC LC w X l0 cX8_wrongPairs RX8 2 2 (some .int)) {k31 : Nat → Int32 → zMem → Option (Int32 × zMem)} (hc31 : ∀ (c0 : Nat) (x1 : Int32) (S : zMem) (ls : Array Slot), lv_has ls 2 [(0, .ref (w.2.2.1 c0)), (1, .int x1)] → (c0 < LC.1 ∧ LC.2.1 c0 = 9) → k31 c0 x1 S = some (r, S1) → zV LC w X (some (.int r)) S1 S 31 ls []) {c0 : Nat} {x1 : Int32} {S : zMem} {ls : Array Slot} (hl : lv_has ls 2 [(0, .ref (w.2.2.1 c0)), (1, .int x1)]) (hk_c0 : c0 < LC.1 ∧ LC.2.1 c0 = 9) (h : X8_wrongPairs_b31 k31 c0 x1 S = some (r, S1)) : zV LC w X (some (.int r)) S1 S 31 ls [] := by
  unfold X8_wrongPairs_b31 at h
  refine v_iload_n 31 C dX8_wrongPairs_31 rfl (lv_at hl 1 rfl) ?_
  refine v_aload_n 32 C dX8_wrongPairs_32 rfl (lv_at hl 0 rfl) ?_
  refine v_geti 33 C dX8_wrongPairs_33 fl_X8_118 rfl hk_c0 h (fun v1 h => ?_)
  refine v_icmp_ge 36 61 C dX8_wrongPairs_36 (by decide) h (fun h => ?_) (fun h => ?_)
  · refine v_iconst 61 C (v := (0 : Int32)) dX8_wrongPairs_61 (by decide) ?_
    exact v_ireturn 62 C dX8_wrongPairs_62 h
  · refine v_aload_n 39 C dX8_wrongPairs_39 rfl (lv_at hl 0 rfl) ?_
    refine v_getr 40 (c0 + 1) C dX8_wrongPairs_40 fl_X8_99 rfl hk_c0 (rS1 hk_c0) ?_
    refine v_iload_n 43 C dX8_wrongPairs_43 rfl (lv_at hl 1 rfl) ?_
    refine v_iald 44 C dX8_wrongPairs_44 (kS1 hk_c0) rfl h (fun v2 h => ?_)
    refine v_bipush 45 C (v := (9 : Int32)) dX8_wrongPairs_45 (by decide) ?_
    obtain ⟨v3, S, hc, h⟩ := zb_e h
    refine v_callSi 47 C [] dX8_wrongPairs_47 ml_X8_152 hy_X8_within (c_X8_within  hc) (by decide) rfl hl.1 (Nat.le_of_ble_eq_true rfl) rfl ?_
    refine v_if_ne 50 55 C dX8_wrongPairs_50 (by decide) h (fun h => ?_) (fun h => ?_)
    · refine v_iinc 55 C (nn := (1 : Int32)) (fun v => [(1, .int v), (0, .ref (w.2.2.1 c0))]) dX8_wrongPairs_55 hl (k := 1) rfl (by decide) (by decide) (fun _ => rfl) h (fun v4 ls hl h => ?_)
      refine v_goto 58 31 C dX8_wrongPairs_58 (by decide) ?_
      exact hc31 _ _ _ _ (lv_sub hl [1, 0] rfl) hk_c0 h
    · refine v_iconst 53 C (v := (3 : Int32)) dX8_wrongPairs_53 (by decide) ?_
      exact v_ireturn 54 C dX8_wrongPairs_54 h
theorem w_X8_wrongPairs_l31 {w : zWd} {X : zX} {l0 : Launch} {r : Int32} {S1 : zMem} (C : zC LC w X l0 cX8_wrongPairs RX8 2 2 (some .int)) : ∀ (n : Nat) (c0 : Nat) (x1 : Int32) (S : zMem) (ls : Array Slot), lv_has ls 2 [(0, .ref (w.2.2.1 c0)), (1, .int x1)] → (c0 < LC.1 ∧ LC.2.1 c0 = 9) → X8_wrongPairs_l31 n c0 x1 S = some (r, S1) → zV LC w X (some (.int r)) S1 S 31 ls [] := by
  intro n
  induction n with
  | zero =>
    intro c0 x1 S ls hl hk_c0 h
    cases (show (none : Option (Int32 × zMem)) = some _ from h)
  | succ n ih =>
    intro c0 x1 S ls hl hk_c0 h
    exact w_X8_wrongPairs_b31 C ih hl hk_c0 h
set_option maxRecDepth 20000 in
theorem w_X8_wrongPairs_b0 {w : zWd} {X : zX} {l0 : Launch} {r : Int32} {S1 : zMem} (C : zC LC w X l0 cX8_wrongPairs RX8 2 2 (some .int)) {c0 : Nat} {S : zMem} {ls : Array Slot} (hl : lv_has ls 2 [(0, .ref (w.2.2.1 c0))]) (hk_c0 : c0 < LC.1 ∧ LC.2.1 c0 = 9) (h : X8_wrongPairs_b0 c0 S = some (r, S1)) : zV LC w X (some (.int r)) S1 S 0 ls [] := by
  unfold X8_wrongPairs_b0 at h
  refine v_aload_n 0 C dX8_wrongPairs_0 rfl (lv_at hl 0 rfl) ?_
  obtain ⟨v1, S, hc, h⟩ := zb_e h
  refine v_callVi 1 C (ci := 6) [] dX8_wrongPairs_1 ml_X8_92 hy_X7_isThere (c_X7_isThere hk_c0 hc) (by decide) rfl hl.1 hk_c0 rfl (Nat.le_of_ble_eq_true rfl) rfl ?_
  refine v_if_ne 4 9 C dX8_wrongPairs_4 (by decide) h (fun h => ?_) (fun h => ?_)
  · refine v_aload_n 9 C dX8_wrongPairs_9 rfl (lv_at hl 0 rfl) ?_
    refine v_geti 10 C dX8_wrongPairs_10 fl_X8_118 rfl hk_c0 h (fun v2 h => ?_)
    refine v_bipush 13 C (v := (16 : Int32)) dX8_wrongPairs_13 (by decide) ?_
    refine v_icmp_gt 15 27 C dX8_wrongPairs_15 (by decide) h (fun h => ?_) (fun h => ?_)
    · exact w_X8_wrongPairs_b27 C (lv_sub hl [] rfl) h
    · refine v_aload_n 18 C dX8_wrongPairs_18 rfl (lv_at hl 0 rfl) ?_
      refine v_geti 19 C dX8_wrongPairs_19 fl_X8_118 rfl hk_c0 h (fun v3 h => ?_)
      refine v_iconst 22 C (v := (2 : Int32)) dX8_wrongPairs_22 (by decide) ?_
      refine v_irem 23 C dX8_wrongPairs_23 (by decide) h (fun v4 h => ?_)
      refine v_if_eq 24 29 C dX8_wrongPairs_24 (by decide) h (fun h => ?_) (fun h => ?_)
      · refine v_iconst 29 C (v := (0 : Int32)) dX8_wrongPairs_29 (by decide) ?_
        refine v_istore_n 30 C [(1, .int (0 : Int32)), (0, .ref (w.2.2.1 c0))] dX8_wrongPairs_30 rfl hl (by decide) rfl (fun ls hl => ?_)
        exact w_X8_wrongPairs_l31 C zF _ _ _ _ (lv_sub hl [1, 0] rfl) hk_c0 h
      · exact w_X8_wrongPairs_b27 C (lv_sub hl [] rfl) h
  · refine v_iconst 7 C (v := (1 : Int32)) dX8_wrongPairs_7 (by decide) ?_
    exact v_ireturn 8 C dX8_wrongPairs_8 h
theorem c_X8_wrongPairs {w : zWd} {l0 : Launch} {c0 : Nat} {S S1 : zMem} {r : Int32} (hk_c0 : c0 < LC.1 ∧ LC.2.1 c0 = 9) (h : f_X8_wrongPairs c0 S = some (r, S1)) : zMet LC w l0 yX8_wrongPairs cX8_wrongPairs 2 (some .int) 2 [.ref (w.2.2.1 c0)] S (some (.int r)) S1 :=
  zMet_of (by decide +kernel) (Nat.le_of_ble_eq_true rfl) (fun X ls C hl => w_X8_wrongPairs_b0 C hl hk_c0 h)
theorem fl_X0_15 : zFL RX0 15 6 1 := ⟨_, rfl, by decide, zT_of (List.mem_of_getElem? (i := 309) (by decide +kernel)) rfl⟩
theorem fl_X0_21 : zFL RX0 21 6 0 := ⟨_, rfl, by decide, zT_of (List.mem_of_getElem? (i := 303) (by decide +kernel)) rfl⟩
theorem ml_X0_24 : Cond.methodLink RX0 24 yX1_warmth ∈ zT := zT_of (List.mem_of_getElem? (i := 723) (by decide +kernel)) rfl
theorem dX0_fits_0 : decode cX0_fits 0 = .ok (.iconst 0, 1) := by decide +kernel
theorem dX0_fits_1 : decode cX0_fits 1 = .ok (.istore_n 3, 1) := by decide +kernel
theorem dX0_fits_2 : decode cX0_fits 2 = .ok (.iload_n 3, 1) := by decide +kernel
theorem dX0_fits_3 : decode cX0_fits 3 = .ok (.iconst 1, 1) := by decide +kernel
theorem dX0_fits_4 : decode cX0_fits 4 = .ok (.iadd, 1) := by decide +kernel
theorem dX0_fits_5 : decode cX0_fits 5 = .ok (.aload_n 2, 1) := by decide +kernel
theorem dX0_fits_6 : decode cX0_fits 6 = .ok (.getfield 15, 3) := by decide +kernel
theorem dX0_fits_9 : decode cX0_fits 9 = .ok (.if_icmp .ge 33, 3) := by decide +kernel
theorem dX0_fits_12 : decode cX0_fits 12 = .ok (.iload_n 0, 1) := by decide +kernel
theorem dX0_fits_13 : decode cX0_fits 13 = .ok (.iload_n 1, 1) := by decide +kernel
theorem dX0_fits_14 : decode cX0_fits 14 = .ok (.aload_n 2, 1) := by decide +kernel
theorem dX0_fits_15 : decode cX0_fits 15 = .ok (.getfield 21, 3) := by decide +kernel
theorem dX0_fits_18 : decode cX0_fits 18 = .ok (.iload_n 3, 1) := by decide +kernel
theorem dX0_fits_19 : decode cX0_fits 19 = .ok (.iaload, 1) := by decide +kernel
theorem dX0_fits_20 : decode cX0_fits 20 = .ok (.invokestatic 24, 3) := by decide +kernel
theorem dX0_fits_23 : decode cX0_fits 23 = .ok (.aload_n 2, 1) := by decide +kernel
theorem dX0_fits_24 : decode cX0_fits 24 = .ok (.getfield 21, 3) := by decide +kernel
theorem dX0_fits_27 : decode cX0_fits 27 = .ok (.iload_n 3, 1) := by decide +kernel
theorem dX0_fits_28 : decode cX0_fits 28 = .ok (.iconst 1, 1) := by decide +kernel
theorem dX0_fits_29 : decode cX0_fits 29 = .ok (.iadd, 1) := by decide +kernel
theorem dX0_fits_30 : decode cX0_fits 30 = .ok (.iaload, 1) := by decide +kernel
theorem dX0_fits_31 : decode cX0_fits 31 = .ok (.if_icmp .eq 5, 3) := by decide +kernel
theorem dX0_fits_34 : decode cX0_fits 34 = .ok (.iconst 0, 1) := by decide +kernel
theorem dX0_fits_35 : decode cX0_fits 35 = .ok (.ireturn, 1) := by decide +kernel
theorem dX0_fits_36 : decode cX0_fits 36 = .ok (.iinc 3 2, 3) := by decide +kernel
theorem dX0_fits_39 : decode cX0_fits 39 = .ok (.goto (-37), 3) := by decide +kernel
theorem dX0_fits_42 : decode cX0_fits 42 = .ok (.iconst 1, 1) := by decide +kernel
theorem dX0_fits_43 : decode cX0_fits 43 = .ok (.ireturn, 1) := by decide +kernel
set_option maxRecDepth 20000 in
theorem w_X0_fits_b2 {w : zWd} {X : zX} {l0 : Launch} {r : Int32} {S1 : zMem} (C : zC LC w X l0 cX0_fits RX0 4 2 (some .boolean)) {k2 : Int32 → Int32 → Nat → Int32 → zMem → Option (Int32 × zMem)} (hc2 : ∀ (x0 : Int32) (x1 : Int32) (c2 : Nat) (x3 : Int32) (S : zMem) (ls : Array Slot), lv_has ls 4 [(0, .int x0), (1, .int x1), (2, .ref (w.2.2.1 c2)), (3, .int x3)] → (c2 < LC.1 ∧ LC.2.1 c2 = 9) → k2 x0 x1 c2 x3 S = some (r, S1) → zV LC w X (some (.int r)) S1 S 2 ls []) {x0 : Int32} {x1 : Int32} {c2 : Nat} {x3 : Int32} {S : zMem} {ls : Array Slot} (hl : lv_has ls 4 [(0, .int x0), (1, .int x1), (2, .ref (w.2.2.1 c2)), (3, .int x3)]) (hk_c2 : c2 < LC.1 ∧ LC.2.1 c2 = 9) (h : X0_fits_b2 k2 x0 x1 c2 x3 S = some (r, S1)) : zV LC w X (some (.int r)) S1 S 2 ls [] := by
  unfold X0_fits_b2 at h
  refine v_iload_n 2 C dX0_fits_2 rfl (lv_at hl 3 rfl) ?_
  refine v_iconst 3 C (v := (1 : Int32)) dX0_fits_3 (by decide) ?_
  refine v_iadd 4 C dX0_fits_4 h (fun v1 h => ?_)
  refine v_aload_n 5 C dX0_fits_5 rfl (lv_at hl 2 rfl) ?_
  refine v_geti 6 C dX0_fits_6 fl_X0_15 rfl hk_c2 h (fun v2 h => ?_)
  refine v_icmp_ge 9 42 C dX0_fits_9 (by decide) h (fun h => ?_) (fun h => ?_)
  · refine v_iconst 42 C (v := (1 : Int32)) dX0_fits_42 (by decide) ?_
    exact v_zreturn 43 C dX0_fits_43 h
  · refine v_iload_n 12 C dX0_fits_12 rfl (lv_at hl 0 rfl) ?_
    refine v_iload_n 13 C dX0_fits_13 rfl (lv_at hl 1 rfl) ?_
    refine v_aload_n 14 C dX0_fits_14 rfl (lv_at hl 2 rfl) ?_
    refine v_getr 15 (c2 + 1) C dX0_fits_15 fl_X0_21 rfl hk_c2 (rS1 hk_c2) ?_
    refine v_iload_n 18 C dX0_fits_18 rfl (lv_at hl 3 rfl) ?_
    refine v_iald 19 C dX0_fits_19 (kS1 hk_c2) rfl h (fun v3 h => ?_)
    obtain ⟨v4, S, hc, h⟩ := zb_e h
    refine v_callSi 20 C [] dX0_fits_20 ml_X0_24 hy_X1_warmth (c_X1_warmth  hc) (by decide) rfl hl.1 (Nat.le_of_ble_eq_true rfl) rfl ?_
    refine v_aload_n 23 C dX0_fits_23 rfl (lv_at hl 2 rfl) ?_
    refine v_getr 24 (c2 + 1) C dX0_fits_24 fl_X0_21 rfl hk_c2 (rS1 hk_c2) ?_
    refine v_iload_n 27 C dX0_fits_27 rfl (lv_at hl 3 rfl) ?_
    refine v_iconst 28 C (v := (1 : Int32)) dX0_fits_28 (by decide) ?_
    refine v_iadd 29 C dX0_fits_29 h (fun v5 h => ?_)
    refine v_iald 30 C dX0_fits_30 (kS1 hk_c2) rfl h (fun v6 h => ?_)
    refine v_icmp_eq 31 36 C dX0_fits_31 (by decide) h (fun h => ?_) (fun h => ?_)
    · refine v_iinc 36 C (nn := (2 : Int32)) (fun v => [(3, .int v), (0, .int x0), (1, .int x1), (2, .ref (w.2.2.1 c2))]) dX0_fits_36 hl (k := 3) rfl (by decide) (by decide) (fun _ => rfl) h (fun v7 ls hl h => ?_)
      refine v_goto 39 2 C dX0_fits_39 (by decide) ?_
      exact hc2 _ _ _ _ _ _ (lv_sub hl [1, 2, 3, 0] rfl) hk_c2 h
    · refine v_iconst 34 C (v := (0 : Int32)) dX0_fits_34 (by decide) ?_
      exact v_zreturn 35 C dX0_fits_35 h
theorem w_X0_fits_l2 {w : zWd} {X : zX} {l0 : Launch} {r : Int32} {S1 : zMem} (C : zC LC w X l0 cX0_fits RX0 4 2 (some .boolean)) : ∀ (n : Nat) (x0 : Int32) (x1 : Int32) (c2 : Nat) (x3 : Int32) (S : zMem) (ls : Array Slot), lv_has ls 4 [(0, .int x0), (1, .int x1), (2, .ref (w.2.2.1 c2)), (3, .int x3)] → (c2 < LC.1 ∧ LC.2.1 c2 = 9) → X0_fits_l2 n x0 x1 c2 x3 S = some (r, S1) → zV LC w X (some (.int r)) S1 S 2 ls [] := by
  intro n
  induction n with
  | zero =>
    intro x0 x1 c2 x3 S ls hl hk_c2 h
    cases (show (none : Option (Int32 × zMem)) = some _ from h)
  | succ n ih =>
    intro x0 x1 c2 x3 S ls hl hk_c2 h
    exact w_X0_fits_b2 C ih hl hk_c2 h
set_option maxRecDepth 20000 in
theorem w_X0_fits_b0 {w : zWd} {X : zX} {l0 : Launch} {r : Int32} {S1 : zMem} (C : zC LC w X l0 cX0_fits RX0 4 2 (some .boolean)) {x0 : Int32} {x1 : Int32} {c2 : Nat} {S : zMem} {ls : Array Slot} (hl : lv_has ls 4 [(0, .int x0), (1, .int x1), (2, .ref (w.2.2.1 c2))]) (hk_c2 : c2 < LC.1 ∧ LC.2.1 c2 = 9) (h : X0_fits_b0 x0 x1 c2 S = some (r, S1)) : zV LC w X (some (.int r)) S1 S 0 ls [] := by
  unfold X0_fits_b0 at h
  refine v_iconst 0 C (v := (0 : Int32)) dX0_fits_0 (by decide) ?_
  refine v_istore_n 1 C [(3, .int (0 : Int32)), (0, .int x0), (1, .int x1), (2, .ref (w.2.2.1 c2))] dX0_fits_1 rfl hl (by decide) rfl (fun ls hl => ?_)
  exact w_X0_fits_l2 C zF _ _ _ _ _ _ (lv_sub hl [1, 2, 3, 0] rfl) hk_c2 h
theorem c_X0_fits {w : zWd} {l0 : Launch} {x0 : Int32} {x1 : Int32} {c2 : Nat} {S S1 : zMem} {r : Int32} (hk_c2 : c2 < LC.1 ∧ LC.2.1 c2 = 9) (h : f_X0_fits x0 x1 c2 S = some (r, S1)) : zMet LC w l0 yX0_fits cX0_fits 4 (some .boolean) 2 [.int x0, .int x1, .ref (w.2.2.1 c2)] S (some (.int r)) S1 :=
  zMet_of (by decide +kernel) (Nat.le_of_ble_eq_true rfl) (fun X ls C hl => w_X0_fits_b0 C hl hk_c2 h)
theorem ml_X0_30 : Cond.methodLink RX0 30 yX0_fits ∈ zT := zT_of (List.mem_of_getElem? (i := 720) (by decide +kernel)) rfl
theorem hy_X0_fits : zYs yX0_fits cX0_fits 4 (some .boolean) 3 := ⟨⟨zT_of (List.mem_of_getElem? (i := 722) (by decide +kernel)) rfl, zT_of (List.mem_of_getElem? (i := 76) (by decide +kernel)) rfl, by decide, by decide +kernel, by decide +kernel, by decide +kernel⟩, zT_of (List.mem_of_getElem? (i := 721) (by decide +kernel)) rfl⟩
theorem dX0_wordsFor_0 : decode cX0_wordsFor 0 = .ok (.iconst 0, 1) := by decide +kernel
theorem dX0_wordsFor_1 : decode cX0_wordsFor 1 = .ok (.istore_n 2, 1) := by decide +kernel
theorem dX0_wordsFor_2 : decode cX0_wordsFor 2 = .ok (.iconst 0, 1) := by decide +kernel
theorem dX0_wordsFor_3 : decode cX0_wordsFor 3 = .ok (.istore_n 3, 1) := by decide +kernel
theorem dX0_wordsFor_4 : decode cX0_wordsFor 4 = .ok (.iload_n 3, 1) := by decide +kernel
theorem dX0_wordsFor_5 : decode cX0_wordsFor 5 = .ok (.bipush 9, 2) := by decide +kernel
theorem dX0_wordsFor_7 : decode cX0_wordsFor 7 = .ok (.if_icmp .gt 24, 3) := by decide +kernel
theorem dX0_wordsFor_10 : decode cX0_wordsFor 10 = .ok (.iload_n 0, 1) := by decide +kernel
theorem dX0_wordsFor_11 : decode cX0_wordsFor 11 = .ok (.iload_n 3, 1) := by decide +kernel
theorem dX0_wordsFor_12 : decode cX0_wordsFor 12 = .ok (.aload_n 1, 1) := by decide +kernel
theorem dX0_wordsFor_13 : decode cX0_wordsFor 13 = .ok (.invokestatic 30, 3) := by decide +kernel
theorem dX0_wordsFor_16 : decode cX0_wordsFor 16 = .ok (.ifCond .eq 9, 3) := by decide +kernel
theorem dX0_wordsFor_19 : decode cX0_wordsFor 19 = .ok (.iload_n 2, 1) := by decide +kernel
theorem dX0_wordsFor_20 : decode cX0_wordsFor 20 = .ok (.iconst 1, 1) := by decide +kernel
theorem dX0_wordsFor_21 : decode cX0_wordsFor 21 = .ok (.iload_n 3, 1) := by decide +kernel
theorem dX0_wordsFor_22 : decode cX0_wordsFor 22 = .ok (.ishl, 1) := by decide +kernel
theorem dX0_wordsFor_23 : decode cX0_wordsFor 23 = .ok (.ior, 1) := by decide +kernel
theorem dX0_wordsFor_24 : decode cX0_wordsFor 24 = .ok (.istore_n 2, 1) := by decide +kernel
theorem dX0_wordsFor_25 : decode cX0_wordsFor 25 = .ok (.iinc 3 1, 3) := by decide +kernel
theorem dX0_wordsFor_28 : decode cX0_wordsFor 28 = .ok (.goto (-24), 3) := by decide +kernel
theorem dX0_wordsFor_31 : decode cX0_wordsFor 31 = .ok (.iload_n 2, 1) := by decide +kernel
theorem dX0_wordsFor_32 : decode cX0_wordsFor 32 = .ok (.ireturn, 1) := by decide +kernel
set_option maxRecDepth 20000 in
theorem w_X0_wordsFor_b25 {w : zWd} {X : zX} {l0 : Launch} {r : Int32} {S1 : zMem} (C : zC LC w X l0 cX0_wordsFor RX0 4 3 (some .int)) {k4 : Int32 → Nat → Int32 → Int32 → zMem → Option (Int32 × zMem)} (hc4 : ∀ (x0 : Int32) (c1 : Nat) (x2 : Int32) (x3 : Int32) (S : zMem) (ls : Array Slot), lv_has ls 4 [(0, .int x0), (1, .ref (w.2.2.1 c1)), (2, .int x2), (3, .int x3)] → (c1 < LC.1 ∧ LC.2.1 c1 = 9) → k4 x0 c1 x2 x3 S = some (r, S1) → zV LC w X (some (.int r)) S1 S 4 ls []) {x0 : Int32} {c1 : Nat} {x2 : Int32} {x3 : Int32} {S : zMem} {ls : Array Slot} (hl : lv_has ls 4 [(0, .int x0), (1, .ref (w.2.2.1 c1)), (2, .int x2), (3, .int x3)]) (hk_c1 : c1 < LC.1 ∧ LC.2.1 c1 = 9) (h : X0_wordsFor_b25 k4 x0 c1 x2 x3 S = some (r, S1)) : zV LC w X (some (.int r)) S1 S 25 ls [] := by
  unfold X0_wordsFor_b25 at h
  refine v_iinc 25 C (nn := (1 : Int32)) (fun v => [(3, .int v), (0, .int x0), (1, .ref (w.2.2.1 c1)), (2, .int x2)]) dX0_wordsFor_25 hl (k := 3) rfl (by decide) (by decide) (fun _ => rfl) h (fun v1 ls hl h => ?_)
  refine v_goto 28 4 C dX0_wordsFor_28 (by decide) ?_
  exact hc4 _ _ _ _ _ _ (lv_sub hl [1, 2, 3, 0] rfl) hk_c1 h
set_option maxRecDepth 20000 in
theorem w_X0_wordsFor_b4 {w : zWd} {X : zX} {l0 : Launch} {r : Int32} {S1 : zMem} (C : zC LC w X l0 cX0_wordsFor RX0 4 3 (some .int)) {k4 : Int32 → Nat → Int32 → Int32 → zMem → Option (Int32 × zMem)} (hc4 : ∀ (x0 : Int32) (c1 : Nat) (x2 : Int32) (x3 : Int32) (S : zMem) (ls : Array Slot), lv_has ls 4 [(0, .int x0), (1, .ref (w.2.2.1 c1)), (2, .int x2), (3, .int x3)] → (c1 < LC.1 ∧ LC.2.1 c1 = 9) → k4 x0 c1 x2 x3 S = some (r, S1) → zV LC w X (some (.int r)) S1 S 4 ls []) {x0 : Int32} {c1 : Nat} {x2 : Int32} {x3 : Int32} {S : zMem} {ls : Array Slot} (hl : lv_has ls 4 [(0, .int x0), (1, .ref (w.2.2.1 c1)), (2, .int x2), (3, .int x3)]) (hk_c1 : c1 < LC.1 ∧ LC.2.1 c1 = 9) (h : X0_wordsFor_b4 k4 x0 c1 x2 x3 S = some (r, S1)) : zV LC w X (some (.int r)) S1 S 4 ls [] := by
  unfold X0_wordsFor_b4 at h
  refine v_iload_n 4 C dX0_wordsFor_4 rfl (lv_at hl 3 rfl) ?_
  refine v_bipush 5 C (v := (9 : Int32)) dX0_wordsFor_5 (by decide) ?_
  refine v_icmp_gt 7 31 C dX0_wordsFor_7 (by decide) h (fun h => ?_) (fun h => ?_)
  · refine v_iload_n 31 C dX0_wordsFor_31 rfl (lv_at hl 2 rfl) ?_
    exact v_ireturn 32 C dX0_wordsFor_32 h
  · refine v_iload_n 10 C dX0_wordsFor_10 rfl (lv_at hl 0 rfl) ?_
    refine v_iload_n 11 C dX0_wordsFor_11 rfl (lv_at hl 3 rfl) ?_
    refine v_aload_n 12 C dX0_wordsFor_12 rfl (lv_at hl 1 rfl) ?_
    obtain ⟨v1, S, hc, h⟩ := zb_e h
    refine v_callSi 13 C [] dX0_wordsFor_13 ml_X0_30 hy_X0_fits (c_X0_fits hk_c1 hc) (by decide) rfl hl.1 (Nat.le_of_ble_eq_true rfl) rfl ?_
    refine v_if_eq 16 25 C dX0_wordsFor_16 (by decide) h (fun h => ?_) (fun h => ?_)
    · exact w_X0_wordsFor_b25 C hc4 (lv_sub hl [0, 1, 2, 3] rfl) hk_c1 h
    · refine v_iload_n 19 C dX0_wordsFor_19 rfl (lv_at hl 2 rfl) ?_
      refine v_iconst 20 C (v := (1 : Int32)) dX0_wordsFor_20 (by decide) ?_
      refine v_iload_n 21 C dX0_wordsFor_21 rfl (lv_at hl 3 rfl) ?_
      refine v_ishl 22 C dX0_wordsFor_22 h (fun v2 h => ?_)
      refine v_ior 23 C dX0_wordsFor_23 h (fun v3 h => ?_)
      refine v_istore_n 24 C [(2, .int v3), (0, .int x0), (1, .ref (w.2.2.1 c1)), (3, .int x3)] dX0_wordsFor_24 rfl hl (by decide) rfl (fun ls hl => ?_)
      exact w_X0_wordsFor_b25 C hc4 (lv_sub hl [1, 2, 0, 3] rfl) hk_c1 h
theorem w_X0_wordsFor_l4 {w : zWd} {X : zX} {l0 : Launch} {r : Int32} {S1 : zMem} (C : zC LC w X l0 cX0_wordsFor RX0 4 3 (some .int)) : ∀ (n : Nat) (x0 : Int32) (c1 : Nat) (x2 : Int32) (x3 : Int32) (S : zMem) (ls : Array Slot), lv_has ls 4 [(0, .int x0), (1, .ref (w.2.2.1 c1)), (2, .int x2), (3, .int x3)] → (c1 < LC.1 ∧ LC.2.1 c1 = 9) → X0_wordsFor_l4 n x0 c1 x2 x3 S = some (r, S1) → zV LC w X (some (.int r)) S1 S 4 ls [] := by
  intro n
  induction n with
  | zero =>
    intro x0 c1 x2 x3 S ls hl hk_c1 h
    cases (show (none : Option (Int32 × zMem)) = some _ from h)
  | succ n ih =>
    intro x0 c1 x2 x3 S ls hl hk_c1 h
    exact w_X0_wordsFor_b4 C ih hl hk_c1 h
set_option maxRecDepth 20000 in
theorem w_X0_wordsFor_b0 {w : zWd} {X : zX} {l0 : Launch} {r : Int32} {S1 : zMem} (C : zC LC w X l0 cX0_wordsFor RX0 4 3 (some .int)) {x0 : Int32} {c1 : Nat} {S : zMem} {ls : Array Slot} (hl : lv_has ls 4 [(0, .int x0), (1, .ref (w.2.2.1 c1))]) (hk_c1 : c1 < LC.1 ∧ LC.2.1 c1 = 9) (h : X0_wordsFor_b0 x0 c1 S = some (r, S1)) : zV LC w X (some (.int r)) S1 S 0 ls [] := by
  unfold X0_wordsFor_b0 at h
  refine v_iconst 0 C (v := (0 : Int32)) dX0_wordsFor_0 (by decide) ?_
  refine v_istore_n 1 C [(2, .int (0 : Int32)), (0, .int x0), (1, .ref (w.2.2.1 c1))] dX0_wordsFor_1 rfl hl (by decide) rfl (fun ls hl => ?_)
  refine v_iconst 2 C (v := (0 : Int32)) dX0_wordsFor_2 (by decide) ?_
  refine v_istore_n 3 C [(3, .int (0 : Int32)), (2, .int (0 : Int32)), (0, .int x0), (1, .ref (w.2.2.1 c1))] dX0_wordsFor_3 rfl hl (by decide) rfl (fun ls hl => ?_)
  exact w_X0_wordsFor_l4 C zF _ _ _ _ _ _ (lv_sub hl [2, 3, 1, 0] rfl) hk_c1 h
theorem c_X0_wordsFor {w : zWd} {l0 : Launch} {x0 : Int32} {c1 : Nat} {S S1 : zMem} {r : Int32} (hk_c1 : c1 < LC.1 ∧ LC.2.1 c1 = 9) (h : f_X0_wordsFor x0 c1 S = some (r, S1)) : zMet LC w l0 yX0_wordsFor cX0_wordsFor 4 (some .int) 3 [.int x0, .ref (w.2.2.1 c1)] S (some (.int r)) S1 :=
  zMet_of (by decide +kernel) (Nat.le_of_ble_eq_true rfl) (fun X ls C hl => w_X0_wordsFor_b0 C hl hk_c1 h)
theorem ml_X8_273 : Cond.methodLink RX8 273 yX8_wrongPairs ∈ zT := zT_of (List.mem_of_getElem? (i := 714) (by decide +kernel)) rfl
theorem hy_X8_wrongPairs : zYs yX8_wrongPairs cX8_wrongPairs 2 (some .int) 1 := ⟨⟨zT_of (List.mem_of_getElem? (i := 716) (by decide +kernel)) rfl, zT_of (List.mem_of_getElem? (i := 70) (by decide +kernel)) rfl, by decide, by decide +kernel, by decide +kernel, by decide +kernel⟩, zT_of (List.mem_of_getElem? (i := 715) (by decide +kernel)) rfl⟩
theorem ml_X8_276 : Cond.methodLink RX8 276 yX0_wordsFor ∈ zT := zT_of (List.mem_of_getElem? (i := 717) (by decide +kernel)) rfl
theorem hy_X0_wordsFor : zYs yX0_wordsFor cX0_wordsFor 4 (some .int) 2 := ⟨⟨zT_of (List.mem_of_getElem? (i := 719) (by decide +kernel)) rfl, zT_of (List.mem_of_getElem? (i := 76) (by decide +kernel)) rfl, by decide, by decide +kernel, by decide +kernel, by decide +kernel⟩, zT_of (List.mem_of_getElem? (i := 718) (by decide +kernel)) rfl⟩
theorem dX8_meant_0 : decode cX8_meant 0 = .ok (.aload_n 0, 1) := by decide +kernel
theorem dX8_meant_1 : decode cX8_meant 1 = .ok (.iload_n 1, 1) := by decide +kernel
theorem dX8_meant_2 : decode cX8_meant 2 = .ok (.invokevirtual 159, 3) := by decide +kernel
theorem dX8_meant_5 : decode cX8_meant 5 = .ok (.ifCond .eq 10, 3) := by decide +kernel
theorem dX8_meant_8 : decode cX8_meant 8 = .ok (.iload_n 2, 1) := by decide +kernel
theorem dX8_meant_9 : decode cX8_meant 9 = .ok (.invokestatic 80, 3) := by decide +kernel
theorem dX8_meant_12 : decode cX8_meant 12 = .ok (.ifCond .ne 5, 3) := by decide +kernel
theorem dX8_meant_15 : decode cX8_meant 15 = .ok (.iconst (-1), 1) := by decide +kernel
theorem dX8_meant_16 : decode cX8_meant 16 = .ok (.ireturn, 1) := by decide +kernel
theorem dX8_meant_17 : decode cX8_meant 17 = .ok (.aload_n 0, 1) := by decide +kernel
theorem dX8_meant_18 : decode cX8_meant 18 = .ok (.getfield 11, 3) := by decide +kernel
theorem dX8_meant_21 : decode cX8_meant 21 = .ok (.iload_n 2, 1) := by decide +kernel
theorem dX8_meant_22 : decode cX8_meant 22 = .ok (.aaload, 1) := by decide +kernel
theorem dX8_meant_23 : decode cX8_meant 23 = .ok (.invokestatic 273, 3) := by decide +kernel
theorem dX8_meant_26 : decode cX8_meant 26 = .ok (.istore_n 3, 1) := by decide +kernel
theorem dX8_meant_27 : decode cX8_meant 27 = .ok (.iload_n 3, 1) := by decide +kernel
theorem dX8_meant_28 : decode cX8_meant 28 = .ok (.ifCond .eq 9, 3) := by decide +kernel
theorem dX8_meant_31 : decode cX8_meant 31 = .ok (.aload_n 0, 1) := by decide +kernel
theorem dX8_meant_32 : decode cX8_meant 32 = .ok (.iload_n 3, 1) := by decide +kernel
theorem dX8_meant_33 : decode cX8_meant 33 = .ok (.invokevirtual 84, 3) := by decide +kernel
theorem dX8_meant_36 : decode cX8_meant 36 = .ok (.ireturn, 1) := by decide +kernel
theorem dX8_meant_37 : decode cX8_meant 37 = .ok (.aload_n 0, 1) := by decide +kernel
theorem dX8_meant_38 : decode cX8_meant 38 = .ok (.getfield 21, 3) := by decide +kernel
theorem dX8_meant_41 : decode cX8_meant 41 = .ok (.getfield 167, 3) := by decide +kernel
theorem dX8_meant_44 : decode cX8_meant 44 = .ok (.iload_n 1, 1) := by decide +kernel
theorem dX8_meant_45 : decode cX8_meant 45 = .ok (.iaload, 1) := by decide +kernel
theorem dX8_meant_46 : decode cX8_meant 46 = .ok (.aload_n 0, 1) := by decide +kernel
theorem dX8_meant_47 : decode cX8_meant 47 = .ok (.getfield 11, 3) := by decide +kernel
theorem dX8_meant_50 : decode cX8_meant 50 = .ok (.iload_n 2, 1) := by decide +kernel
theorem dX8_meant_51 : decode cX8_meant 51 = .ok (.aaload, 1) := by decide +kernel
theorem dX8_meant_52 : decode cX8_meant 52 = .ok (.invokestatic 276, 3) := by decide +kernel
theorem dX8_meant_55 : decode cX8_meant 55 = .ok (.ireturn, 1) := by decide +kernel
set_option maxRecDepth 20000 in
theorem w_X8_meant_b15 {w : zWd} {X : zX} {l0 : Launch} {r : Int32} {S1 : zMem} (C : zC LC w X l0 cX8_meant RX8 4 4 (some .int)) {S : zMem} {ls : Array Slot} (hl : lv_has ls 4 []) (h : X8_meant_b15  S = some (r, S1)) : zV LC w X (some (.int r)) S1 S 15 ls [] := by
  unfold X8_meant_b15 at h
  refine v_iconst 15 C (v := (-1 : Int32)) dX8_meant_15 (by decide) ?_
  exact v_ireturn 16 C dX8_meant_16 h
set_option maxRecDepth 20000 in
theorem w_X8_meant_b0 {w : zWd} {X : zX} {l0 : Launch} {r : Int32} {S1 : zMem} (C : zC LC w X l0 cX8_meant RX8 4 4 (some .int)) {x1 : Int32} {x2 : Int32} {S : zMem} {ls : Array Slot} (hl : lv_has ls 4 [(0, .ref (w.2.2.1 0)), (1, .int x1), (2, .int x2)]) (h : X8_meant_b0 x1 x2 S = some (r, S1)) : zV LC w X (some (.int r)) S1 S 0 ls [] := by
  unfold X8_meant_b0 at h
  refine v_aload_n 0 C dX8_meant_0 rfl (lv_at hl 0 rfl) ?_
  refine v_iload_n 1 C dX8_meant_1 rfl (lv_at hl 1 rfl) ?_
  obtain ⟨v1, S, hc, h⟩ := zb_e h
  refine v_callVi 2 C (ci := 7) [] dX8_meant_2 ml_X8_159 hy_X8_isLetter (c_X8_isLetter  hc) (by decide) rfl hl.1 kC_0 rfl (Nat.le_of_ble_eq_true rfl) rfl ?_
  refine v_if_eq 5 15 C dX8_meant_5 (by decide) h (fun h => ?_) (fun h => ?_)
  · exact w_X8_meant_b15 C (lv_sub hl [] rfl) h
  · refine v_iload_n 8 C dX8_meant_8 rfl (lv_at hl 2 rfl) ?_
    obtain ⟨v2, S, hc, h⟩ := zb_e h
    refine v_callSi 9 C [] dX8_meant_9 ml_X8_80 hy_X8_isRow (c_X8_isRow  hc) (by decide) rfl hl.1 (Nat.le_of_ble_eq_true rfl) rfl ?_
    refine v_if_ne 12 17 C dX8_meant_12 (by decide) h (fun h => ?_) (fun h => ?_)
    · refine v_aload_n 17 C dX8_meant_17 rfl (lv_at hl 0 rfl) ?_
      refine v_getr 18 (1) C dX8_meant_18 fl_X8_11 rfl kC_0 rfl ?_
      refine v_iload_n 21 C dX8_meant_21 rfl (lv_at hl 2 rfl) ?_
      refine v_aald 22 (4 + 2 * Int32.toNatClampNeg x2) C dX8_meant_22 kC_1 (Or.inl rfl) rfl rfl h (fun hz3 h => ?_)
      obtain ⟨v4, S, hc, h⟩ := zb_e h
      refine v_callSi 23 C [] dX8_meant_23 ml_X8_273 hy_X8_wrongPairs (c_X8_wrongPairs (kRow hz3) hc) (by decide) rfl hl.1 (Nat.le_of_ble_eq_true rfl) rfl ?_
      refine v_istore_n 26 C [(3, .int v4), (0, .ref (w.2.2.1 0)), (1, .int x1), (2, .int x2)] dX8_meant_26 rfl hl (by decide) rfl (fun ls hl => ?_)
      refine v_iload_n 27 C dX8_meant_27 rfl (lv_at hl 0 rfl) ?_
      refine v_if_eq 28 37 C dX8_meant_28 (by decide) h (fun h => ?_) (fun h => ?_)
      · refine v_aload_n 37 C dX8_meant_37 rfl (lv_at hl 1 rfl) ?_
        refine v_getr 38 (24) C dX8_meant_38 fl_X8_21 rfl kC_0 rfl ?_
        refine v_getr 41 (26) C dX8_meant_41 fl_X8_167 rfl kC_24 rfl ?_
        refine v_iload_n 44 C dX8_meant_44 rfl (lv_at hl 2 rfl) ?_
        refine v_iald 45 C dX8_meant_45 kC_26 rfl h (fun v5 h => ?_)
        refine v_aload_n 46 C dX8_meant_46 rfl (lv_at hl 1 rfl) ?_
        refine v_getr 47 (1) C dX8_meant_47 fl_X8_11 rfl kC_0 rfl ?_
        refine v_iload_n 50 C dX8_meant_50 rfl (lv_at hl 3 rfl) ?_
        refine v_aald 51 (4 + 2 * Int32.toNatClampNeg x2) C dX8_meant_51 kC_1 (Or.inl rfl) rfl rfl h (fun hz6 h => ?_)
        obtain ⟨v7, S, hc, h⟩ := zb_e h
        refine v_callSi 52 C [] dX8_meant_52 ml_X8_276 hy_X0_wordsFor (c_X0_wordsFor (kRow hz6) hc) (by decide) rfl hl.1 (Nat.le_of_ble_eq_true rfl) rfl ?_
        exact v_ireturn 55 C dX8_meant_55 h
      · refine v_aload_n 31 C dX8_meant_31 rfl (lv_at hl 1 rfl) ?_
        refine v_iload_n 32 C dX8_meant_32 rfl (lv_at hl 0 rfl) ?_
        obtain ⟨v8, S, hc, h⟩ := zb_e h
        refine v_callVi 33 C (ci := 7) [] dX8_meant_33 ml_X8_84 hy_X8_refuse (c_X8_refuse  hc) (by decide) rfl hl.1 kC_0 rfl (Nat.le_of_ble_eq_true rfl) rfl ?_
        exact v_ireturn 36 C dX8_meant_36 h
    · exact w_X8_meant_b15 C (lv_sub hl [] rfl) h
theorem c_X8_meant {w : zWd} {l0 : Launch} {x1 : Int32} {x2 : Int32} {S S1 : zMem} {r : Int32} (h : f_X8_meant x1 x2 S = some (r, S1)) : zMet LC w l0 yX8_meant cX8_meant 4 (some .int) 4 [.ref (w.2.2.1 0), .int x1, .int x2] S (some (.int r)) S1 :=
  zMet_of (by decide +kernel) (Nat.le_of_ble_eq_true rfl) (fun X ls C hl => w_X8_meant_b0 C hl h)
theorem dX0_kindsFor_0 : decode cX0_kindsFor 0 = .ok (.iconst 0, 1) := by decide +kernel
theorem dX0_kindsFor_1 : decode cX0_kindsFor 1 = .ok (.istore_n 2, 1) := by decide +kernel
theorem dX0_kindsFor_2 : decode cX0_kindsFor 2 = .ok (.iconst 0, 1) := by decide +kernel
theorem dX0_kindsFor_3 : decode cX0_kindsFor 3 = .ok (.istore_n 3, 1) := by decide +kernel
theorem dX0_kindsFor_4 : decode cX0_kindsFor 4 = .ok (.iload_n 3, 1) := by decide +kernel
theorem dX0_kindsFor_5 : decode cX0_kindsFor 5 = .ok (.bipush 6, 2) := by decide +kernel
theorem dX0_kindsFor_7 : decode cX0_kindsFor 7 = .ok (.if_icmp .ge 24, 3) := by decide +kernel
theorem dX0_kindsFor_10 : decode cX0_kindsFor 10 = .ok (.iload_n 3, 1) := by decide +kernel
theorem dX0_kindsFor_11 : decode cX0_kindsFor 11 = .ok (.iload_n 0, 1) := by decide +kernel
theorem dX0_kindsFor_12 : decode cX0_kindsFor 12 = .ok (.aload_n 1, 1) := by decide +kernel
theorem dX0_kindsFor_13 : decode cX0_kindsFor 13 = .ok (.invokestatic 30, 3) := by decide +kernel
theorem dX0_kindsFor_16 : decode cX0_kindsFor 16 = .ok (.ifCond .eq 9, 3) := by decide +kernel
theorem dX0_kindsFor_19 : decode cX0_kindsFor 19 = .ok (.iload_n 2, 1) := by decide +kernel
theorem dX0_kindsFor_20 : decode cX0_kindsFor 20 = .ok (.iconst 1, 1) := by decide +kernel
theorem dX0_kindsFor_21 : decode cX0_kindsFor 21 = .ok (.iload_n 3, 1) := by decide +kernel
theorem dX0_kindsFor_22 : decode cX0_kindsFor 22 = .ok (.ishl, 1) := by decide +kernel
theorem dX0_kindsFor_23 : decode cX0_kindsFor 23 = .ok (.ior, 1) := by decide +kernel
theorem dX0_kindsFor_24 : decode cX0_kindsFor 24 = .ok (.istore_n 2, 1) := by decide +kernel
theorem dX0_kindsFor_25 : decode cX0_kindsFor 25 = .ok (.iinc 3 1, 3) := by decide +kernel
theorem dX0_kindsFor_28 : decode cX0_kindsFor 28 = .ok (.goto (-24), 3) := by decide +kernel
theorem dX0_kindsFor_31 : decode cX0_kindsFor 31 = .ok (.iload_n 2, 1) := by decide +kernel
theorem dX0_kindsFor_32 : decode cX0_kindsFor 32 = .ok (.ireturn, 1) := by decide +kernel
set_option maxRecDepth 20000 in
theorem w_X0_kindsFor_b25 {w : zWd} {X : zX} {l0 : Launch} {r : Int32} {S1 : zMem} (C : zC LC w X l0 cX0_kindsFor RX0 4 3 (some .int)) {k4 : Int32 → Nat → Int32 → Int32 → zMem → Option (Int32 × zMem)} (hc4 : ∀ (x0 : Int32) (c1 : Nat) (x2 : Int32) (x3 : Int32) (S : zMem) (ls : Array Slot), lv_has ls 4 [(0, .int x0), (1, .ref (w.2.2.1 c1)), (2, .int x2), (3, .int x3)] → (c1 < LC.1 ∧ LC.2.1 c1 = 9) → k4 x0 c1 x2 x3 S = some (r, S1) → zV LC w X (some (.int r)) S1 S 4 ls []) {x0 : Int32} {c1 : Nat} {x2 : Int32} {x3 : Int32} {S : zMem} {ls : Array Slot} (hl : lv_has ls 4 [(0, .int x0), (1, .ref (w.2.2.1 c1)), (2, .int x2), (3, .int x3)]) (hk_c1 : c1 < LC.1 ∧ LC.2.1 c1 = 9) (h : X0_kindsFor_b25 k4 x0 c1 x2 x3 S = some (r, S1)) : zV LC w X (some (.int r)) S1 S 25 ls [] := by
  unfold X0_kindsFor_b25 at h
  refine v_iinc 25 C (nn := (1 : Int32)) (fun v => [(3, .int v), (0, .int x0), (1, .ref (w.2.2.1 c1)), (2, .int x2)]) dX0_kindsFor_25 hl (k := 3) rfl (by decide) (by decide) (fun _ => rfl) h (fun v1 ls hl h => ?_)
  refine v_goto 28 4 C dX0_kindsFor_28 (by decide) ?_
  exact hc4 _ _ _ _ _ _ (lv_sub hl [1, 2, 3, 0] rfl) hk_c1 h
set_option maxRecDepth 20000 in
theorem w_X0_kindsFor_b4 {w : zWd} {X : zX} {l0 : Launch} {r : Int32} {S1 : zMem} (C : zC LC w X l0 cX0_kindsFor RX0 4 3 (some .int)) {k4 : Int32 → Nat → Int32 → Int32 → zMem → Option (Int32 × zMem)} (hc4 : ∀ (x0 : Int32) (c1 : Nat) (x2 : Int32) (x3 : Int32) (S : zMem) (ls : Array Slot), lv_has ls 4 [(0, .int x0), (1, .ref (w.2.2.1 c1)), (2, .int x2), (3, .int x3)] → (c1 < LC.1 ∧ LC.2.1 c1 = 9) → k4 x0 c1 x2 x3 S = some (r, S1) → zV LC w X (some (.int r)) S1 S 4 ls []) {x0 : Int32} {c1 : Nat} {x2 : Int32} {x3 : Int32} {S : zMem} {ls : Array Slot} (hl : lv_has ls 4 [(0, .int x0), (1, .ref (w.2.2.1 c1)), (2, .int x2), (3, .int x3)]) (hk_c1 : c1 < LC.1 ∧ LC.2.1 c1 = 9) (h : X0_kindsFor_b4 k4 x0 c1 x2 x3 S = some (r, S1)) : zV LC w X (some (.int r)) S1 S 4 ls [] := by
  unfold X0_kindsFor_b4 at h
  refine v_iload_n 4 C dX0_kindsFor_4 rfl (lv_at hl 3 rfl) ?_
  refine v_bipush 5 C (v := (6 : Int32)) dX0_kindsFor_5 (by decide) ?_
  refine v_icmp_ge 7 31 C dX0_kindsFor_7 (by decide) h (fun h => ?_) (fun h => ?_)
  · refine v_iload_n 31 C dX0_kindsFor_31 rfl (lv_at hl 2 rfl) ?_
    exact v_ireturn 32 C dX0_kindsFor_32 h
  · refine v_iload_n 10 C dX0_kindsFor_10 rfl (lv_at hl 3 rfl) ?_
    refine v_iload_n 11 C dX0_kindsFor_11 rfl (lv_at hl 0 rfl) ?_
    refine v_aload_n 12 C dX0_kindsFor_12 rfl (lv_at hl 1 rfl) ?_
    obtain ⟨v1, S, hc, h⟩ := zb_e h
    refine v_callSi 13 C [] dX0_kindsFor_13 ml_X0_30 hy_X0_fits (c_X0_fits hk_c1 hc) (by decide) rfl hl.1 (Nat.le_of_ble_eq_true rfl) rfl ?_
    refine v_if_eq 16 25 C dX0_kindsFor_16 (by decide) h (fun h => ?_) (fun h => ?_)
    · exact w_X0_kindsFor_b25 C hc4 (lv_sub hl [0, 1, 2, 3] rfl) hk_c1 h
    · refine v_iload_n 19 C dX0_kindsFor_19 rfl (lv_at hl 2 rfl) ?_
      refine v_iconst 20 C (v := (1 : Int32)) dX0_kindsFor_20 (by decide) ?_
      refine v_iload_n 21 C dX0_kindsFor_21 rfl (lv_at hl 3 rfl) ?_
      refine v_ishl 22 C dX0_kindsFor_22 h (fun v2 h => ?_)
      refine v_ior 23 C dX0_kindsFor_23 h (fun v3 h => ?_)
      refine v_istore_n 24 C [(2, .int v3), (0, .int x0), (1, .ref (w.2.2.1 c1)), (3, .int x3)] dX0_kindsFor_24 rfl hl (by decide) rfl (fun ls hl => ?_)
      exact w_X0_kindsFor_b25 C hc4 (lv_sub hl [1, 2, 0, 3] rfl) hk_c1 h
theorem w_X0_kindsFor_l4 {w : zWd} {X : zX} {l0 : Launch} {r : Int32} {S1 : zMem} (C : zC LC w X l0 cX0_kindsFor RX0 4 3 (some .int)) : ∀ (n : Nat) (x0 : Int32) (c1 : Nat) (x2 : Int32) (x3 : Int32) (S : zMem) (ls : Array Slot), lv_has ls 4 [(0, .int x0), (1, .ref (w.2.2.1 c1)), (2, .int x2), (3, .int x3)] → (c1 < LC.1 ∧ LC.2.1 c1 = 9) → X0_kindsFor_l4 n x0 c1 x2 x3 S = some (r, S1) → zV LC w X (some (.int r)) S1 S 4 ls [] := by
  intro n
  induction n with
  | zero =>
    intro x0 c1 x2 x3 S ls hl hk_c1 h
    cases (show (none : Option (Int32 × zMem)) = some _ from h)
  | succ n ih =>
    intro x0 c1 x2 x3 S ls hl hk_c1 h
    exact w_X0_kindsFor_b4 C ih hl hk_c1 h
set_option maxRecDepth 20000 in
theorem w_X0_kindsFor_b0 {w : zWd} {X : zX} {l0 : Launch} {r : Int32} {S1 : zMem} (C : zC LC w X l0 cX0_kindsFor RX0 4 3 (some .int)) {x0 : Int32} {c1 : Nat} {S : zMem} {ls : Array Slot} (hl : lv_has ls 4 [(0, .int x0), (1, .ref (w.2.2.1 c1))]) (hk_c1 : c1 < LC.1 ∧ LC.2.1 c1 = 9) (h : X0_kindsFor_b0 x0 c1 S = some (r, S1)) : zV LC w X (some (.int r)) S1 S 0 ls [] := by
  unfold X0_kindsFor_b0 at h
  refine v_iconst 0 C (v := (0 : Int32)) dX0_kindsFor_0 (by decide) ?_
  refine v_istore_n 1 C [(2, .int (0 : Int32)), (0, .int x0), (1, .ref (w.2.2.1 c1))] dX0_kindsFor_1 rfl hl (by decide) rfl (fun ls hl => ?_)
  refine v_iconst 2 C (v := (0 : Int32)) dX0_kindsFor_2 (by decide) ?_
  refine v_istore_n 3 C [(3, .int (0 : Int32)), (2, .int (0 : Int32)), (0, .int x0), (1, .ref (w.2.2.1 c1))] dX0_kindsFor_3 rfl hl (by decide) rfl (fun ls hl => ?_)
  exact w_X0_kindsFor_l4 C zF _ _ _ _ _ _ (lv_sub hl [2, 3, 1, 0] rfl) hk_c1 h
theorem c_X0_kindsFor {w : zWd} {l0 : Launch} {x0 : Int32} {c1 : Nat} {S S1 : zMem} {r : Int32} (hk_c1 : c1 < LC.1 ∧ LC.2.1 c1 = 9) (h : f_X0_kindsFor x0 c1 S = some (r, S1)) : zMet LC w l0 yX0_kindsFor cX0_kindsFor 4 (some .int) 3 [.int x0, .ref (w.2.2.1 c1)] S (some (.int r)) S1 :=
  zMet_of (by decide +kernel) (Nat.le_of_ble_eq_true rfl) (fun X ls C hl => w_X0_kindsFor_b0 C hl hk_c1 h)
theorem ml_X8_280 : Cond.methodLink RX8 280 yX0_kindsFor ∈ zT := zT_of (List.mem_of_getElem? (i := 728) (by decide +kernel)) rfl
theorem hy_X0_kindsFor : zYs yX0_kindsFor cX0_kindsFor 4 (some .int) 2 := ⟨⟨zT_of (List.mem_of_getElem? (i := 730) (by decide +kernel)) rfl, zT_of (List.mem_of_getElem? (i := 76) (by decide +kernel)) rfl, by decide, by decide +kernel, by decide +kernel, by decide +kernel⟩, zT_of (List.mem_of_getElem? (i := 729) (by decide +kernel)) rfl⟩
theorem dX8_kinds_0 : decode cX8_kinds 0 = .ok (.aload_n 0, 1) := by decide +kernel
theorem dX8_kinds_1 : decode cX8_kinds 1 = .ok (.iload_n 1, 1) := by decide +kernel
theorem dX8_kinds_2 : decode cX8_kinds 2 = .ok (.invokevirtual 159, 3) := by decide +kernel
theorem dX8_kinds_5 : decode cX8_kinds 5 = .ok (.ifCond .eq 10, 3) := by decide +kernel
theorem dX8_kinds_8 : decode cX8_kinds 8 = .ok (.iload_n 2, 1) := by decide +kernel
theorem dX8_kinds_9 : decode cX8_kinds 9 = .ok (.invokestatic 80, 3) := by decide +kernel
theorem dX8_kinds_12 : decode cX8_kinds 12 = .ok (.ifCond .ne 5, 3) := by decide +kernel
theorem dX8_kinds_15 : decode cX8_kinds 15 = .ok (.iconst (-1), 1) := by decide +kernel
theorem dX8_kinds_16 : decode cX8_kinds 16 = .ok (.ireturn, 1) := by decide +kernel
theorem dX8_kinds_17 : decode cX8_kinds 17 = .ok (.aload_n 0, 1) := by decide +kernel
theorem dX8_kinds_18 : decode cX8_kinds 18 = .ok (.getfield 11, 3) := by decide +kernel
theorem dX8_kinds_21 : decode cX8_kinds 21 = .ok (.iload_n 2, 1) := by decide +kernel
theorem dX8_kinds_22 : decode cX8_kinds 22 = .ok (.aaload, 1) := by decide +kernel
theorem dX8_kinds_23 : decode cX8_kinds 23 = .ok (.invokestatic 273, 3) := by decide +kernel
theorem dX8_kinds_26 : decode cX8_kinds 26 = .ok (.istore_n 3, 1) := by decide +kernel
theorem dX8_kinds_27 : decode cX8_kinds 27 = .ok (.iload_n 3, 1) := by decide +kernel
theorem dX8_kinds_28 : decode cX8_kinds 28 = .ok (.ifCond .eq 9, 3) := by decide +kernel
theorem dX8_kinds_31 : decode cX8_kinds 31 = .ok (.aload_n 0, 1) := by decide +kernel
theorem dX8_kinds_32 : decode cX8_kinds 32 = .ok (.iload_n 3, 1) := by decide +kernel
theorem dX8_kinds_33 : decode cX8_kinds 33 = .ok (.invokevirtual 84, 3) := by decide +kernel
theorem dX8_kinds_36 : decode cX8_kinds 36 = .ok (.ireturn, 1) := by decide +kernel
theorem dX8_kinds_37 : decode cX8_kinds 37 = .ok (.aload_n 0, 1) := by decide +kernel
theorem dX8_kinds_38 : decode cX8_kinds 38 = .ok (.getfield 21, 3) := by decide +kernel
theorem dX8_kinds_41 : decode cX8_kinds 41 = .ok (.getfield 173, 3) := by decide +kernel
theorem dX8_kinds_44 : decode cX8_kinds 44 = .ok (.iload_n 1, 1) := by decide +kernel
theorem dX8_kinds_45 : decode cX8_kinds 45 = .ok (.iaload, 1) := by decide +kernel
theorem dX8_kinds_46 : decode cX8_kinds 46 = .ok (.aload_n 0, 1) := by decide +kernel
theorem dX8_kinds_47 : decode cX8_kinds 47 = .ok (.getfield 11, 3) := by decide +kernel
theorem dX8_kinds_50 : decode cX8_kinds 50 = .ok (.iload_n 2, 1) := by decide +kernel
theorem dX8_kinds_51 : decode cX8_kinds 51 = .ok (.aaload, 1) := by decide +kernel
theorem dX8_kinds_52 : decode cX8_kinds 52 = .ok (.invokestatic 280, 3) := by decide +kernel
theorem dX8_kinds_55 : decode cX8_kinds 55 = .ok (.ireturn, 1) := by decide +kernel
set_option maxRecDepth 20000 in
theorem w_X8_kinds_b15 {w : zWd} {X : zX} {l0 : Launch} {r : Int32} {S1 : zMem} (C : zC LC w X l0 cX8_kinds RX8 4 4 (some .int)) {S : zMem} {ls : Array Slot} (hl : lv_has ls 4 []) (h : X8_kinds_b15  S = some (r, S1)) : zV LC w X (some (.int r)) S1 S 15 ls [] := by
  unfold X8_kinds_b15 at h
  refine v_iconst 15 C (v := (-1 : Int32)) dX8_kinds_15 (by decide) ?_
  exact v_ireturn 16 C dX8_kinds_16 h
set_option maxRecDepth 20000 in
theorem w_X8_kinds_b0 {w : zWd} {X : zX} {l0 : Launch} {r : Int32} {S1 : zMem} (C : zC LC w X l0 cX8_kinds RX8 4 4 (some .int)) {x1 : Int32} {x2 : Int32} {S : zMem} {ls : Array Slot} (hl : lv_has ls 4 [(0, .ref (w.2.2.1 0)), (1, .int x1), (2, .int x2)]) (h : X8_kinds_b0 x1 x2 S = some (r, S1)) : zV LC w X (some (.int r)) S1 S 0 ls [] := by
  unfold X8_kinds_b0 at h
  refine v_aload_n 0 C dX8_kinds_0 rfl (lv_at hl 0 rfl) ?_
  refine v_iload_n 1 C dX8_kinds_1 rfl (lv_at hl 1 rfl) ?_
  obtain ⟨v1, S, hc, h⟩ := zb_e h
  refine v_callVi 2 C (ci := 7) [] dX8_kinds_2 ml_X8_159 hy_X8_isLetter (c_X8_isLetter  hc) (by decide) rfl hl.1 kC_0 rfl (Nat.le_of_ble_eq_true rfl) rfl ?_
  refine v_if_eq 5 15 C dX8_kinds_5 (by decide) h (fun h => ?_) (fun h => ?_)
  · exact w_X8_kinds_b15 C (lv_sub hl [] rfl) h
  · refine v_iload_n 8 C dX8_kinds_8 rfl (lv_at hl 2 rfl) ?_
    obtain ⟨v2, S, hc, h⟩ := zb_e h
    refine v_callSi 9 C [] dX8_kinds_9 ml_X8_80 hy_X8_isRow (c_X8_isRow  hc) (by decide) rfl hl.1 (Nat.le_of_ble_eq_true rfl) rfl ?_
    refine v_if_ne 12 17 C dX8_kinds_12 (by decide) h (fun h => ?_) (fun h => ?_)
    · refine v_aload_n 17 C dX8_kinds_17 rfl (lv_at hl 0 rfl) ?_
      refine v_getr 18 (1) C dX8_kinds_18 fl_X8_11 rfl kC_0 rfl ?_
      refine v_iload_n 21 C dX8_kinds_21 rfl (lv_at hl 2 rfl) ?_
      refine v_aald 22 (4 + 2 * Int32.toNatClampNeg x2) C dX8_kinds_22 kC_1 (Or.inl rfl) rfl rfl h (fun hz3 h => ?_)
      obtain ⟨v4, S, hc, h⟩ := zb_e h
      refine v_callSi 23 C [] dX8_kinds_23 ml_X8_273 hy_X8_wrongPairs (c_X8_wrongPairs (kRow hz3) hc) (by decide) rfl hl.1 (Nat.le_of_ble_eq_true rfl) rfl ?_
      refine v_istore_n 26 C [(3, .int v4), (0, .ref (w.2.2.1 0)), (1, .int x1), (2, .int x2)] dX8_kinds_26 rfl hl (by decide) rfl (fun ls hl => ?_)
      refine v_iload_n 27 C dX8_kinds_27 rfl (lv_at hl 0 rfl) ?_
      refine v_if_eq 28 37 C dX8_kinds_28 (by decide) h (fun h => ?_) (fun h => ?_)
      · refine v_aload_n 37 C dX8_kinds_37 rfl (lv_at hl 1 rfl) ?_
        refine v_getr 38 (24) C dX8_kinds_38 fl_X8_21 rfl kC_0 rfl ?_
        refine v_getr 41 (28) C dX8_kinds_41 fl_X8_173 rfl kC_24 rfl ?_
        refine v_iload_n 44 C dX8_kinds_44 rfl (lv_at hl 2 rfl) ?_
        refine v_iald 45 C dX8_kinds_45 kC_28 rfl h (fun v5 h => ?_)
        refine v_aload_n 46 C dX8_kinds_46 rfl (lv_at hl 1 rfl) ?_
        refine v_getr 47 (1) C dX8_kinds_47 fl_X8_11 rfl kC_0 rfl ?_
        refine v_iload_n 50 C dX8_kinds_50 rfl (lv_at hl 3 rfl) ?_
        refine v_aald 51 (4 + 2 * Int32.toNatClampNeg x2) C dX8_kinds_51 kC_1 (Or.inl rfl) rfl rfl h (fun hz6 h => ?_)
        obtain ⟨v7, S, hc, h⟩ := zb_e h
        refine v_callSi 52 C [] dX8_kinds_52 ml_X8_280 hy_X0_kindsFor (c_X0_kindsFor (kRow hz6) hc) (by decide) rfl hl.1 (Nat.le_of_ble_eq_true rfl) rfl ?_
        exact v_ireturn 55 C dX8_kinds_55 h
      · refine v_aload_n 31 C dX8_kinds_31 rfl (lv_at hl 1 rfl) ?_
        refine v_iload_n 32 C dX8_kinds_32 rfl (lv_at hl 0 rfl) ?_
        obtain ⟨v8, S, hc, h⟩ := zb_e h
        refine v_callVi 33 C (ci := 7) [] dX8_kinds_33 ml_X8_84 hy_X8_refuse (c_X8_refuse  hc) (by decide) rfl hl.1 kC_0 rfl (Nat.le_of_ble_eq_true rfl) rfl ?_
        exact v_ireturn 36 C dX8_kinds_36 h
    · exact w_X8_kinds_b15 C (lv_sub hl [] rfl) h
theorem c_X8_kinds {w : zWd} {l0 : Launch} {x1 : Int32} {x2 : Int32} {S S1 : zMem} {r : Int32} (h : f_X8_kinds x1 x2 S = some (r, S1)) : zMet LC w l0 yX8_kinds cX8_kinds 4 (some .int) 4 [.ref (w.2.2.1 0), .int x1, .int x2] S (some (.int r)) S1 :=
  zMet_of (by decide +kernel) (Nat.le_of_ble_eq_true rfl) (fun X ls C hl => w_X8_kinds_b0 C hl h)
theorem fl_X0_9 : zFL RX0 9 0 0 := ⟨_, rfl, by decide, zT_of (List.mem_of_getElem? (i := 293) (by decide +kernel)) rfl⟩
theorem ml_X0_37 : Cond.methodLink RX0 37 Lib.Math.max.name ∈ zT := zT_of (List.mem_of_getElem? (i := 743) (by decide +kernel)) rfl
theorem dX0_greatestPart_0 : decode cX0_greatestPart 0 = .ok (.iconst 0, 1) := by decide +kernel
theorem dX0_greatestPart_1 : decode cX0_greatestPart 1 = .ok (.istore 4, 2) := by decide +kernel
theorem dX0_greatestPart_3 : decode cX0_greatestPart 3 = .ok (.iload 4, 2) := by decide +kernel
theorem dX0_greatestPart_5 : decode cX0_greatestPart 5 = .ok (.bipush 9, 2) := by decide +kernel
theorem dX0_greatestPart_7 : decode cX0_greatestPart 7 = .ok (.if_icmp .gt 17, 3) := by decide +kernel
theorem dX0_greatestPart_10 : decode cX0_greatestPart 10 = .ok (.aload_n 0, 1) := by decide +kernel
theorem dX0_greatestPart_11 : decode cX0_greatestPart 11 = .ok (.getfield 9, 3) := by decide +kernel
theorem dX0_greatestPart_14 : decode cX0_greatestPart 14 = .ok (.iload 4, 2) := by decide +kernel
theorem dX0_greatestPart_16 : decode cX0_greatestPart 16 = .ok (.iconst 0, 1) := by decide +kernel
theorem dX0_greatestPart_17 : decode cX0_greatestPart 17 = .ok (.iastore, 1) := by decide +kernel
theorem dX0_greatestPart_18 : decode cX0_greatestPart 18 = .ok (.iinc 4 1, 3) := by decide +kernel
theorem dX0_greatestPart_21 : decode cX0_greatestPart 21 = .ok (.goto (-18), 3) := by decide +kernel
theorem dX0_greatestPart_24 : decode cX0_greatestPart 24 = .ok (.iconst 0, 1) := by decide +kernel
theorem dX0_greatestPart_25 : decode cX0_greatestPart 25 = .ok (.istore 4, 2) := by decide +kernel
theorem dX0_greatestPart_27 : decode cX0_greatestPart 27 = .ok (.iconst 0, 1) := by decide +kernel
theorem dX0_greatestPart_28 : decode cX0_greatestPart 28 = .ok (.istore 5, 2) := by decide +kernel
theorem dX0_greatestPart_30 : decode cX0_greatestPart 30 = .ok (.iload 5, 2) := by decide +kernel
theorem dX0_greatestPart_32 : decode cX0_greatestPart 32 = .ok (.bipush 9, 2) := by decide +kernel
theorem dX0_greatestPart_34 : decode cX0_greatestPart 34 = .ok (.if_icmp .gt 52, 3) := by decide +kernel
theorem dX0_greatestPart_37 : decode cX0_greatestPart 37 = .ok (.iload_n 2, 1) := by decide +kernel
theorem dX0_greatestPart_38 : decode cX0_greatestPart 38 = .ok (.iload 5, 2) := by decide +kernel
theorem dX0_greatestPart_40 : decode cX0_greatestPart 40 = .ok (.ishr, 1) := by decide +kernel
theorem dX0_greatestPart_41 : decode cX0_greatestPart 41 = .ok (.iconst 1, 1) := by decide +kernel
theorem dX0_greatestPart_42 : decode cX0_greatestPart 42 = .ok (.iand, 1) := by decide +kernel
theorem dX0_greatestPart_43 : decode cX0_greatestPart 43 = .ok (.ifCond .eq 37, 3) := by decide +kernel
theorem dX0_greatestPart_46 : decode cX0_greatestPart 46 = .ok (.iload_n 1, 1) := by decide +kernel
theorem dX0_greatestPart_47 : decode cX0_greatestPart 47 = .ok (.iload 5, 2) := by decide +kernel
theorem dX0_greatestPart_49 : decode cX0_greatestPart 49 = .ok (.iload_n 3, 1) := by decide +kernel
theorem dX0_greatestPart_50 : decode cX0_greatestPart 50 = .ok (.invokestatic 24, 3) := by decide +kernel
theorem dX0_greatestPart_53 : decode cX0_greatestPart 53 = .ok (.istore 6, 2) := by decide +kernel
theorem dX0_greatestPart_55 : decode cX0_greatestPart 55 = .ok (.aload_n 0, 1) := by decide +kernel
theorem dX0_greatestPart_56 : decode cX0_greatestPart 56 = .ok (.getfield 9, 3) := by decide +kernel
theorem dX0_greatestPart_59 : decode cX0_greatestPart 59 = .ok (.iload 6, 2) := by decide +kernel
theorem dX0_greatestPart_61 : decode cX0_greatestPart 61 = .ok (.dup2, 1) := by decide +kernel
theorem dX0_greatestPart_62 : decode cX0_greatestPart 62 = .ok (.iaload, 1) := by decide +kernel
theorem dX0_greatestPart_63 : decode cX0_greatestPart 63 = .ok (.iconst 1, 1) := by decide +kernel
theorem dX0_greatestPart_64 : decode cX0_greatestPart 64 = .ok (.iadd, 1) := by decide +kernel
theorem dX0_greatestPart_65 : decode cX0_greatestPart 65 = .ok (.iastore, 1) := by decide +kernel
theorem dX0_greatestPart_66 : decode cX0_greatestPart 66 = .ok (.iload 4, 2) := by decide +kernel
theorem dX0_greatestPart_68 : decode cX0_greatestPart 68 = .ok (.aload_n 0, 1) := by decide +kernel
theorem dX0_greatestPart_69 : decode cX0_greatestPart 69 = .ok (.getfield 9, 3) := by decide +kernel
theorem dX0_greatestPart_72 : decode cX0_greatestPart 72 = .ok (.iload 6, 2) := by decide +kernel
theorem dX0_greatestPart_74 : decode cX0_greatestPart 74 = .ok (.iaload, 1) := by decide +kernel
theorem dX0_greatestPart_75 : decode cX0_greatestPart 75 = .ok (.invokestatic 37, 3) := by decide +kernel
theorem dX0_greatestPart_78 : decode cX0_greatestPart 78 = .ok (.istore 4, 2) := by decide +kernel
theorem dX0_greatestPart_80 : decode cX0_greatestPart 80 = .ok (.iinc 5 1, 3) := by decide +kernel
theorem dX0_greatestPart_83 : decode cX0_greatestPart 83 = .ok (.goto (-53), 3) := by decide +kernel
theorem dX0_greatestPart_86 : decode cX0_greatestPart 86 = .ok (.iload 4, 2) := by decide +kernel
theorem dX0_greatestPart_88 : decode cX0_greatestPart 88 = .ok (.ireturn, 1) := by decide +kernel
set_option maxRecDepth 20000 in
theorem w_X0_greatestPart_b80 {w : zWd} {X : zX} {l0 : Launch} {r : Int32} {S1 : zMem} (C : zC LC w X l0 cX0_greatestPart RX0 7 2 (some .int)) {k30 : Int32 → Int32 → Int32 → Int32 → Int32 → zMem → Option (Int32 × zMem)} (hc30 : ∀ (x1 : Int32) (x2 : Int32) (x3 : Int32) (x4 : Int32) (x5 : Int32) (S : zMem) (ls : Array Slot), lv_has ls 7 [(0, .ref (w.2.2.1 65)), (1, .int x1), (2, .int x2), (3, .int x3), (4, .int x4), (5, .int x5)] → k30 x1 x2 x3 x4 x5 S = some (r, S1) → zV LC w X (some (.int r)) S1 S 30 ls []) {x1 : Int32} {x2 : Int32} {x3 : Int32} {x4 : Int32} {x5 : Int32} {S : zMem} {ls : Array Slot} (hl : lv_has ls 7 [(0, .ref (w.2.2.1 65)), (1, .int x1), (2, .int x2), (3, .int x3), (4, .int x4), (5, .int x5)]) (h : X0_greatestPart_b80 k30 x1 x2 x3 x4 x5 S = some (r, S1)) : zV LC w X (some (.int r)) S1 S 80 ls [] := by
  unfold X0_greatestPart_b80 at h
  refine v_iinc 80 C (nn := (1 : Int32)) (fun v => [(5, .int v), (0, .ref (w.2.2.1 65)), (1, .int x1), (2, .int x2), (3, .int x3), (4, .int x4)]) dX0_greatestPart_80 hl (k := 5) rfl (by decide) (by decide) (fun _ => rfl) h (fun v1 ls hl h => ?_)
  refine v_goto 83 30 C dX0_greatestPart_83 (by decide) ?_
  exact hc30 _ _ _ _ _ _ _ (lv_sub hl [1, 2, 3, 4, 5, 0] rfl) h
set_option maxRecDepth 20000 in
theorem w_X0_greatestPart_b30 {w : zWd} {X : zX} {l0 : Launch} {r : Int32} {S1 : zMem} (C : zC LC w X l0 cX0_greatestPart RX0 7 2 (some .int)) {k30 : Int32 → Int32 → Int32 → Int32 → Int32 → zMem → Option (Int32 × zMem)} (hc30 : ∀ (x1 : Int32) (x2 : Int32) (x3 : Int32) (x4 : Int32) (x5 : Int32) (S : zMem) (ls : Array Slot), lv_has ls 7 [(0, .ref (w.2.2.1 65)), (1, .int x1), (2, .int x2), (3, .int x3), (4, .int x4), (5, .int x5)] → k30 x1 x2 x3 x4 x5 S = some (r, S1) → zV LC w X (some (.int r)) S1 S 30 ls []) {x1 : Int32} {x2 : Int32} {x3 : Int32} {x4 : Int32} {x5 : Int32} {S : zMem} {ls : Array Slot} (hl : lv_has ls 7 [(0, .ref (w.2.2.1 65)), (1, .int x1), (2, .int x2), (3, .int x3), (4, .int x4), (5, .int x5)]) (h : X0_greatestPart_b30 k30 x1 x2 x3 x4 x5 S = some (r, S1)) : zV LC w X (some (.int r)) S1 S 30 ls [] := by
  unfold X0_greatestPart_b30 at h
  refine v_iload 30 C dX0_greatestPart_30 (lv_at hl 5 rfl) ?_
  refine v_bipush 32 C (v := (9 : Int32)) dX0_greatestPart_32 (by decide) ?_
  refine v_icmp_gt 34 86 C dX0_greatestPart_34 (by decide) h (fun h => ?_) (fun h => ?_)
  · refine v_iload 86 C dX0_greatestPart_86 (lv_at hl 4 rfl) ?_
    exact v_ireturn 88 C dX0_greatestPart_88 h
  · refine v_iload_n 37 C dX0_greatestPart_37 rfl (lv_at hl 2 rfl) ?_
    refine v_iload 38 C dX0_greatestPart_38 (lv_at hl 5 rfl) ?_
    refine v_ishr 40 C dX0_greatestPart_40 h (fun v1 h => ?_)
    refine v_iconst 41 C (v := (1 : Int32)) dX0_greatestPart_41 (by decide) ?_
    refine v_iand 42 C dX0_greatestPart_42 h (fun v2 h => ?_)
    refine v_if_eq 43 80 C dX0_greatestPart_43 (by decide) h (fun h => ?_) (fun h => ?_)
    · exact w_X0_greatestPart_b80 C hc30 (lv_sub hl [0, 1, 2, 3, 4, 5] rfl) h
    · refine v_iload_n 46 C dX0_greatestPart_46 rfl (lv_at hl 1 rfl) ?_
      refine v_iload 47 C dX0_greatestPart_47 (lv_at hl 5 rfl) ?_
      refine v_iload_n 49 C dX0_greatestPart_49 rfl (lv_at hl 3 rfl) ?_
      obtain ⟨v3, S, hc, h⟩ := zb_e h
      refine v_callSi 50 C [] dX0_greatestPart_50 ml_X0_24 hy_X1_warmth (c_X1_warmth  hc) (by decide) rfl hl.1 (Nat.le_of_ble_eq_true rfl) rfl ?_
      refine v_istore 53 C [(6, .int v3), (0, .ref (w.2.2.1 65)), (1, .int x1), (2, .int x2), (3, .int x3), (4, .int x4), (5, .int x5)] dX0_greatestPart_53 hl (by decide) rfl (fun ls hl => ?_)
      refine v_aload_n 55 C dX0_greatestPart_55 rfl (lv_at hl 1 rfl) ?_
      refine v_getr 56 (66) C dX0_greatestPart_56 fl_X0_9 rfl kC_65 rfl ?_
      refine v_iload 59 C dX0_greatestPart_59 (lv_at hl 0 rfl) ?_
      refine v_dup2 61 C dX0_greatestPart_61 rfl rfl ?_
      refine v_iald 62 C dX0_greatestPart_62 kC_66 rfl h (fun v4 h => ?_)
      refine v_iconst 63 C (v := (1 : Int32)) dX0_greatestPart_63 (by decide) ?_
      refine v_iadd 64 C dX0_greatestPart_64 h (fun v5 h => ?_)
      refine v_iast 65 C dX0_greatestPart_65 kC_66 rfl h (fun S h => ?_)
      refine v_iload 66 C dX0_greatestPart_66 (lv_at hl 5 rfl) ?_
      refine v_aload_n 68 C dX0_greatestPart_68 rfl (lv_at hl 1 rfl) ?_
      refine v_getr 69 (66) C dX0_greatestPart_69 fl_X0_9 rfl kC_65 rfl ?_
      refine v_iload 72 C dX0_greatestPart_72 (lv_at hl 0 rfl) ?_
      refine v_iald 74 C dX0_greatestPart_74 kC_66 rfl h (fun v6 h => ?_)
      refine v_mmax 75 C dX0_greatestPart_75 ml_X0_37 hl.1 (by decide) (Nat.le_of_ble_eq_true rfl) h (fun v7 h => ?_)
      refine v_istore 78 C [(4, .int v7), (6, .int v3), (0, .ref (w.2.2.1 65)), (1, .int x1), (2, .int x2), (3, .int x3), (5, .int x5)] dX0_greatestPart_78 hl (by decide) rfl (fun ls hl => ?_)
      exact w_X0_greatestPart_b80 C hc30 (lv_sub hl [2, 3, 4, 5, 0, 6] rfl) h
theorem w_X0_greatestPart_l30 {w : zWd} {X : zX} {l0 : Launch} {r : Int32} {S1 : zMem} (C : zC LC w X l0 cX0_greatestPart RX0 7 2 (some .int)) : ∀ (n : Nat) (x1 : Int32) (x2 : Int32) (x3 : Int32) (x4 : Int32) (x5 : Int32) (S : zMem) (ls : Array Slot), lv_has ls 7 [(0, .ref (w.2.2.1 65)), (1, .int x1), (2, .int x2), (3, .int x3), (4, .int x4), (5, .int x5)] → X0_greatestPart_l30 n x1 x2 x3 x4 x5 S = some (r, S1) → zV LC w X (some (.int r)) S1 S 30 ls [] := by
  intro n
  induction n with
  | zero =>
    intro x1 x2 x3 x4 x5 S ls hl h
    cases (show (none : Option (Int32 × zMem)) = some _ from h)
  | succ n ih =>
    intro x1 x2 x3 x4 x5 S ls hl h
    exact w_X0_greatestPart_b30 C ih hl h
set_option maxRecDepth 20000 in
theorem w_X0_greatestPart_b3 {w : zWd} {X : zX} {l0 : Launch} {r : Int32} {S1 : zMem} (C : zC LC w X l0 cX0_greatestPart RX0 7 2 (some .int)) {k3 : Int32 → Int32 → Int32 → Int32 → zMem → Option (Int32 × zMem)} (hc3 : ∀ (x1 : Int32) (x2 : Int32) (x3 : Int32) (x4 : Int32) (S : zMem) (ls : Array Slot), lv_has ls 7 [(0, .ref (w.2.2.1 65)), (1, .int x1), (2, .int x2), (3, .int x3), (4, .int x4)] → k3 x1 x2 x3 x4 S = some (r, S1) → zV LC w X (some (.int r)) S1 S 3 ls []) {x1 : Int32} {x2 : Int32} {x3 : Int32} {x4 : Int32} {S : zMem} {ls : Array Slot} (hl : lv_has ls 7 [(0, .ref (w.2.2.1 65)), (1, .int x1), (2, .int x2), (3, .int x3), (4, .int x4)]) (h : X0_greatestPart_b3 k3 x1 x2 x3 x4 S = some (r, S1)) : zV LC w X (some (.int r)) S1 S 3 ls [] := by
  unfold X0_greatestPart_b3 at h
  refine v_iload 3 C dX0_greatestPart_3 (lv_at hl 4 rfl) ?_
  refine v_bipush 5 C (v := (9 : Int32)) dX0_greatestPart_5 (by decide) ?_
  refine v_icmp_gt 7 24 C dX0_greatestPart_7 (by decide) h (fun h => ?_) (fun h => ?_)
  · refine v_iconst 24 C (v := (0 : Int32)) dX0_greatestPart_24 (by decide) ?_
    refine v_istore 25 C [(4, .int (0 : Int32)), (0, .ref (w.2.2.1 65)), (1, .int x1), (2, .int x2), (3, .int x3)] dX0_greatestPart_25 hl (by decide) rfl (fun ls hl => ?_)
    refine v_iconst 27 C (v := (0 : Int32)) dX0_greatestPart_27 (by decide) ?_
    refine v_istore 28 C [(5, .int (0 : Int32)), (4, .int (0 : Int32)), (0, .ref (w.2.2.1 65)), (1, .int x1), (2, .int x2), (3, .int x3)] dX0_greatestPart_28 hl (by decide) rfl (fun ls hl => ?_)
    exact w_X0_greatestPart_l30 C zF _ _ _ _ _ _ _ (lv_sub hl [2, 3, 4, 5, 1, 0] rfl) h
  · refine v_aload_n 10 C dX0_greatestPart_10 rfl (lv_at hl 0 rfl) ?_
    refine v_getr 11 (66) C dX0_greatestPart_11 fl_X0_9 rfl kC_65 rfl ?_
    refine v_iload 14 C dX0_greatestPart_14 (lv_at hl 4 rfl) ?_
    refine v_iconst 16 C (v := (0 : Int32)) dX0_greatestPart_16 (by decide) ?_
    refine v_iast 17 C dX0_greatestPart_17 kC_66 rfl h (fun S h => ?_)
    refine v_iinc 18 C (nn := (1 : Int32)) (fun v => [(4, .int v), (0, .ref (w.2.2.1 65)), (1, .int x1), (2, .int x2), (3, .int x3)]) dX0_greatestPart_18 hl (k := 4) rfl (by decide) (by decide) (fun _ => rfl) h (fun v1 ls hl h => ?_)
    refine v_goto 21 3 C dX0_greatestPart_21 (by decide) ?_
    exact hc3 _ _ _ _ _ _ (lv_sub hl [1, 2, 3, 4, 0] rfl) h
theorem w_X0_greatestPart_l3 {w : zWd} {X : zX} {l0 : Launch} {r : Int32} {S1 : zMem} (C : zC LC w X l0 cX0_greatestPart RX0 7 2 (some .int)) : ∀ (n : Nat) (x1 : Int32) (x2 : Int32) (x3 : Int32) (x4 : Int32) (S : zMem) (ls : Array Slot), lv_has ls 7 [(0, .ref (w.2.2.1 65)), (1, .int x1), (2, .int x2), (3, .int x3), (4, .int x4)] → X0_greatestPart_l3 n x1 x2 x3 x4 S = some (r, S1) → zV LC w X (some (.int r)) S1 S 3 ls [] := by
  intro n
  induction n with
  | zero =>
    intro x1 x2 x3 x4 S ls hl h
    cases (show (none : Option (Int32 × zMem)) = some _ from h)
  | succ n ih =>
    intro x1 x2 x3 x4 S ls hl h
    exact w_X0_greatestPart_b3 C ih hl h
set_option maxRecDepth 20000 in
theorem w_X0_greatestPart_b0 {w : zWd} {X : zX} {l0 : Launch} {r : Int32} {S1 : zMem} (C : zC LC w X l0 cX0_greatestPart RX0 7 2 (some .int)) {x1 : Int32} {x2 : Int32} {x3 : Int32} {S : zMem} {ls : Array Slot} (hl : lv_has ls 7 [(0, .ref (w.2.2.1 65)), (1, .int x1), (2, .int x2), (3, .int x3)]) (h : X0_greatestPart_b0 x1 x2 x3 S = some (r, S1)) : zV LC w X (some (.int r)) S1 S 0 ls [] := by
  unfold X0_greatestPart_b0 at h
  refine v_iconst 0 C (v := (0 : Int32)) dX0_greatestPart_0 (by decide) ?_
  refine v_istore 1 C [(4, .int (0 : Int32)), (0, .ref (w.2.2.1 65)), (1, .int x1), (2, .int x2), (3, .int x3)] dX0_greatestPart_1 hl (by decide) rfl (fun ls hl => ?_)
  exact w_X0_greatestPart_l3 C zF _ _ _ _ _ _ (lv_sub hl [1, 2, 3, 4, 0] rfl) h
theorem c_X0_greatestPart {w : zWd} {l0 : Launch} {x1 : Int32} {x2 : Int32} {x3 : Int32} {S S1 : zMem} {r : Int32} (h : f_X0_greatestPart x1 x2 x3 S = some (r, S1)) : zMet LC w l0 yX0_greatestPart cX0_greatestPart 7 (some .int) 2 [.ref (w.2.2.1 65), .int x1, .int x2, .int x3] S (some (.int r)) S1 :=
  zMet_of (by decide +kernel) (Nat.le_of_ble_eq_true rfl) (fun X ls C hl => w_X0_greatestPart_b0 C hl h)
theorem ml_X0_34 : Cond.methodLink RX0 34 yX0_greatestPart ∈ zT := zT_of (List.mem_of_getElem? (i := 739) (by decide +kernel)) rfl
theorem hy_X0_greatestPart : zYv yX0_greatestPart cX0_greatestPart 7 (some .int) 3 := ⟨⟨zT_of (List.mem_of_getElem? (i := 742) (by decide +kernel)) rfl, zT_of (List.mem_of_getElem? (i := 76) (by decide +kernel)) rfl, by decide, by decide +kernel, by decide +kernel, by decide +kernel⟩, zT_of (List.mem_of_getElem? (i := 740) (by decide +kernel)) rfl, zT_of (List.mem_of_getElem? (i := 741) (by decide +kernel)) rfl⟩
theorem dX0_bestMood_0 : decode cX0_bestMood 0 = .ok (.iconst 0, 1) := by decide +kernel
theorem dX0_bestMood_1 : decode cX0_bestMood 1 = .ok (.istore_n 3, 1) := by decide +kernel
theorem dX0_bestMood_2 : decode cX0_bestMood 2 = .ok (.aload_n 0, 1) := by decide +kernel
theorem dX0_bestMood_3 : decode cX0_bestMood 3 = .ok (.iload_n 1, 1) := by decide +kernel
theorem dX0_bestMood_4 : decode cX0_bestMood 4 = .ok (.iload_n 2, 1) := by decide +kernel
theorem dX0_bestMood_5 : decode cX0_bestMood 5 = .ok (.iconst 0, 1) := by decide +kernel
theorem dX0_bestMood_6 : decode cX0_bestMood 6 = .ok (.invokevirtual 34, 3) := by decide +kernel
theorem dX0_bestMood_9 : decode cX0_bestMood 9 = .ok (.istore 4, 2) := by decide +kernel
theorem dX0_bestMood_11 : decode cX0_bestMood 11 = .ok (.iconst 1, 1) := by decide +kernel
theorem dX0_bestMood_12 : decode cX0_bestMood 12 = .ok (.istore 5, 2) := by decide +kernel
theorem dX0_bestMood_14 : decode cX0_bestMood 14 = .ok (.iload 5, 2) := by decide +kernel
theorem dX0_bestMood_16 : decode cX0_bestMood 16 = .ok (.bipush 9, 2) := by decide +kernel
theorem dX0_bestMood_18 : decode cX0_bestMood 18 = .ok (.if_icmp .gt 33, 3) := by decide +kernel
theorem dX0_bestMood_21 : decode cX0_bestMood 21 = .ok (.aload_n 0, 1) := by decide +kernel
theorem dX0_bestMood_22 : decode cX0_bestMood 22 = .ok (.iload_n 1, 1) := by decide +kernel
theorem dX0_bestMood_23 : decode cX0_bestMood 23 = .ok (.iload_n 2, 1) := by decide +kernel
theorem dX0_bestMood_24 : decode cX0_bestMood 24 = .ok (.iload 5, 2) := by decide +kernel
theorem dX0_bestMood_26 : decode cX0_bestMood 26 = .ok (.invokevirtual 34, 3) := by decide +kernel
theorem dX0_bestMood_29 : decode cX0_bestMood 29 = .ok (.istore 6, 2) := by decide +kernel
theorem dX0_bestMood_31 : decode cX0_bestMood 31 = .ok (.iload 6, 2) := by decide +kernel
theorem dX0_bestMood_33 : decode cX0_bestMood 33 = .ok (.iload 4, 2) := by decide +kernel
theorem dX0_bestMood_35 : decode cX0_bestMood 35 = .ok (.if_icmp .ge 10, 3) := by decide +kernel
theorem dX0_bestMood_38 : decode cX0_bestMood 38 = .ok (.iload 6, 2) := by decide +kernel
theorem dX0_bestMood_40 : decode cX0_bestMood 40 = .ok (.istore 4, 2) := by decide +kernel
theorem dX0_bestMood_42 : decode cX0_bestMood 42 = .ok (.iload 5, 2) := by decide +kernel
theorem dX0_bestMood_44 : decode cX0_bestMood 44 = .ok (.istore_n 3, 1) := by decide +kernel
theorem dX0_bestMood_45 : decode cX0_bestMood 45 = .ok (.iinc 5 1, 3) := by decide +kernel
theorem dX0_bestMood_48 : decode cX0_bestMood 48 = .ok (.goto (-34), 3) := by decide +kernel
theorem dX0_bestMood_51 : decode cX0_bestMood 51 = .ok (.iload_n 3, 1) := by decide +kernel
theorem dX0_bestMood_52 : decode cX0_bestMood 52 = .ok (.ireturn, 1) := by decide +kernel
set_option maxRecDepth 20000 in
theorem w_X0_bestMood_b45 {w : zWd} {X : zX} {l0 : Launch} {r : Int32} {S1 : zMem} (C : zC LC w X l0 cX0_bestMood RX0 7 3 (some .int)) {k14 : Int32 → Int32 → Int32 → Int32 → Int32 → zMem → Option (Int32 × zMem)} (hc14 : ∀ (x1 : Int32) (x2 : Int32) (x3 : Int32) (x4 : Int32) (x5 : Int32) (S : zMem) (ls : Array Slot), lv_has ls 7 [(0, .ref (w.2.2.1 65)), (1, .int x1), (2, .int x2), (3, .int x3), (4, .int x4), (5, .int x5)] → k14 x1 x2 x3 x4 x5 S = some (r, S1) → zV LC w X (some (.int r)) S1 S 14 ls []) {x1 : Int32} {x2 : Int32} {x3 : Int32} {x4 : Int32} {x5 : Int32} {S : zMem} {ls : Array Slot} (hl : lv_has ls 7 [(0, .ref (w.2.2.1 65)), (1, .int x1), (2, .int x2), (3, .int x3), (4, .int x4), (5, .int x5)]) (h : X0_bestMood_b45 k14 x1 x2 x3 x4 x5 S = some (r, S1)) : zV LC w X (some (.int r)) S1 S 45 ls [] := by
  unfold X0_bestMood_b45 at h
  refine v_iinc 45 C (nn := (1 : Int32)) (fun v => [(5, .int v), (0, .ref (w.2.2.1 65)), (1, .int x1), (2, .int x2), (3, .int x3), (4, .int x4)]) dX0_bestMood_45 hl (k := 5) rfl (by decide) (by decide) (fun _ => rfl) h (fun v1 ls hl h => ?_)
  refine v_goto 48 14 C dX0_bestMood_48 (by decide) ?_
  exact hc14 _ _ _ _ _ _ _ (lv_sub hl [1, 2, 3, 4, 5, 0] rfl) h
set_option maxRecDepth 20000 in
theorem w_X0_bestMood_b14 {w : zWd} {X : zX} {l0 : Launch} {r : Int32} {S1 : zMem} (C : zC LC w X l0 cX0_bestMood RX0 7 3 (some .int)) {k14 : Int32 → Int32 → Int32 → Int32 → Int32 → zMem → Option (Int32 × zMem)} (hc14 : ∀ (x1 : Int32) (x2 : Int32) (x3 : Int32) (x4 : Int32) (x5 : Int32) (S : zMem) (ls : Array Slot), lv_has ls 7 [(0, .ref (w.2.2.1 65)), (1, .int x1), (2, .int x2), (3, .int x3), (4, .int x4), (5, .int x5)] → k14 x1 x2 x3 x4 x5 S = some (r, S1) → zV LC w X (some (.int r)) S1 S 14 ls []) {x1 : Int32} {x2 : Int32} {x3 : Int32} {x4 : Int32} {x5 : Int32} {S : zMem} {ls : Array Slot} (hl : lv_has ls 7 [(0, .ref (w.2.2.1 65)), (1, .int x1), (2, .int x2), (3, .int x3), (4, .int x4), (5, .int x5)]) (h : X0_bestMood_b14 k14 x1 x2 x3 x4 x5 S = some (r, S1)) : zV LC w X (some (.int r)) S1 S 14 ls [] := by
  unfold X0_bestMood_b14 at h
  refine v_iload 14 C dX0_bestMood_14 (lv_at hl 5 rfl) ?_
  refine v_bipush 16 C (v := (9 : Int32)) dX0_bestMood_16 (by decide) ?_
  refine v_icmp_gt 18 51 C dX0_bestMood_18 (by decide) h (fun h => ?_) (fun h => ?_)
  · refine v_iload_n 51 C dX0_bestMood_51 rfl (lv_at hl 3 rfl) ?_
    exact v_ireturn 52 C dX0_bestMood_52 h
  · refine v_aload_n 21 C dX0_bestMood_21 rfl (lv_at hl 0 rfl) ?_
    refine v_iload_n 22 C dX0_bestMood_22 rfl (lv_at hl 1 rfl) ?_
    refine v_iload_n 23 C dX0_bestMood_23 rfl (lv_at hl 2 rfl) ?_
    refine v_iload 24 C dX0_bestMood_24 (lv_at hl 5 rfl) ?_
    obtain ⟨v1, S, hc, h⟩ := zb_e h
    refine v_callVi 26 C (ci := 0) [] dX0_bestMood_26 ml_X0_34 hy_X0_greatestPart (c_X0_greatestPart  hc) (by decide) rfl hl.1 kC_65 rfl (Nat.le_of_ble_eq_true rfl) rfl ?_
    refine v_istore 29 C [(6, .int v1), (0, .ref (w.2.2.1 65)), (1, .int x1), (2, .int x2), (3, .int x3), (4, .int x4), (5, .int x5)] dX0_bestMood_29 hl (by decide) rfl (fun ls hl => ?_)
    refine v_iload 31 C dX0_bestMood_31 (lv_at hl 0 rfl) ?_
    refine v_iload 33 C dX0_bestMood_33 (lv_at hl 5 rfl) ?_
    refine v_icmp_ge 35 45 C dX0_bestMood_35 (by decide) h (fun h => ?_) (fun h => ?_)
    · exact w_X0_bestMood_b45 C hc14 (lv_sub hl [1, 2, 3, 4, 5, 6] rfl) h
    · refine v_iload 38 C dX0_bestMood_38 (lv_at hl 0 rfl) ?_
      refine v_istore 40 C [(4, .int v1), (6, .int v1), (0, .ref (w.2.2.1 65)), (1, .int x1), (2, .int x2), (3, .int x3), (5, .int x5)] dX0_bestMood_40 hl (by decide) rfl (fun ls hl => ?_)
      refine v_iload 42 C dX0_bestMood_42 (lv_at hl 6 rfl) ?_
      refine v_istore_n 44 C [(3, .int x5), (4, .int v1), (6, .int v1), (0, .ref (w.2.2.1 65)), (1, .int x1), (2, .int x2), (5, .int x5)] dX0_bestMood_44 rfl hl (by decide) rfl (fun ls hl => ?_)
      exact w_X0_bestMood_b45 C hc14 (lv_sub hl [3, 4, 5, 0, 1, 6] rfl) h
theorem w_X0_bestMood_l14 {w : zWd} {X : zX} {l0 : Launch} {r : Int32} {S1 : zMem} (C : zC LC w X l0 cX0_bestMood RX0 7 3 (some .int)) : ∀ (n : Nat) (x1 : Int32) (x2 : Int32) (x3 : Int32) (x4 : Int32) (x5 : Int32) (S : zMem) (ls : Array Slot), lv_has ls 7 [(0, .ref (w.2.2.1 65)), (1, .int x1), (2, .int x2), (3, .int x3), (4, .int x4), (5, .int x5)] → X0_bestMood_l14 n x1 x2 x3 x4 x5 S = some (r, S1) → zV LC w X (some (.int r)) S1 S 14 ls [] := by
  intro n
  induction n with
  | zero =>
    intro x1 x2 x3 x4 x5 S ls hl h
    cases (show (none : Option (Int32 × zMem)) = some _ from h)
  | succ n ih =>
    intro x1 x2 x3 x4 x5 S ls hl h
    exact w_X0_bestMood_b14 C ih hl h
set_option maxRecDepth 20000 in
theorem w_X0_bestMood_b0 {w : zWd} {X : zX} {l0 : Launch} {r : Int32} {S1 : zMem} (C : zC LC w X l0 cX0_bestMood RX0 7 3 (some .int)) {x1 : Int32} {x2 : Int32} {S : zMem} {ls : Array Slot} (hl : lv_has ls 7 [(0, .ref (w.2.2.1 65)), (1, .int x1), (2, .int x2)]) (h : X0_bestMood_b0 x1 x2 S = some (r, S1)) : zV LC w X (some (.int r)) S1 S 0 ls [] := by
  unfold X0_bestMood_b0 at h
  refine v_iconst 0 C (v := (0 : Int32)) dX0_bestMood_0 (by decide) ?_
  refine v_istore_n 1 C [(3, .int (0 : Int32)), (0, .ref (w.2.2.1 65)), (1, .int x1), (2, .int x2)] dX0_bestMood_1 rfl hl (by decide) rfl (fun ls hl => ?_)
  refine v_aload_n 2 C dX0_bestMood_2 rfl (lv_at hl 1 rfl) ?_
  refine v_iload_n 3 C dX0_bestMood_3 rfl (lv_at hl 2 rfl) ?_
  refine v_iload_n 4 C dX0_bestMood_4 rfl (lv_at hl 3 rfl) ?_
  refine v_iconst 5 C (v := (0 : Int32)) dX0_bestMood_5 (by decide) ?_
  obtain ⟨v1, S, hc, h⟩ := zb_e h
  refine v_callVi 6 C (ci := 0) [] dX0_bestMood_6 ml_X0_34 hy_X0_greatestPart (c_X0_greatestPart  hc) (by decide) rfl hl.1 kC_65 rfl (Nat.le_of_ble_eq_true rfl) rfl ?_
  refine v_istore 9 C [(4, .int v1), (3, .int (0 : Int32)), (0, .ref (w.2.2.1 65)), (1, .int x1), (2, .int x2)] dX0_bestMood_9 hl (by decide) rfl (fun ls hl => ?_)
  refine v_iconst 11 C (v := (1 : Int32)) dX0_bestMood_11 (by decide) ?_
  refine v_istore 12 C [(5, .int (1 : Int32)), (4, .int v1), (3, .int (0 : Int32)), (0, .ref (w.2.2.1 65)), (1, .int x1), (2, .int x2)] dX0_bestMood_12 hl (by decide) rfl (fun ls hl => ?_)
  exact w_X0_bestMood_l14 C zF _ _ _ _ _ _ _ (lv_sub hl [3, 4, 5, 2, 1, 0] rfl) h
theorem c_X0_bestMood {w : zWd} {l0 : Launch} {x1 : Int32} {x2 : Int32} {S S1 : zMem} {r : Int32} (h : f_X0_bestMood x1 x2 S = some (r, S1)) : zMet LC w l0 yX0_bestMood cX0_bestMood 7 (some .int) 3 [.ref (w.2.2.1 65), .int x1, .int x2] S (some (.int r)) S1 :=
  zMet_of (by decide +kernel) (Nat.le_of_ble_eq_true rfl) (fun X ls C hl => w_X0_bestMood_b0 C hl h)
theorem fl_X8_65 : zFL RX8 65 7 9 := ⟨_, rfl, by decide, zT_of (List.mem_of_getElem? (i := 326) (by decide +kernel)) rfl⟩
theorem ml_X8_283 : Cond.methodLink RX8 283 yX0_bestMood ∈ zT := zT_of (List.mem_of_getElem? (i := 735) (by decide +kernel)) rfl
theorem hy_X0_bestMood : zYv yX0_bestMood cX0_bestMood 7 (some .int) 2 := ⟨⟨zT_of (List.mem_of_getElem? (i := 738) (by decide +kernel)) rfl, zT_of (List.mem_of_getElem? (i := 76) (by decide +kernel)) rfl, by decide, by decide +kernel, by decide +kernel, by decide +kernel⟩, zT_of (List.mem_of_getElem? (i := 736) (by decide +kernel)) rfl, zT_of (List.mem_of_getElem? (i := 737) (by decide +kernel)) rfl⟩
theorem ml_X8_286 : Cond.methodLink RX8 286 yX0_greatestPart ∈ zT := zT_of (List.mem_of_getElem? (i := 744) (by decide +kernel)) rfl
theorem dX8_test_0 : decode cX8_test 0 = .ok (.aload_n 0, 1) := by decide +kernel
theorem dX8_test_1 : decode cX8_test 1 = .ok (.iload_n 1, 1) := by decide +kernel
theorem dX8_test_2 : decode cX8_test 2 = .ok (.invokevirtual 159, 3) := by decide +kernel
theorem dX8_test_5 : decode cX8_test 5 = .ok (.ifCond .eq 10, 3) := by decide +kernel
theorem dX8_test_8 : decode cX8_test 8 = .ok (.iload_n 2, 1) := by decide +kernel
theorem dX8_test_9 : decode cX8_test 9 = .ok (.invokestatic 80, 3) := by decide +kernel
theorem dX8_test_12 : decode cX8_test 12 = .ok (.ifCond .ne 5, 3) := by decide +kernel
theorem dX8_test_15 : decode cX8_test 15 = .ok (.iconst (-1), 1) := by decide +kernel
theorem dX8_test_16 : decode cX8_test 16 = .ok (.ireturn, 1) := by decide +kernel
theorem dX8_test_17 : decode cX8_test 17 = .ok (.aload_n 0, 1) := by decide +kernel
theorem dX8_test_18 : decode cX8_test 18 = .ok (.getfield 11, 3) := by decide +kernel
theorem dX8_test_21 : decode cX8_test 21 = .ok (.iload_n 2, 1) := by decide +kernel
theorem dX8_test_22 : decode cX8_test 22 = .ok (.aaload, 1) := by decide +kernel
theorem dX8_test_23 : decode cX8_test 23 = .ok (.invokestatic 273, 3) := by decide +kernel
theorem dX8_test_26 : decode cX8_test 26 = .ok (.istore_n 3, 1) := by decide +kernel
theorem dX8_test_27 : decode cX8_test 27 = .ok (.iload_n 3, 1) := by decide +kernel
theorem dX8_test_28 : decode cX8_test 28 = .ok (.ifCond .eq 9, 3) := by decide +kernel
theorem dX8_test_31 : decode cX8_test 31 = .ok (.aload_n 0, 1) := by decide +kernel
theorem dX8_test_32 : decode cX8_test 32 = .ok (.iload_n 3, 1) := by decide +kernel
theorem dX8_test_33 : decode cX8_test 33 = .ok (.invokevirtual 84, 3) := by decide +kernel
theorem dX8_test_36 : decode cX8_test 36 = .ok (.ireturn, 1) := by decide +kernel
theorem dX8_test_37 : decode cX8_test 37 = .ok (.aload_n 0, 1) := by decide +kernel
theorem dX8_test_38 : decode cX8_test 38 = .ok (.getfield 21, 3) := by decide +kernel
theorem dX8_test_41 : decode cX8_test 41 = .ok (.getfield 167, 3) := by decide +kernel
theorem dX8_test_44 : decode cX8_test 44 = .ok (.iload_n 1, 1) := by decide +kernel
theorem dX8_test_45 : decode cX8_test 45 = .ok (.iaload, 1) := by decide +kernel
theorem dX8_test_46 : decode cX8_test 46 = .ok (.aload_n 0, 1) := by decide +kernel
theorem dX8_test_47 : decode cX8_test 47 = .ok (.getfield 11, 3) := by decide +kernel
theorem dX8_test_50 : decode cX8_test 50 = .ok (.iload_n 2, 1) := by decide +kernel
theorem dX8_test_51 : decode cX8_test 51 = .ok (.aaload, 1) := by decide +kernel
theorem dX8_test_52 : decode cX8_test 52 = .ok (.invokestatic 276, 3) := by decide +kernel
theorem dX8_test_55 : decode cX8_test 55 = .ok (.istore 4, 2) := by decide +kernel
theorem dX8_test_57 : decode cX8_test 57 = .ok (.iload 4, 2) := by decide +kernel
theorem dX8_test_59 : decode cX8_test 59 = .ok (.ifCond .ne 6, 3) := by decide +kernel
theorem dX8_test_62 : decode cX8_test 62 = .ok (.bipush (-9), 2) := by decide +kernel
theorem dX8_test_64 : decode cX8_test 64 = .ok (.ireturn, 1) := by decide +kernel
theorem dX8_test_65 : decode cX8_test 65 = .ok (.aload_n 0, 1) := by decide +kernel
theorem dX8_test_66 : decode cX8_test 66 = .ok (.getfield 65, 3) := by decide +kernel
theorem dX8_test_69 : decode cX8_test 69 = .ok (.aload_n 0, 1) := by decide +kernel
theorem dX8_test_70 : decode cX8_test 70 = .ok (.getfield 21, 3) := by decide +kernel
theorem dX8_test_73 : decode cX8_test 73 = .ok (.getfield 167, 3) := by decide +kernel
theorem dX8_test_76 : decode cX8_test 76 = .ok (.iload_n 1, 1) := by decide +kernel
theorem dX8_test_77 : decode cX8_test 77 = .ok (.iaload, 1) := by decide +kernel
theorem dX8_test_78 : decode cX8_test 78 = .ok (.iload 4, 2) := by decide +kernel
theorem dX8_test_80 : decode cX8_test 80 = .ok (.invokevirtual 283, 3) := by decide +kernel
theorem dX8_test_83 : decode cX8_test 83 = .ok (.istore 5, 2) := by decide +kernel
theorem dX8_test_85 : decode cX8_test 85 = .ok (.aload_n 0, 1) := by decide +kernel
theorem dX8_test_86 : decode cX8_test 86 = .ok (.aload_n 0, 1) := by decide +kernel
theorem dX8_test_87 : decode cX8_test 87 = .ok (.getfield 65, 3) := by decide +kernel
theorem dX8_test_90 : decode cX8_test 90 = .ok (.aload_n 0, 1) := by decide +kernel
theorem dX8_test_91 : decode cX8_test 91 = .ok (.getfield 21, 3) := by decide +kernel
theorem dX8_test_94 : decode cX8_test 94 = .ok (.getfield 167, 3) := by decide +kernel
theorem dX8_test_97 : decode cX8_test 97 = .ok (.iload_n 1, 1) := by decide +kernel
theorem dX8_test_98 : decode cX8_test 98 = .ok (.iaload, 1) := by decide +kernel
theorem dX8_test_99 : decode cX8_test 99 = .ok (.iload 4, 2) := by decide +kernel
theorem dX8_test_101 : decode cX8_test 101 = .ok (.iload 5, 2) := by decide +kernel
theorem dX8_test_103 : decode cX8_test 103 = .ok (.invokevirtual 286, 3) := by decide +kernel
theorem dX8_test_106 : decode cX8_test 106 = .ok (.invokevirtual 102, 3) := by decide +kernel
theorem dX8_test_109 : decode cX8_test 109 = .ok (.pop, 1) := by decide +kernel
theorem dX8_test_110 : decode cX8_test 110 = .ok (.iload 5, 2) := by decide +kernel
theorem dX8_test_112 : decode cX8_test 112 = .ok (.ireturn, 1) := by decide +kernel
set_option maxRecDepth 20000 in
theorem w_X8_test_b15 {w : zWd} {X : zX} {l0 : Launch} {r : Int32} {S1 : zMem} (C : zC LC w X l0 cX8_test RX8 6 4 (some .int)) {S : zMem} {ls : Array Slot} (hl : lv_has ls 6 []) (h : X8_test_b15  S = some (r, S1)) : zV LC w X (some (.int r)) S1 S 15 ls [] := by
  unfold X8_test_b15 at h
  refine v_iconst 15 C (v := (-1 : Int32)) dX8_test_15 (by decide) ?_
  exact v_ireturn 16 C dX8_test_16 h
set_option maxRecDepth 20000 in
theorem w_X8_test_b0 {w : zWd} {X : zX} {l0 : Launch} {r : Int32} {S1 : zMem} (C : zC LC w X l0 cX8_test RX8 6 4 (some .int)) {x1 : Int32} {x2 : Int32} {S : zMem} {ls : Array Slot} (hl : lv_has ls 6 [(0, .ref (w.2.2.1 0)), (1, .int x1), (2, .int x2)]) (h : X8_test_b0 x1 x2 S = some (r, S1)) : zV LC w X (some (.int r)) S1 S 0 ls [] := by
  unfold X8_test_b0 at h
  refine v_aload_n 0 C dX8_test_0 rfl (lv_at hl 0 rfl) ?_
  refine v_iload_n 1 C dX8_test_1 rfl (lv_at hl 1 rfl) ?_
  obtain ⟨v1, S, hc, h⟩ := zb_e h
  refine v_callVi 2 C (ci := 7) [] dX8_test_2 ml_X8_159 hy_X8_isLetter (c_X8_isLetter  hc) (by decide) rfl hl.1 kC_0 rfl (Nat.le_of_ble_eq_true rfl) rfl ?_
  refine v_if_eq 5 15 C dX8_test_5 (by decide) h (fun h => ?_) (fun h => ?_)
  · exact w_X8_test_b15 C (lv_sub hl [] rfl) h
  · refine v_iload_n 8 C dX8_test_8 rfl (lv_at hl 2 rfl) ?_
    obtain ⟨v2, S, hc, h⟩ := zb_e h
    refine v_callSi 9 C [] dX8_test_9 ml_X8_80 hy_X8_isRow (c_X8_isRow  hc) (by decide) rfl hl.1 (Nat.le_of_ble_eq_true rfl) rfl ?_
    refine v_if_ne 12 17 C dX8_test_12 (by decide) h (fun h => ?_) (fun h => ?_)
    · refine v_aload_n 17 C dX8_test_17 rfl (lv_at hl 0 rfl) ?_
      refine v_getr 18 (1) C dX8_test_18 fl_X8_11 rfl kC_0 rfl ?_
      refine v_iload_n 21 C dX8_test_21 rfl (lv_at hl 2 rfl) ?_
      refine v_aald 22 (4 + 2 * Int32.toNatClampNeg x2) C dX8_test_22 kC_1 (Or.inl rfl) rfl rfl h (fun hz3 h => ?_)
      obtain ⟨v4, S, hc, h⟩ := zb_e h
      refine v_callSi 23 C [] dX8_test_23 ml_X8_273 hy_X8_wrongPairs (c_X8_wrongPairs (kRow hz3) hc) (by decide) rfl hl.1 (Nat.le_of_ble_eq_true rfl) rfl ?_
      refine v_istore_n 26 C [(3, .int v4), (0, .ref (w.2.2.1 0)), (1, .int x1), (2, .int x2)] dX8_test_26 rfl hl (by decide) rfl (fun ls hl => ?_)
      refine v_iload_n 27 C dX8_test_27 rfl (lv_at hl 0 rfl) ?_
      refine v_if_eq 28 37 C dX8_test_28 (by decide) h (fun h => ?_) (fun h => ?_)
      · refine v_aload_n 37 C dX8_test_37 rfl (lv_at hl 1 rfl) ?_
        refine v_getr 38 (24) C dX8_test_38 fl_X8_21 rfl kC_0 rfl ?_
        refine v_getr 41 (26) C dX8_test_41 fl_X8_167 rfl kC_24 rfl ?_
        refine v_iload_n 44 C dX8_test_44 rfl (lv_at hl 2 rfl) ?_
        refine v_iald 45 C dX8_test_45 kC_26 rfl h (fun v5 h => ?_)
        refine v_aload_n 46 C dX8_test_46 rfl (lv_at hl 1 rfl) ?_
        refine v_getr 47 (1) C dX8_test_47 fl_X8_11 rfl kC_0 rfl ?_
        refine v_iload_n 50 C dX8_test_50 rfl (lv_at hl 3 rfl) ?_
        refine v_aald 51 (4 + 2 * Int32.toNatClampNeg x2) C dX8_test_51 kC_1 (Or.inl rfl) rfl rfl h (fun hz6 h => ?_)
        obtain ⟨v7, S, hc, h⟩ := zb_e h
        refine v_callSi 52 C [] dX8_test_52 ml_X8_276 hy_X0_wordsFor (c_X0_wordsFor (kRow hz6) hc) (by decide) rfl hl.1 (Nat.le_of_ble_eq_true rfl) rfl ?_
        refine v_istore 55 C [(4, .int v7), (3, .int v4), (0, .ref (w.2.2.1 0)), (1, .int x1), (2, .int x2)] dX8_test_55 hl (by decide) rfl (fun ls hl => ?_)
        refine v_iload 57 C dX8_test_57 (lv_at hl 0 rfl) ?_
        refine v_if_ne 59 65 C dX8_test_59 (by decide) h (fun h => ?_) (fun h => ?_)
        · refine v_aload_n 65 C dX8_test_65 rfl (lv_at hl 2 rfl) ?_
          refine v_getr 66 (65) C dX8_test_66 fl_X8_65 rfl kC_0 rfl ?_
          refine v_aload_n 69 C dX8_test_69 rfl (lv_at hl 2 rfl) ?_
          refine v_getr 70 (24) C dX8_test_70 fl_X8_21 rfl kC_0 rfl ?_
          refine v_getr 73 (26) C dX8_test_73 fl_X8_167 rfl kC_24 rfl ?_
          refine v_iload_n 76 C dX8_test_76 rfl (lv_at hl 3 rfl) ?_
          refine v_iald 77 C dX8_test_77 kC_26 rfl h (fun v8 h => ?_)
          refine v_iload 78 C dX8_test_78 (lv_at hl 0 rfl) ?_
          obtain ⟨v9, S, hc, h⟩ := zb_e h
          refine v_callVi 80 C (ci := 0) [] dX8_test_80 ml_X8_283 hy_X0_bestMood (c_X0_bestMood  hc) (by decide) rfl hl.1 kC_65 rfl (Nat.le_of_ble_eq_true rfl) rfl ?_
          refine v_istore 83 C [(5, .int v9), (4, .int v7), (3, .int v4), (0, .ref (w.2.2.1 0)), (1, .int x1), (2, .int x2)] dX8_test_83 hl (by decide) rfl (fun ls hl => ?_)
          refine v_aload_n 85 C dX8_test_85 rfl (lv_at hl 3 rfl) ?_
          refine v_aload_n 86 C dX8_test_86 rfl (lv_at hl 3 rfl) ?_
          refine v_getr 87 (65) C dX8_test_87 fl_X8_65 rfl kC_0 rfl ?_
          refine v_aload_n 90 C dX8_test_90 rfl (lv_at hl 3 rfl) ?_
          refine v_getr 91 (24) C dX8_test_91 fl_X8_21 rfl kC_0 rfl ?_
          refine v_getr 94 (26) C dX8_test_94 fl_X8_167 rfl kC_24 rfl ?_
          refine v_iload_n 97 C dX8_test_97 rfl (lv_at hl 4 rfl) ?_
          refine v_iald 98 C dX8_test_98 kC_26 rfl h (fun v10 h => ?_)
          refine v_iload 99 C dX8_test_99 (lv_at hl 1 rfl) ?_
          refine v_iload 101 C dX8_test_101 (lv_at hl 0 rfl) ?_
          obtain ⟨v11, S, hc, h⟩ := zb_e h
          refine v_callVi 103 C (ci := 0) [.ref (w.2.2.1 0)] dX8_test_103 ml_X8_286 hy_X0_greatestPart (c_X0_greatestPart  hc) (by decide) rfl hl.1 kC_65 rfl (Nat.le_of_ble_eq_true rfl) rfl ?_
          obtain ⟨v12, S, hc, h⟩ := zb_e h
          refine v_callVi 106 C (ci := 7) [] dX8_test_106 ml_X8_102 hy_X8_tell (c_X8_tell  hc) (by decide) rfl hl.1 kC_0 rfl (Nat.le_of_ble_eq_true rfl) rfl ?_
          refine v_pop 109 C dX8_test_109 rfl ?_
          refine v_iload 110 C dX8_test_110 (lv_at hl 0 rfl) ?_
          exact v_ireturn 112 C dX8_test_112 h
        · refine v_bipush 62 C (v := (-9 : Int32)) dX8_test_62 (by decide) ?_
          exact v_ireturn 64 C dX8_test_64 h
      · refine v_aload_n 31 C dX8_test_31 rfl (lv_at hl 1 rfl) ?_
        refine v_iload_n 32 C dX8_test_32 rfl (lv_at hl 0 rfl) ?_
        obtain ⟨v13, S, hc, h⟩ := zb_e h
        refine v_callVi 33 C (ci := 7) [] dX8_test_33 ml_X8_84 hy_X8_refuse (c_X8_refuse  hc) (by decide) rfl hl.1 kC_0 rfl (Nat.le_of_ble_eq_true rfl) rfl ?_
        exact v_ireturn 36 C dX8_test_36 h
    · exact w_X8_test_b15 C (lv_sub hl [] rfl) h
theorem c_X8_test {w : zWd} {l0 : Launch} {x1 : Int32} {x2 : Int32} {S S1 : zMem} {r : Int32} (h : f_X8_test x1 x2 S = some (r, S1)) : zMet LC w l0 yX8_test cX8_test 6 (some .int) 4 [.ref (w.2.2.1 0), .int x1, .int x2] S (some (.int r)) S1 :=
  zMet_of (by decide +kernel) (Nat.le_of_ble_eq_true rfl) (fun X ls C hl => w_X8_test_b0 C hl h)
theorem dX6_wordsOf_0 : decode cX6_wordsOf 0 = .ok (.iconst 0, 1) := by decide +kernel
theorem dX6_wordsOf_1 : decode cX6_wordsOf 1 = .ok (.istore_n 2, 1) := by decide +kernel
theorem dX6_wordsOf_2 : decode cX6_wordsOf 2 = .ok (.iconst 0, 1) := by decide +kernel
theorem dX6_wordsOf_3 : decode cX6_wordsOf 3 = .ok (.istore_n 3, 1) := by decide +kernel
theorem dX6_wordsOf_4 : decode cX6_wordsOf 4 = .ok (.iload_n 3, 1) := by decide +kernel
theorem dX6_wordsOf_5 : decode cX6_wordsOf 5 = .ok (.aload_n 0, 1) := by decide +kernel
theorem dX6_wordsOf_6 : decode cX6_wordsOf 6 = .ok (.getfield 28, 3) := by decide +kernel
theorem dX6_wordsOf_9 : decode cX6_wordsOf 9 = .ok (.if_icmp .ge 26, 3) := by decide +kernel
theorem dX6_wordsOf_12 : decode cX6_wordsOf 12 = .ok (.iload_n 1, 1) := by decide +kernel
theorem dX6_wordsOf_13 : decode cX6_wordsOf 13 = .ok (.iload_n 3, 1) := by decide +kernel
theorem dX6_wordsOf_14 : decode cX6_wordsOf 14 = .ok (.ishr, 1) := by decide +kernel
theorem dX6_wordsOf_15 : decode cX6_wordsOf 15 = .ok (.iconst 1, 1) := by decide +kernel
theorem dX6_wordsOf_16 : decode cX6_wordsOf 16 = .ok (.iand, 1) := by decide +kernel
theorem dX6_wordsOf_17 : decode cX6_wordsOf 17 = .ok (.ifCond .eq 12, 3) := by decide +kernel
theorem dX6_wordsOf_20 : decode cX6_wordsOf 20 = .ok (.iload_n 2, 1) := by decide +kernel
theorem dX6_wordsOf_21 : decode cX6_wordsOf 21 = .ok (.aload_n 0, 1) := by decide +kernel
theorem dX6_wordsOf_22 : decode cX6_wordsOf 22 = .ok (.getfield 21, 3) := by decide +kernel
theorem dX6_wordsOf_25 : decode cX6_wordsOf 25 = .ok (.iload_n 3, 1) := by decide +kernel
theorem dX6_wordsOf_26 : decode cX6_wordsOf 26 = .ok (.iaload, 1) := by decide +kernel
theorem dX6_wordsOf_27 : decode cX6_wordsOf 27 = .ok (.iadd, 1) := by decide +kernel
theorem dX6_wordsOf_28 : decode cX6_wordsOf 28 = .ok (.istore_n 2, 1) := by decide +kernel
theorem dX6_wordsOf_29 : decode cX6_wordsOf 29 = .ok (.iinc 3 1, 3) := by decide +kernel
theorem dX6_wordsOf_32 : decode cX6_wordsOf 32 = .ok (.goto (-28), 3) := by decide +kernel
theorem dX6_wordsOf_35 : decode cX6_wordsOf 35 = .ok (.iload_n 2, 1) := by decide +kernel
theorem dX6_wordsOf_36 : decode cX6_wordsOf 36 = .ok (.ireturn, 1) := by decide +kernel
set_option maxRecDepth 20000 in
theorem w_X6_wordsOf_b29 {w : zWd} {X : zX} {l0 : Launch} {r : Int32} {S1 : zMem} (C : zC LC w X l0 cX6_wordsOf RX6 4 1 (some .int)) {k4 : Int32 → Int32 → Int32 → zMem → Option (Int32 × zMem)} (hc4 : ∀ (x1 : Int32) (x2 : Int32) (x3 : Int32) (S : zMem) (ls : Array Slot), lv_has ls 4 [(0, .ref (w.2.2.1 24)), (1, .int x1), (2, .int x2), (3, .int x3)] → k4 x1 x2 x3 S = some (r, S1) → zV LC w X (some (.int r)) S1 S 4 ls []) {x1 : Int32} {x2 : Int32} {x3 : Int32} {S : zMem} {ls : Array Slot} (hl : lv_has ls 4 [(0, .ref (w.2.2.1 24)), (1, .int x1), (2, .int x2), (3, .int x3)]) (h : X6_wordsOf_b29 k4 x1 x2 x3 S = some (r, S1)) : zV LC w X (some (.int r)) S1 S 29 ls [] := by
  unfold X6_wordsOf_b29 at h
  refine v_iinc 29 C (nn := (1 : Int32)) (fun v => [(3, .int v), (0, .ref (w.2.2.1 24)), (1, .int x1), (2, .int x2)]) dX6_wordsOf_29 hl (k := 3) rfl (by decide) (by decide) (fun _ => rfl) h (fun v1 ls hl h => ?_)
  refine v_goto 32 4 C dX6_wordsOf_32 (by decide) ?_
  exact hc4 _ _ _ _ _ (lv_sub hl [1, 2, 3, 0] rfl) h
set_option maxRecDepth 20000 in
theorem w_X6_wordsOf_b4 {w : zWd} {X : zX} {l0 : Launch} {r : Int32} {S1 : zMem} (C : zC LC w X l0 cX6_wordsOf RX6 4 1 (some .int)) {k4 : Int32 → Int32 → Int32 → zMem → Option (Int32 × zMem)} (hc4 : ∀ (x1 : Int32) (x2 : Int32) (x3 : Int32) (S : zMem) (ls : Array Slot), lv_has ls 4 [(0, .ref (w.2.2.1 24)), (1, .int x1), (2, .int x2), (3, .int x3)] → k4 x1 x2 x3 S = some (r, S1) → zV LC w X (some (.int r)) S1 S 4 ls []) {x1 : Int32} {x2 : Int32} {x3 : Int32} {S : zMem} {ls : Array Slot} (hl : lv_has ls 4 [(0, .ref (w.2.2.1 24)), (1, .int x1), (2, .int x2), (3, .int x3)]) (h : X6_wordsOf_b4 k4 x1 x2 x3 S = some (r, S1)) : zV LC w X (some (.int r)) S1 S 4 ls [] := by
  unfold X6_wordsOf_b4 at h
  refine v_iload_n 4 C dX6_wordsOf_4 rfl (lv_at hl 3 rfl) ?_
  refine v_aload_n 5 C dX6_wordsOf_5 rfl (lv_at hl 0 rfl) ?_
  refine v_geti 6 C dX6_wordsOf_6 fl_X6_28 rfl kC_24 h (fun v1 h => ?_)
  refine v_icmp_ge 9 35 C dX6_wordsOf_9 (by decide) h (fun h => ?_) (fun h => ?_)
  · refine v_iload_n 35 C dX6_wordsOf_35 rfl (lv_at hl 2 rfl) ?_
    exact v_ireturn 36 C dX6_wordsOf_36 h
  · refine v_iload_n 12 C dX6_wordsOf_12 rfl (lv_at hl 1 rfl) ?_
    refine v_iload_n 13 C dX6_wordsOf_13 rfl (lv_at hl 3 rfl) ?_
    refine v_ishr 14 C dX6_wordsOf_14 h (fun v2 h => ?_)
    refine v_iconst 15 C (v := (1 : Int32)) dX6_wordsOf_15 (by decide) ?_
    refine v_iand 16 C dX6_wordsOf_16 h (fun v3 h => ?_)
    refine v_if_eq 17 29 C dX6_wordsOf_17 (by decide) h (fun h => ?_) (fun h => ?_)
    · exact w_X6_wordsOf_b29 C hc4 (lv_sub hl [0, 1, 2, 3] rfl) h
    · refine v_iload_n 20 C dX6_wordsOf_20 rfl (lv_at hl 2 rfl) ?_
      refine v_aload_n 21 C dX6_wordsOf_21 rfl (lv_at hl 0 rfl) ?_
      refine v_getr 22 (28) C dX6_wordsOf_22 fl_X6_21 rfl kC_24 rfl ?_
      refine v_iload_n 25 C dX6_wordsOf_25 rfl (lv_at hl 3 rfl) ?_
      refine v_iald 26 C dX6_wordsOf_26 kC_28 rfl h (fun v4 h => ?_)
      refine v_iadd 27 C dX6_wordsOf_27 h (fun v5 h => ?_)
      refine v_istore_n 28 C [(2, .int v5), (0, .ref (w.2.2.1 24)), (1, .int x1), (3, .int x3)] dX6_wordsOf_28 rfl hl (by decide) rfl (fun ls hl => ?_)
      exact w_X6_wordsOf_b29 C hc4 (lv_sub hl [1, 2, 0, 3] rfl) h
theorem w_X6_wordsOf_l4 {w : zWd} {X : zX} {l0 : Launch} {r : Int32} {S1 : zMem} (C : zC LC w X l0 cX6_wordsOf RX6 4 1 (some .int)) : ∀ (n : Nat) (x1 : Int32) (x2 : Int32) (x3 : Int32) (S : zMem) (ls : Array Slot), lv_has ls 4 [(0, .ref (w.2.2.1 24)), (1, .int x1), (2, .int x2), (3, .int x3)] → X6_wordsOf_l4 n x1 x2 x3 S = some (r, S1) → zV LC w X (some (.int r)) S1 S 4 ls [] := by
  intro n
  induction n with
  | zero =>
    intro x1 x2 x3 S ls hl h
    cases (show (none : Option (Int32 × zMem)) = some _ from h)
  | succ n ih =>
    intro x1 x2 x3 S ls hl h
    exact w_X6_wordsOf_b4 C ih hl h
set_option maxRecDepth 20000 in
theorem w_X6_wordsOf_b0 {w : zWd} {X : zX} {l0 : Launch} {r : Int32} {S1 : zMem} (C : zC LC w X l0 cX6_wordsOf RX6 4 1 (some .int)) {x1 : Int32} {S : zMem} {ls : Array Slot} (hl : lv_has ls 4 [(0, .ref (w.2.2.1 24)), (1, .int x1)]) (h : X6_wordsOf_b0 x1 S = some (r, S1)) : zV LC w X (some (.int r)) S1 S 0 ls [] := by
  unfold X6_wordsOf_b0 at h
  refine v_iconst 0 C (v := (0 : Int32)) dX6_wordsOf_0 (by decide) ?_
  refine v_istore_n 1 C [(2, .int (0 : Int32)), (0, .ref (w.2.2.1 24)), (1, .int x1)] dX6_wordsOf_1 rfl hl (by decide) rfl (fun ls hl => ?_)
  refine v_iconst 2 C (v := (0 : Int32)) dX6_wordsOf_2 (by decide) ?_
  refine v_istore_n 3 C [(3, .int (0 : Int32)), (2, .int (0 : Int32)), (0, .ref (w.2.2.1 24)), (1, .int x1)] dX6_wordsOf_3 rfl hl (by decide) rfl (fun ls hl => ?_)
  exact w_X6_wordsOf_l4 C zF _ _ _ _ _ (lv_sub hl [2, 3, 1, 0] rfl) h
theorem c_X6_wordsOf {w : zWd} {l0 : Launch} {x1 : Int32} {S S1 : zMem} {r : Int32} (h : f_X6_wordsOf x1 S = some (r, S1)) : zMet LC w l0 yX6_wordsOf cX6_wordsOf 4 (some .int) 1 [.ref (w.2.2.1 24), .int x1] S (some (.int r)) S1 :=
  zMet_of (by decide +kernel) (Nat.le_of_ble_eq_true rfl) (fun X ls C hl => w_X6_wordsOf_b0 C hl h)
theorem dX8_commonDivisor_0 : decode cX8_commonDivisor 0 = .ok (.lload_n 0, 1) := by decide +kernel
theorem dX8_commonDivisor_1 : decode cX8_commonDivisor 1 = .ok (.lstore 4, 2) := by decide +kernel
theorem dX8_commonDivisor_3 : decode cX8_commonDivisor 3 = .ok (.lload_n 2, 1) := by decide +kernel
theorem dX8_commonDivisor_4 : decode cX8_commonDivisor 4 = .ok (.lstore 6, 2) := by decide +kernel
theorem dX8_commonDivisor_6 : decode cX8_commonDivisor 6 = .ok (.iconst 0, 1) := by decide +kernel
theorem dX8_commonDivisor_7 : decode cX8_commonDivisor 7 = .ok (.istore 8, 2) := by decide +kernel
theorem dX8_commonDivisor_9 : decode cX8_commonDivisor 9 = .ok (.iload 8, 2) := by decide +kernel
theorem dX8_commonDivisor_11 : decode cX8_commonDivisor 11 = .ok (.bipush 100, 2) := by decide +kernel
theorem dX8_commonDivisor_13 : decode cX8_commonDivisor 13 = .ok (.if_icmp .ge 31, 3) := by decide +kernel
theorem dX8_commonDivisor_16 : decode cX8_commonDivisor 16 = .ok (.lload 6, 2) := by decide +kernel
theorem dX8_commonDivisor_18 : decode cX8_commonDivisor 18 = .ok (.lconst 0, 1) := by decide +kernel
theorem dX8_commonDivisor_19 : decode cX8_commonDivisor 19 = .ok (.lcmp, 1) := by decide +kernel
theorem dX8_commonDivisor_20 : decode cX8_commonDivisor 20 = .ok (.ifCond .eq 24, 3) := by decide +kernel
theorem dX8_commonDivisor_23 : decode cX8_commonDivisor 23 = .ok (.lload 4, 2) := by decide +kernel
theorem dX8_commonDivisor_25 : decode cX8_commonDivisor 25 = .ok (.lload 6, 2) := by decide +kernel
theorem dX8_commonDivisor_27 : decode cX8_commonDivisor 27 = .ok (.lrem, 1) := by decide +kernel
theorem dX8_commonDivisor_28 : decode cX8_commonDivisor 28 = .ok (.lstore 9, 2) := by decide +kernel
theorem dX8_commonDivisor_30 : decode cX8_commonDivisor 30 = .ok (.lload 6, 2) := by decide +kernel
theorem dX8_commonDivisor_32 : decode cX8_commonDivisor 32 = .ok (.lstore 4, 2) := by decide +kernel
theorem dX8_commonDivisor_34 : decode cX8_commonDivisor 34 = .ok (.lload 9, 2) := by decide +kernel
theorem dX8_commonDivisor_36 : decode cX8_commonDivisor 36 = .ok (.lstore 6, 2) := by decide +kernel
theorem dX8_commonDivisor_38 : decode cX8_commonDivisor 38 = .ok (.iinc 8 1, 3) := by decide +kernel
theorem dX8_commonDivisor_41 : decode cX8_commonDivisor 41 = .ok (.goto (-32), 3) := by decide +kernel
theorem dX8_commonDivisor_44 : decode cX8_commonDivisor 44 = .ok (.lload 4, 2) := by decide +kernel
theorem dX8_commonDivisor_46 : decode cX8_commonDivisor 46 = .ok (.lreturn, 1) := by decide +kernel
set_option maxRecDepth 20000 in
theorem w_X8_commonDivisor_b44 {w : zWd} {X : zX} {l0 : Launch} {r : Int64} {S1 : zMem} (C : zC LC w X l0 cX8_commonDivisor RX8 11 1 (some .long)) {y4 : Int64} {S : zMem} {ls : Array Slot} (hl : lv_has ls 11 [(4, .long y4)]) (h : X8_commonDivisor_b44 y4 S = some (r, S1)) : zV LC w X (some (.long r)) S1 S 44 ls [] := by
  unfold X8_commonDivisor_b44 at h
  refine v_lload 44 C dX8_commonDivisor_44 (lv_at hl 0 rfl) ?_
  exact v_lreturn 46 C dX8_commonDivisor_46 h
set_option maxRecDepth 20000 in
theorem w_X8_commonDivisor_b9 {w : zWd} {X : zX} {l0 : Launch} {r : Int64} {S1 : zMem} (C : zC LC w X l0 cX8_commonDivisor RX8 11 1 (some .long)) {k9 : Int64 → Int64 → Int32 → zMem → Option (Int64 × zMem)} (hc9 : ∀ (y4 : Int64) (y6 : Int64) (x8 : Int32) (S : zMem) (ls : Array Slot), lv_has ls 11 [(4, .long y4), (6, .long y6), (8, .int x8)] → k9 y4 y6 x8 S = some (r, S1) → zV LC w X (some (.long r)) S1 S 9 ls []) {y4 : Int64} {y6 : Int64} {x8 : Int32} {S : zMem} {ls : Array Slot} (hl : lv_has ls 11 [(4, .long y4), (6, .long y6), (8, .int x8)]) (h : X8_commonDivisor_b9 k9 y4 y6 x8 S = some (r, S1)) : zV LC w X (some (.long r)) S1 S 9 ls [] := by
  unfold X8_commonDivisor_b9 at h
  refine v_iload 9 C dX8_commonDivisor_9 (lv_at hl 2 rfl) ?_
  refine v_bipush 11 C (v := (100 : Int32)) dX8_commonDivisor_11 (by decide) ?_
  refine v_icmp_ge 13 44 C dX8_commonDivisor_13 (by decide) h (fun h => ?_) (fun h => ?_)
  · exact w_X8_commonDivisor_b44 C (lv_sub hl [0] rfl) h
  · refine v_lload 16 C dX8_commonDivisor_16 (lv_at hl 1 rfl) ?_
    refine v_lconst 18 C (v := 0) dX8_commonDivisor_18 (by decide) ?_
    refine v_lcmp 19 C dX8_commonDivisor_19 h (fun v1 h => ?_)
    refine v_if_eq 20 44 C dX8_commonDivisor_20 (by decide) h (fun h => ?_) (fun h => ?_)
    · exact w_X8_commonDivisor_b44 C (lv_sub hl [0] rfl) h
    · refine v_lload 23 C dX8_commonDivisor_23 (lv_at hl 0 rfl) ?_
      refine v_lload 25 C dX8_commonDivisor_25 (lv_at hl 1 rfl) ?_
      refine v_lremc 27 C dX8_commonDivisor_27 h (fun v2 h => ?_)
      refine v_lstore 28 C [(9, .long v2), (4, .long y4), (6, .long y6), (8, .int x8)] dX8_commonDivisor_28 hl (by decide) rfl (fun ls hl => ?_)
      refine v_lload 30 C dX8_commonDivisor_30 (lv_at hl 2 rfl) ?_
      refine v_lstore 32 C [(4, .long y6), (9, .long v2), (6, .long y6), (8, .int x8)] dX8_commonDivisor_32 hl (by decide) rfl (fun ls hl => ?_)
      refine v_lload 34 C dX8_commonDivisor_34 (lv_at hl 1 rfl) ?_
      refine v_lstore 36 C [(6, .long v2), (4, .long y6), (9, .long v2), (8, .int x8)] dX8_commonDivisor_36 hl (by decide) rfl (fun ls hl => ?_)
      refine v_iinc 38 C (nn := (1 : Int32)) (fun v => [(8, .int v), (6, .long v2), (4, .long y6), (9, .long v2)]) dX8_commonDivisor_38 hl (k := 3) rfl (by decide) (by decide) (fun _ => rfl) h (fun v3 ls hl h => ?_)
      refine v_goto 41 9 C dX8_commonDivisor_41 (by decide) ?_
      exact hc9 _ _ _ _ _ (lv_sub hl [2, 1, 0] rfl) h
theorem w_X8_commonDivisor_l9 {w : zWd} {X : zX} {l0 : Launch} {r : Int64} {S1 : zMem} (C : zC LC w X l0 cX8_commonDivisor RX8 11 1 (some .long)) : ∀ (n : Nat) (y4 : Int64) (y6 : Int64) (x8 : Int32) (S : zMem) (ls : Array Slot), lv_has ls 11 [(4, .long y4), (6, .long y6), (8, .int x8)] → X8_commonDivisor_l9 n y4 y6 x8 S = some (r, S1) → zV LC w X (some (.long r)) S1 S 9 ls [] := by
  intro n
  induction n with
  | zero =>
    intro y4 y6 x8 S ls hl h
    cases (show (none : Option (Int64 × zMem)) = some _ from h)
  | succ n ih =>
    intro y4 y6 x8 S ls hl h
    exact w_X8_commonDivisor_b9 C ih hl h
set_option maxRecDepth 20000 in
theorem w_X8_commonDivisor_b0 {w : zWd} {X : zX} {l0 : Launch} {r : Int64} {S1 : zMem} (C : zC LC w X l0 cX8_commonDivisor RX8 11 1 (some .long)) {y0 : Int64} {y2 : Int64} {S : zMem} {ls : Array Slot} (hl : lv_has ls 11 [(0, .long y0), (2, .long y2)]) (h : X8_commonDivisor_b0 y0 y2 S = some (r, S1)) : zV LC w X (some (.long r)) S1 S 0 ls [] := by
  unfold X8_commonDivisor_b0 at h
  refine v_lload_n 0 C dX8_commonDivisor_0 rfl (lv_at hl 0 rfl) ?_
  refine v_lstore 1 C [(4, .long y0), (0, .long y0), (2, .long y2)] dX8_commonDivisor_1 hl (by decide) rfl (fun ls hl => ?_)
  refine v_lload_n 3 C dX8_commonDivisor_3 rfl (lv_at hl 2 rfl) ?_
  refine v_lstore 4 C [(6, .long y2), (4, .long y0), (0, .long y0), (2, .long y2)] dX8_commonDivisor_4 hl (by decide) rfl (fun ls hl => ?_)
  refine v_iconst 6 C (v := (0 : Int32)) dX8_commonDivisor_6 (by decide) ?_
  refine v_istore 7 C [(8, .int (0 : Int32)), (6, .long y2), (4, .long y0), (0, .long y0), (2, .long y2)] dX8_commonDivisor_7 hl (by decide) rfl (fun ls hl => ?_)
  exact w_X8_commonDivisor_l9 C zF _ _ _ _ _ (lv_sub hl [2, 1, 0] rfl) h
theorem c_X8_commonDivisor {w : zWd} {l0 : Launch} {y0 : Int64} {y2 : Int64} {S S1 : zMem} {r : Int64} (h : f_X8_commonDivisor y0 y2 S = some (r, S1)) : zMet LC w l0 yX8_commonDivisor cX8_commonDivisor 11 (some .long) 1 [.long y0, .long y2] S (some (.long r)) S1 :=
  zMet_of (by decide +kernel) (Nat.le_of_ble_eq_true rfl) (fun X ls C hl => w_X8_commonDivisor_b0 C hl h)
theorem ml_X8_344 : Cond.methodLink RX8 344 yX8_commonDivisor ∈ zT := zT_of (List.mem_of_getElem? (i := 757) (by decide +kernel)) rfl
theorem hy_X8_commonDivisor : zYs yX8_commonDivisor cX8_commonDivisor 11 (some .long) 2 := ⟨⟨zT_of (List.mem_of_getElem? (i := 759) (by decide +kernel)) rfl, zT_of (List.mem_of_getElem? (i := 70) (by decide +kernel)) rfl, by decide, by decide +kernel, by decide +kernel, by decide +kernel⟩, zT_of (List.mem_of_getElem? (i := 758) (by decide +kernel)) rfl⟩
theorem fl_X8_324 : zFL RX8 324 7 13 := ⟨_, rfl, by decide, zT_of (List.mem_of_getElem? (i := 330) (by decide +kernel)) rfl⟩
theorem fp_7_13 : zFP 7 13 .long := fun q h => by cases h; exact ⟨rfl, by decide +kernel⟩
theorem fl_X8_73 : zFL RX8 73 7 14 := ⟨_, rfl, by decide, zT_of (List.mem_of_getElem? (i := 331) (by decide +kernel)) rfl⟩
theorem fp_7_14 : zFP 7 14 .long := fun q h => by cases h; exact ⟨rfl, by decide +kernel⟩
theorem dX8_tellPart_0 : decode cX8_tellPart 0 = .ok (.lload_n 1, 1) := by decide +kernel
theorem dX8_tellPart_1 : decode cX8_tellPart 1 = .ok (.lload_n 3, 1) := by decide +kernel
theorem dX8_tellPart_2 : decode cX8_tellPart 2 = .ok (.invokestatic 344, 3) := by decide +kernel
theorem dX8_tellPart_5 : decode cX8_tellPart 5 = .ok (.lstore 5, 2) := by decide +kernel
theorem dX8_tellPart_7 : decode cX8_tellPart 7 = .ok (.lload 5, 2) := by decide +kernel
theorem dX8_tellPart_9 : decode cX8_tellPart 9 = .ok (.lconst 0, 1) := by decide +kernel
theorem dX8_tellPart_10 : decode cX8_tellPart 10 = .ok (.lcmp, 1) := by decide +kernel
theorem dX8_tellPart_11 : decode cX8_tellPart 11 = .ok (.ifCond .le 19, 3) := by decide +kernel
theorem dX8_tellPart_14 : decode cX8_tellPart 14 = .ok (.aload_n 0, 1) := by decide +kernel
theorem dX8_tellPart_15 : decode cX8_tellPart 15 = .ok (.lload_n 1, 1) := by decide +kernel
theorem dX8_tellPart_16 : decode cX8_tellPart 16 = .ok (.lload 5, 2) := by decide +kernel
theorem dX8_tellPart_18 : decode cX8_tellPart 18 = .ok (.ldiv, 1) := by decide +kernel
theorem dX8_tellPart_19 : decode cX8_tellPart 19 = .ok (.putfield 324, 3) := by decide +kernel
theorem dX8_tellPart_22 : decode cX8_tellPart 22 = .ok (.aload_n 0, 1) := by decide +kernel
theorem dX8_tellPart_23 : decode cX8_tellPart 23 = .ok (.lload_n 3, 1) := by decide +kernel
theorem dX8_tellPart_24 : decode cX8_tellPart 24 = .ok (.lload 5, 2) := by decide +kernel
theorem dX8_tellPart_26 : decode cX8_tellPart 26 = .ok (.ldiv, 1) := by decide +kernel
theorem dX8_tellPart_27 : decode cX8_tellPart 27 = .ok (.putfield 73, 3) := by decide +kernel
theorem dX8_tellPart_30 : decode cX8_tellPart 30 = .ok (.iconst 1, 1) := by decide +kernel
theorem dX8_tellPart_31 : decode cX8_tellPart 31 = .ok (.ireturn, 1) := by decide +kernel
set_option maxRecDepth 20000 in
theorem w_X8_tellPart_b30 {w : zWd} {X : zX} {l0 : Launch} {r : Int32} {S1 : zMem} (C : zC LC w X l0 cX8_tellPart RX8 7 2 (some .int)) {S : zMem} {ls : Array Slot} (hl : lv_has ls 7 []) (h : X8_tellPart_b30  S = some (r, S1)) : zV LC w X (some (.int r)) S1 S 30 ls [] := by
  unfold X8_tellPart_b30 at h
  refine v_iconst 30 C (v := (1 : Int32)) dX8_tellPart_30 (by decide) ?_
  exact v_ireturn 31 C dX8_tellPart_31 h
set_option maxRecDepth 20000 in
theorem w_X8_tellPart_b0 {w : zWd} {X : zX} {l0 : Launch} {r : Int32} {S1 : zMem} (C : zC LC w X l0 cX8_tellPart RX8 7 2 (some .int)) {y1 : Int64} {y3 : Int64} {S : zMem} {ls : Array Slot} (hl : lv_has ls 7 [(0, .ref (w.2.2.1 0)), (1, .long y1), (3, .long y3)]) (h : X8_tellPart_b0 y1 y3 S = some (r, S1)) : zV LC w X (some (.int r)) S1 S 0 ls [] := by
  unfold X8_tellPart_b0 at h
  refine v_lload_n 0 C dX8_tellPart_0 rfl (lv_at hl 1 rfl) ?_
  refine v_lload_n 1 C dX8_tellPart_1 rfl (lv_at hl 2 rfl) ?_
  obtain ⟨v1, S, hc, h⟩ := zb_e h
  refine v_callSl 2 C [] dX8_tellPart_2 ml_X8_344 hy_X8_commonDivisor (c_X8_commonDivisor  hc) (by decide) rfl hl.1 (Nat.le_of_ble_eq_true rfl) rfl ?_
  refine v_lstore 5 C [(5, .long v1), (0, .ref (w.2.2.1 0)), (1, .long y1), (3, .long y3)] dX8_tellPart_5 hl (by decide) rfl (fun ls hl => ?_)
  refine v_lload 7 C dX8_tellPart_7 (lv_at hl 0 rfl) ?_
  refine v_lconst 9 C (v := 0) dX8_tellPart_9 (by decide) ?_
  refine v_lcmp 10 C dX8_tellPart_10 h (fun v2 h => ?_)
  refine v_if_le 11 30 C dX8_tellPart_11 (by decide) h (fun h => ?_) (fun h => ?_)
  · exact w_X8_tellPart_b30 C (lv_sub hl [] rfl) h
  · refine v_aload_n 14 C dX8_tellPart_14 rfl (lv_at hl 1 rfl) ?_
    refine v_lload_n 15 C dX8_tellPart_15 rfl (lv_at hl 2 rfl) ?_
    refine v_lload 16 C dX8_tellPart_16 (lv_at hl 0 rfl) ?_
    refine v_ldivc 18 C dX8_tellPart_18 h (fun v3 h => ?_)
    refine v_putl 19 C dX8_tellPart_19 fl_X8_324 fp_7_13 rfl kC_0 h (fun S h => ?_)
    refine v_aload_n 22 C dX8_tellPart_22 rfl (lv_at hl 1 rfl) ?_
    refine v_lload_n 23 C dX8_tellPart_23 rfl (lv_at hl 3 rfl) ?_
    refine v_lload 24 C dX8_tellPart_24 (lv_at hl 0 rfl) ?_
    refine v_ldivc 26 C dX8_tellPart_26 h (fun v4 h => ?_)
    refine v_putl 27 C dX8_tellPart_27 fl_X8_73 fp_7_14 rfl kC_0 h (fun S h => ?_)
    exact w_X8_tellPart_b30 C (lv_sub hl [] rfl) h
theorem c_X8_tellPart {w : zWd} {l0 : Launch} {y1 : Int64} {y3 : Int64} {S S1 : zMem} {r : Int32} (h : f_X8_tellPart y1 y3 S = some (r, S1)) : zMet LC w l0 yX8_tellPart cX8_tellPart 7 (some .int) 2 [.ref (w.2.2.1 0), .long y1, .long y3] S (some (.int r)) S1 :=
  zMet_of (by decide +kernel) (Nat.le_of_ble_eq_true rfl) (fun X ls C hl => w_X8_tellPart_b0 C hl h)
theorem ml_X8_292 : Cond.methodLink RX8 292 yX8_tellPart ∈ zT := zT_of (List.mem_of_getElem? (i := 753) (by decide +kernel)) rfl
theorem hy_X8_tellPart : zYv yX8_tellPart cX8_tellPart 7 (some .int) 2 := ⟨⟨zT_of (List.mem_of_getElem? (i := 756) (by decide +kernel)) rfl, zT_of (List.mem_of_getElem? (i := 70) (by decide +kernel)) rfl, by decide, by decide +kernel, by decide +kernel, by decide +kernel⟩, zT_of (List.mem_of_getElem? (i := 755) (by decide +kernel)) rfl, zT_of (List.mem_of_getElem? (i := 15) (by decide +kernel)) rfl⟩
theorem ml_X8_289 : Cond.methodLink RX8 289 yX6_wordsOf ∈ zT := zT_of (List.mem_of_getElem? (i := 749) (by decide +kernel)) rfl
theorem hy_X6_wordsOf : zYv yX6_wordsOf cX6_wordsOf 4 (some .int) 1 := ⟨⟨zT_of (List.mem_of_getElem? (i := 752) (by decide +kernel)) rfl, zT_of (List.mem_of_getElem? (i := 71) (by decide +kernel)) rfl, by decide, by decide +kernel, by decide +kernel, by decide +kernel⟩, zT_of (List.mem_of_getElem? (i := 750) (by decide +kernel)) rfl, zT_of (List.mem_of_getElem? (i := 751) (by decide +kernel)) rfl⟩
theorem dX8_sets_0 : decode cX8_sets 0 = .ok (.iload_n 1, 1) := by decide +kernel
theorem dX8_sets_1 : decode cX8_sets 1 = .ok (.bipush 54, 2) := by decide +kernel
theorem dX8_sets_3 : decode cX8_sets 3 = .ok (.invokestatic 152, 3) := by decide +kernel
theorem dX8_sets_6 : decode cX8_sets 6 = .ok (.ifCond .ne 5, 3) := by decide +kernel
theorem dX8_sets_9 : decode cX8_sets 9 = .ok (.iconst (-1), 1) := by decide +kernel
theorem dX8_sets_10 : decode cX8_sets 10 = .ok (.ireturn, 1) := by decide +kernel
theorem dX8_sets_11 : decode cX8_sets 11 = .ok (.aload_n 0, 1) := by decide +kernel
theorem dX8_sets_12 : decode cX8_sets 12 = .ok (.invokevirtual 196, 3) := by decide +kernel
theorem dX8_sets_15 : decode cX8_sets 15 = .ok (.ifCond .ne 6, 3) := by decide +kernel
theorem dX8_sets_18 : decode cX8_sets 18 = .ok (.bipush (-4), 2) := by decide +kernel
theorem dX8_sets_20 : decode cX8_sets 20 = .ok (.ireturn, 1) := by decide +kernel
theorem dX8_sets_21 : decode cX8_sets 21 = .ok (.iconst 0, 1) := by decide +kernel
theorem dX8_sets_22 : decode cX8_sets 22 = .ok (.istore_n 2, 1) := by decide +kernel
theorem dX8_sets_23 : decode cX8_sets 23 = .ok (.bipush (-9), 2) := by decide +kernel
theorem dX8_sets_25 : decode cX8_sets 25 = .ok (.istore_n 3, 1) := by decide +kernel
theorem dX8_sets_26 : decode cX8_sets 26 = .ok (.iconst 0, 1) := by decide +kernel
theorem dX8_sets_27 : decode cX8_sets 27 = .ok (.istore 4, 2) := by decide +kernel
theorem dX8_sets_29 : decode cX8_sets 29 = .ok (.iload 4, 2) := by decide +kernel
theorem dX8_sets_31 : decode cX8_sets 31 = .ok (.aload_n 0, 1) := by decide +kernel
theorem dX8_sets_32 : decode cX8_sets 32 = .ok (.getfield 21, 3) := by decide +kernel
theorem dX8_sets_35 : decode cX8_sets 35 = .ok (.invokevirtual 242, 3) := by decide +kernel
theorem dX8_sets_38 : decode cX8_sets 38 = .ok (.if_icmp .gt 36, 3) := by decide +kernel
theorem dX8_sets_41 : decode cX8_sets 41 = .ok (.aload_n 0, 1) := by decide +kernel
theorem dX8_sets_42 : decode cX8_sets 42 = .ok (.getfield 21, 3) := by decide +kernel
theorem dX8_sets_45 : decode cX8_sets 45 = .ok (.iload 4, 2) := by decide +kernel
theorem dX8_sets_47 : decode cX8_sets 47 = .ok (.invokevirtual 289, 3) := by decide +kernel
theorem dX8_sets_50 : decode cX8_sets 50 = .ok (.iload_n 1, 1) := by decide +kernel
theorem dX8_sets_51 : decode cX8_sets 51 = .ok (.if_icmp .ne 17, 3) := by decide +kernel
theorem dX8_sets_54 : decode cX8_sets 54 = .ok (.iload_n 2, 1) := by decide +kernel
theorem dX8_sets_55 : decode cX8_sets 55 = .ok (.ifCond .ne 8, 3) := by decide +kernel
theorem dX8_sets_58 : decode cX8_sets 58 = .ok (.iload 4, 2) := by decide +kernel
theorem dX8_sets_60 : decode cX8_sets 60 = .ok (.goto 4, 3) := by decide +kernel
theorem dX8_sets_63 : decode cX8_sets 63 = .ok (.iload_n 3, 1) := by decide +kernel
theorem dX8_sets_64 : decode cX8_sets 64 = .ok (.istore_n 3, 1) := by decide +kernel
theorem dX8_sets_65 : decode cX8_sets 65 = .ok (.iinc 2 1, 3) := by decide +kernel
theorem dX8_sets_68 : decode cX8_sets 68 = .ok (.iinc 4 1, 3) := by decide +kernel
theorem dX8_sets_71 : decode cX8_sets 71 = .ok (.goto (-42), 3) := by decide +kernel
theorem dX8_sets_74 : decode cX8_sets 74 = .ok (.aload_n 0, 1) := by decide +kernel
theorem dX8_sets_75 : decode cX8_sets 75 = .ok (.iload_n 2, 1) := by decide +kernel
theorem dX8_sets_76 : decode cX8_sets 76 = .ok (.i2l, 1) := by decide +kernel
theorem dX8_sets_77 : decode cX8_sets 77 = .ok (.lconst 1, 1) := by decide +kernel
theorem dX8_sets_78 : decode cX8_sets 78 = .ok (.invokevirtual 292, 3) := by decide +kernel
theorem dX8_sets_81 : decode cX8_sets 81 = .ok (.pop, 1) := by decide +kernel
theorem dX8_sets_82 : decode cX8_sets 82 = .ok (.aload_n 0, 1) := by decide +kernel
theorem dX8_sets_83 : decode cX8_sets 83 = .ok (.iload_n 3, 1) := by decide +kernel
theorem dX8_sets_84 : decode cX8_sets 84 = .ok (.invokevirtual 102, 3) := by decide +kernel
theorem dX8_sets_87 : decode cX8_sets 87 = .ok (.ireturn, 1) := by decide +kernel
set_option maxRecDepth 20000 in
theorem w_X8_sets_b68 {w : zWd} {X : zX} {l0 : Launch} {r : Int32} {S1 : zMem} (C : zC LC w X l0 cX8_sets RX8 5 3 (some .int)) {k29 : Int32 → Int32 → Int32 → Int32 → zMem → Option (Int32 × zMem)} (hc29 : ∀ (x1 : Int32) (x2 : Int32) (x3 : Int32) (x4 : Int32) (S : zMem) (ls : Array Slot), lv_has ls 5 [(0, .ref (w.2.2.1 0)), (1, .int x1), (2, .int x2), (3, .int x3), (4, .int x4)] → k29 x1 x2 x3 x4 S = some (r, S1) → zV LC w X (some (.int r)) S1 S 29 ls []) {x1 : Int32} {x2 : Int32} {x3 : Int32} {x4 : Int32} {S : zMem} {ls : Array Slot} (hl : lv_has ls 5 [(0, .ref (w.2.2.1 0)), (1, .int x1), (2, .int x2), (3, .int x3), (4, .int x4)]) (h : X8_sets_b68 k29 x1 x2 x3 x4 S = some (r, S1)) : zV LC w X (some (.int r)) S1 S 68 ls [] := by
  unfold X8_sets_b68 at h
  refine v_iinc 68 C (nn := (1 : Int32)) (fun v => [(4, .int v), (0, .ref (w.2.2.1 0)), (1, .int x1), (2, .int x2), (3, .int x3)]) dX8_sets_68 hl (k := 4) rfl (by decide) (by decide) (fun _ => rfl) h (fun v1 ls hl h => ?_)
  refine v_goto 71 29 C dX8_sets_71 (by decide) ?_
  exact hc29 _ _ _ _ _ _ (lv_sub hl [1, 2, 3, 4, 0] rfl) h
set_option maxRecDepth 20000 in
theorem w_X8_sets_b64 {w : zWd} {X : zX} {l0 : Launch} {r : Int32} {S1 : zMem} (C : zC LC w X l0 cX8_sets RX8 5 3 (some .int)) {k29 : Int32 → Int32 → Int32 → Int32 → zMem → Option (Int32 × zMem)} (hc29 : ∀ (x1 : Int32) (x2 : Int32) (x3 : Int32) (x4 : Int32) (S : zMem) (ls : Array Slot), lv_has ls 5 [(0, .ref (w.2.2.1 0)), (1, .int x1), (2, .int x2), (3, .int x3), (4, .int x4)] → k29 x1 x2 x3 x4 S = some (r, S1) → zV LC w X (some (.int r)) S1 S 29 ls []) {x1 : Int32} {x2 : Int32} {x4 : Int32} {s0 : Int32} {S : zMem} {ls : Array Slot} (hl : lv_has ls 5 [(0, .ref (w.2.2.1 0)), (1, .int x1), (2, .int x2), (4, .int x4)]) (h : X8_sets_b64 k29 x1 x2 x4 s0 S = some (r, S1)) : zV LC w X (some (.int r)) S1 S 64 ls [.int s0] := by
  unfold X8_sets_b64 at h
  refine v_istore_n 64 C [(3, .int s0), (0, .ref (w.2.2.1 0)), (1, .int x1), (2, .int x2), (4, .int x4)] dX8_sets_64 rfl hl (by decide) rfl (fun ls hl => ?_)
  refine v_iinc 65 C (nn := (1 : Int32)) (fun v => [(2, .int v), (3, .int s0), (0, .ref (w.2.2.1 0)), (1, .int x1), (4, .int x4)]) dX8_sets_65 hl (k := 3) rfl (by decide) (by decide) (fun _ => rfl) h (fun v1 ls hl h => ?_)
  exact w_X8_sets_b68 C hc29 (lv_sub hl [2, 3, 0, 1, 4] rfl) h
set_option maxRecDepth 20000 in
theorem w_X8_sets_b29 {w : zWd} {X : zX} {l0 : Launch} {r : Int32} {S1 : zMem} (C : zC LC w X l0 cX8_sets RX8 5 3 (some .int)) {k29 : Int32 → Int32 → Int32 → Int32 → zMem → Option (Int32 × zMem)} (hc29 : ∀ (x1 : Int32) (x2 : Int32) (x3 : Int32) (x4 : Int32) (S : zMem) (ls : Array Slot), lv_has ls 5 [(0, .ref (w.2.2.1 0)), (1, .int x1), (2, .int x2), (3, .int x3), (4, .int x4)] → k29 x1 x2 x3 x4 S = some (r, S1) → zV LC w X (some (.int r)) S1 S 29 ls []) {x1 : Int32} {x2 : Int32} {x3 : Int32} {x4 : Int32} {S : zMem} {ls : Array Slot} (hl : lv_has ls 5 [(0, .ref (w.2.2.1 0)), (1, .int x1), (2, .int x2), (3, .int x3), (4, .int x4)]) (h : X8_sets_b29 k29 x1 x2 x3 x4 S = some (r, S1)) : zV LC w X (some (.int r)) S1 S 29 ls [] := by
  unfold X8_sets_b29 at h
  refine v_iload 29 C dX8_sets_29 (lv_at hl 4 rfl) ?_
  refine v_aload_n 31 C dX8_sets_31 rfl (lv_at hl 0 rfl) ?_
  refine v_getr 32 (24) C dX8_sets_32 fl_X8_21 rfl kC_0 rfl ?_
  obtain ⟨v1, S, hc, h⟩ := zb_e h
  refine v_callVi 35 C (ci := 5) [.int x4] dX8_sets_35 ml_X8_242 hy_X6_allLetters (c_X6_allLetters  hc) (by decide) rfl hl.1 kC_24 rfl (Nat.le_of_ble_eq_true rfl) rfl ?_
  refine v_icmp_gt 38 74 C dX8_sets_38 (by decide) h (fun h => ?_) (fun h => ?_)
  · refine v_aload_n 74 C dX8_sets_74 rfl (lv_at hl 0 rfl) ?_
    refine v_iload_n 75 C dX8_sets_75 rfl (lv_at hl 2 rfl) ?_
    refine v_i2l 76 C dX8_sets_76 h (fun v2 h => ?_)
    refine v_lconst 77 C (v := 1) dX8_sets_77 (by decide) ?_
    obtain ⟨v3, S, hc, h⟩ := zb_e h
    refine v_callVi 78 C (ci := 7) [] dX8_sets_78 ml_X8_292 hy_X8_tellPart (c_X8_tellPart  hc) (by decide) rfl hl.1 kC_0 rfl (Nat.le_of_ble_eq_true rfl) rfl ?_
    refine v_pop 81 C dX8_sets_81 rfl ?_
    refine v_aload_n 82 C dX8_sets_82 rfl (lv_at hl 0 rfl) ?_
    refine v_iload_n 83 C dX8_sets_83 rfl (lv_at hl 3 rfl) ?_
    obtain ⟨v4, S, hc, h⟩ := zb_e h
    refine v_callVi 84 C (ci := 7) [] dX8_sets_84 ml_X8_102 hy_X8_tell (c_X8_tell  hc) (by decide) rfl hl.1 kC_0 rfl (Nat.le_of_ble_eq_true rfl) rfl ?_
    exact v_ireturn 87 C dX8_sets_87 h
  · refine v_aload_n 41 C dX8_sets_41 rfl (lv_at hl 0 rfl) ?_
    refine v_getr 42 (24) C dX8_sets_42 fl_X8_21 rfl kC_0 rfl ?_
    refine v_iload 45 C dX8_sets_45 (lv_at hl 4 rfl) ?_
    obtain ⟨v5, S, hc, h⟩ := zb_e h
    refine v_callVi 47 C (ci := 5) [] dX8_sets_47 ml_X8_289 hy_X6_wordsOf (c_X6_wordsOf  hc) (by decide) rfl hl.1 kC_24 rfl (Nat.le_of_ble_eq_true rfl) rfl ?_
    refine v_iload_n 50 C dX8_sets_50 rfl (lv_at hl 1 rfl) ?_
    refine v_icmp_ne 51 68 C dX8_sets_51 (by decide) h (fun h => ?_) (fun h => ?_)
    · exact w_X8_sets_b68 C hc29 (lv_sub hl [0, 1, 2, 3, 4] rfl) h
    · refine v_iload_n 54 C dX8_sets_54 rfl (lv_at hl 2 rfl) ?_
      refine v_if_ne 55 63 C dX8_sets_55 (by decide) h (fun h => ?_) (fun h => ?_)
      · refine v_iload_n 63 C dX8_sets_63 rfl (lv_at hl 3 rfl) ?_
        exact w_X8_sets_b64 C hc29 (lv_sub hl [0, 1, 2, 4] rfl) h
      · refine v_iload 58 C dX8_sets_58 (lv_at hl 4 rfl) ?_
        refine v_goto 60 64 C dX8_sets_60 (by decide) ?_
        exact w_X8_sets_b64 C hc29 (lv_sub hl [0, 1, 2, 4] rfl) h
theorem w_X8_sets_l29 {w : zWd} {X : zX} {l0 : Launch} {r : Int32} {S1 : zMem} (C : zC LC w X l0 cX8_sets RX8 5 3 (some .int)) : ∀ (n : Nat) (x1 : Int32) (x2 : Int32) (x3 : Int32) (x4 : Int32) (S : zMem) (ls : Array Slot), lv_has ls 5 [(0, .ref (w.2.2.1 0)), (1, .int x1), (2, .int x2), (3, .int x3), (4, .int x4)] → X8_sets_l29 n x1 x2 x3 x4 S = some (r, S1) → zV LC w X (some (.int r)) S1 S 29 ls [] := by
  intro n
  induction n with
  | zero =>
    intro x1 x2 x3 x4 S ls hl h
    cases (show (none : Option (Int32 × zMem)) = some _ from h)
  | succ n ih =>
    intro x1 x2 x3 x4 S ls hl h
    exact w_X8_sets_b29 C ih hl h
set_option maxRecDepth 20000 in
theorem w_X8_sets_b0 {w : zWd} {X : zX} {l0 : Launch} {r : Int32} {S1 : zMem} (C : zC LC w X l0 cX8_sets RX8 5 3 (some .int)) {x1 : Int32} {S : zMem} {ls : Array Slot} (hl : lv_has ls 5 [(0, .ref (w.2.2.1 0)), (1, .int x1)]) (h : X8_sets_b0 x1 S = some (r, S1)) : zV LC w X (some (.int r)) S1 S 0 ls [] := by
  unfold X8_sets_b0 at h
  refine v_iload_n 0 C dX8_sets_0 rfl (lv_at hl 1 rfl) ?_
  refine v_bipush 1 C (v := (54 : Int32)) dX8_sets_1 (by decide) ?_
  obtain ⟨v1, S, hc, h⟩ := zb_e h
  refine v_callSi 3 C [] dX8_sets_3 ml_X8_152 hy_X8_within (c_X8_within  hc) (by decide) rfl hl.1 (Nat.le_of_ble_eq_true rfl) rfl ?_
  refine v_if_ne 6 11 C dX8_sets_6 (by decide) h (fun h => ?_) (fun h => ?_)
  · refine v_aload_n 11 C dX8_sets_11 rfl (lv_at hl 0 rfl) ?_
    obtain ⟨v2, S, hc, h⟩ := zb_e h
    refine v_callVi 12 C (ci := 7) [] dX8_sets_12 ml_X8_196 hy_X8_isPosted (c_X8_isPosted  hc) (by decide) rfl hl.1 kC_0 rfl (Nat.le_of_ble_eq_true rfl) rfl ?_
    refine v_if_ne 15 21 C dX8_sets_15 (by decide) h (fun h => ?_) (fun h => ?_)
    · refine v_iconst 21 C (v := (0 : Int32)) dX8_sets_21 (by decide) ?_
      refine v_istore_n 22 C [(2, .int (0 : Int32)), (0, .ref (w.2.2.1 0)), (1, .int x1)] dX8_sets_22 rfl hl (by decide) rfl (fun ls hl => ?_)
      refine v_bipush 23 C (v := (-9 : Int32)) dX8_sets_23 (by decide) ?_
      refine v_istore_n 25 C [(3, .int (-9 : Int32)), (2, .int (0 : Int32)), (0, .ref (w.2.2.1 0)), (1, .int x1)] dX8_sets_25 rfl hl (by decide) rfl (fun ls hl => ?_)
      refine v_iconst 26 C (v := (0 : Int32)) dX8_sets_26 (by decide) ?_
      refine v_istore 27 C [(4, .int (0 : Int32)), (3, .int (-9 : Int32)), (2, .int (0 : Int32)), (0, .ref (w.2.2.1 0)), (1, .int x1)] dX8_sets_27 hl (by decide) rfl (fun ls hl => ?_)
      exact w_X8_sets_l29 C zF _ _ _ _ _ _ (lv_sub hl [3, 4, 2, 1, 0] rfl) h
    · refine v_bipush 18 C (v := (-4 : Int32)) dX8_sets_18 (by decide) ?_
      exact v_ireturn 20 C dX8_sets_20 h
  · refine v_iconst 9 C (v := (-1 : Int32)) dX8_sets_9 (by decide) ?_
    exact v_ireturn 10 C dX8_sets_10 h
theorem c_X8_sets {w : zWd} {l0 : Launch} {x1 : Int32} {S S1 : zMem} {r : Int32} (h : f_X8_sets x1 S = some (r, S1)) : zMet LC w l0 yX8_sets cX8_sets 5 (some .int) 3 [.ref (w.2.2.1 0), .int x1] S (some (.int r)) S1 :=
  zMet_of (by decide +kernel) (Nat.le_of_ble_eq_true rfl) (fun X ls C hl => w_X8_sets_b0 C hl h)
theorem dX8_sure_0 : decode cX8_sure 0 = .ok (.iload_n 1, 1) := by decide +kernel
theorem dX8_sure_1 : decode cX8_sure 1 = .ok (.bipush 54, 2) := by decide +kernel
theorem dX8_sure_3 : decode cX8_sure 3 = .ok (.invokestatic 152, 3) := by decide +kernel
theorem dX8_sure_6 : decode cX8_sure 6 = .ok (.ifCond .ne 5, 3) := by decide +kernel
theorem dX8_sure_9 : decode cX8_sure 9 = .ok (.iconst (-1), 1) := by decide +kernel
theorem dX8_sure_10 : decode cX8_sure 10 = .ok (.ireturn, 1) := by decide +kernel
theorem dX8_sure_11 : decode cX8_sure 11 = .ok (.aload_n 0, 1) := by decide +kernel
theorem dX8_sure_12 : decode cX8_sure 12 = .ok (.invokevirtual 196, 3) := by decide +kernel
theorem dX8_sure_15 : decode cX8_sure 15 = .ok (.ifCond .ne 6, 3) := by decide +kernel
theorem dX8_sure_18 : decode cX8_sure 18 = .ok (.bipush (-4), 2) := by decide +kernel
theorem dX8_sure_20 : decode cX8_sure 20 = .ok (.ireturn, 1) := by decide +kernel
theorem dX8_sure_21 : decode cX8_sure 21 = .ok (.iconst 0, 1) := by decide +kernel
theorem dX8_sure_22 : decode cX8_sure 22 = .ok (.istore_n 2, 1) := by decide +kernel
theorem dX8_sure_23 : decode cX8_sure 23 = .ok (.aload_n 0, 1) := by decide +kernel
theorem dX8_sure_24 : decode cX8_sure 24 = .ok (.getfield 21, 3) := by decide +kernel
theorem dX8_sure_27 : decode cX8_sure 27 = .ok (.invokevirtual 242, 3) := by decide +kernel
theorem dX8_sure_30 : decode cX8_sure 30 = .ok (.istore_n 3, 1) := by decide +kernel
theorem dX8_sure_31 : decode cX8_sure 31 = .ok (.aload_n 0, 1) := by decide +kernel
theorem dX8_sure_32 : decode cX8_sure 32 = .ok (.getfield 21, 3) := by decide +kernel
theorem dX8_sure_35 : decode cX8_sure 35 = .ok (.invokevirtual 242, 3) := by decide +kernel
theorem dX8_sure_38 : decode cX8_sure 38 = .ok (.istore 4, 2) := by decide +kernel
theorem dX8_sure_40 : decode cX8_sure 40 = .ok (.iconst 0, 1) := by decide +kernel
theorem dX8_sure_41 : decode cX8_sure 41 = .ok (.istore 5, 2) := by decide +kernel
theorem dX8_sure_43 : decode cX8_sure 43 = .ok (.iload 5, 2) := by decide +kernel
theorem dX8_sure_45 : decode cX8_sure 45 = .ok (.aload_n 0, 1) := by decide +kernel
theorem dX8_sure_46 : decode cX8_sure 46 = .ok (.getfield 21, 3) := by decide +kernel
theorem dX8_sure_49 : decode cX8_sure 49 = .ok (.invokevirtual 242, 3) := by decide +kernel
theorem dX8_sure_52 : decode cX8_sure 52 = .ok (.if_icmp .gt 38, 3) := by decide +kernel
theorem dX8_sure_55 : decode cX8_sure 55 = .ok (.aload_n 0, 1) := by decide +kernel
theorem dX8_sure_56 : decode cX8_sure 56 = .ok (.getfield 21, 3) := by decide +kernel
theorem dX8_sure_59 : decode cX8_sure 59 = .ok (.iload 5, 2) := by decide +kernel
theorem dX8_sure_61 : decode cX8_sure 61 = .ok (.invokevirtual 289, 3) := by decide +kernel
theorem dX8_sure_64 : decode cX8_sure 64 = .ok (.iload_n 1, 1) := by decide +kernel
theorem dX8_sure_65 : decode cX8_sure 65 = .ok (.if_icmp .ne 19, 3) := by decide +kernel
theorem dX8_sure_68 : decode cX8_sure 68 = .ok (.iconst 1, 1) := by decide +kernel
theorem dX8_sure_69 : decode cX8_sure 69 = .ok (.istore_n 2, 1) := by decide +kernel
theorem dX8_sure_70 : decode cX8_sure 70 = .ok (.iload_n 3, 1) := by decide +kernel
theorem dX8_sure_71 : decode cX8_sure 71 = .ok (.iload 5, 2) := by decide +kernel
theorem dX8_sure_73 : decode cX8_sure 73 = .ok (.iand, 1) := by decide +kernel
theorem dX8_sure_74 : decode cX8_sure 74 = .ok (.istore_n 3, 1) := by decide +kernel
theorem dX8_sure_75 : decode cX8_sure 75 = .ok (.iload 4, 2) := by decide +kernel
theorem dX8_sure_77 : decode cX8_sure 77 = .ok (.iload 5, 2) := by decide +kernel
theorem dX8_sure_79 : decode cX8_sure 79 = .ok (.iconst (-1), 1) := by decide +kernel
theorem dX8_sure_80 : decode cX8_sure 80 = .ok (.ixor, 1) := by decide +kernel
theorem dX8_sure_81 : decode cX8_sure 81 = .ok (.iand, 1) := by decide +kernel
theorem dX8_sure_82 : decode cX8_sure 82 = .ok (.istore 4, 2) := by decide +kernel
theorem dX8_sure_84 : decode cX8_sure 84 = .ok (.iinc 5 1, 3) := by decide +kernel
theorem dX8_sure_87 : decode cX8_sure 87 = .ok (.goto (-44), 3) := by decide +kernel
theorem dX8_sure_90 : decode cX8_sure 90 = .ok (.iload_n 2, 1) := by decide +kernel
theorem dX8_sure_91 : decode cX8_sure 91 = .ok (.ifCond .ne 9, 3) := by decide +kernel
theorem dX8_sure_94 : decode cX8_sure 94 = .ok (.aload_n 0, 1) := by decide +kernel
theorem dX8_sure_95 : decode cX8_sure 95 = .ok (.iconst 4, 1) := by decide +kernel
theorem dX8_sure_96 : decode cX8_sure 96 = .ok (.invokevirtual 84, 3) := by decide +kernel
theorem dX8_sure_99 : decode cX8_sure 99 = .ok (.ireturn, 1) := by decide +kernel
theorem dX8_sure_100 : decode cX8_sure 100 = .ok (.aload_n 0, 1) := by decide +kernel
theorem dX8_sure_101 : decode cX8_sure 101 = .ok (.iload 4, 2) := by decide +kernel
theorem dX8_sure_103 : decode cX8_sure 103 = .ok (.invokevirtual 102, 3) := by decide +kernel
theorem dX8_sure_106 : decode cX8_sure 106 = .ok (.pop, 1) := by decide +kernel
theorem dX8_sure_107 : decode cX8_sure 107 = .ok (.iload_n 3, 1) := by decide +kernel
theorem dX8_sure_108 : decode cX8_sure 108 = .ok (.ireturn, 1) := by decide +kernel
set_option maxRecDepth 20000 in
theorem w_X8_sure_b84 {w : zWd} {X : zX} {l0 : Launch} {r : Int32} {S1 : zMem} (C : zC LC w X l0 cX8_sure RX8 6 2 (some .int)) {k43 : Int32 → Int32 → Int32 → Int32 → Int32 → zMem → Option (Int32 × zMem)} (hc43 : ∀ (x1 : Int32) (x2 : Int32) (x3 : Int32) (x4 : Int32) (x5 : Int32) (S : zMem) (ls : Array Slot), lv_has ls 6 [(0, .ref (w.2.2.1 0)), (1, .int x1), (2, .int x2), (3, .int x3), (4, .int x4), (5, .int x5)] → k43 x1 x2 x3 x4 x5 S = some (r, S1) → zV LC w X (some (.int r)) S1 S 43 ls []) {x1 : Int32} {x2 : Int32} {x3 : Int32} {x4 : Int32} {x5 : Int32} {S : zMem} {ls : Array Slot} (hl : lv_has ls 6 [(0, .ref (w.2.2.1 0)), (1, .int x1), (2, .int x2), (3, .int x3), (4, .int x4), (5, .int x5)]) (h : X8_sure_b84 k43 x1 x2 x3 x4 x5 S = some (r, S1)) : zV LC w X (some (.int r)) S1 S 84 ls [] := by
  unfold X8_sure_b84 at h
  refine v_iinc 84 C (nn := (1 : Int32)) (fun v => [(5, .int v), (0, .ref (w.2.2.1 0)), (1, .int x1), (2, .int x2), (3, .int x3), (4, .int x4)]) dX8_sure_84 hl (k := 5) rfl (by decide) (by decide) (fun _ => rfl) h (fun v1 ls hl h => ?_)
  refine v_goto 87 43 C dX8_sure_87 (by decide) ?_
  exact hc43 _ _ _ _ _ _ _ (lv_sub hl [1, 2, 3, 4, 5, 0] rfl) h
set_option maxRecDepth 20000 in
theorem w_X8_sure_b43 {w : zWd} {X : zX} {l0 : Launch} {r : Int32} {S1 : zMem} (C : zC LC w X l0 cX8_sure RX8 6 2 (some .int)) {k43 : Int32 → Int32 → Int32 → Int32 → Int32 → zMem → Option (Int32 × zMem)} (hc43 : ∀ (x1 : Int32) (x2 : Int32) (x3 : Int32) (x4 : Int32) (x5 : Int32) (S : zMem) (ls : Array Slot), lv_has ls 6 [(0, .ref (w.2.2.1 0)), (1, .int x1), (2, .int x2), (3, .int x3), (4, .int x4), (5, .int x5)] → k43 x1 x2 x3 x4 x5 S = some (r, S1) → zV LC w X (some (.int r)) S1 S 43 ls []) {x1 : Int32} {x2 : Int32} {x3 : Int32} {x4 : Int32} {x5 : Int32} {S : zMem} {ls : Array Slot} (hl : lv_has ls 6 [(0, .ref (w.2.2.1 0)), (1, .int x1), (2, .int x2), (3, .int x3), (4, .int x4), (5, .int x5)]) (h : X8_sure_b43 k43 x1 x2 x3 x4 x5 S = some (r, S1)) : zV LC w X (some (.int r)) S1 S 43 ls [] := by
  unfold X8_sure_b43 at h
  refine v_iload 43 C dX8_sure_43 (lv_at hl 5 rfl) ?_
  refine v_aload_n 45 C dX8_sure_45 rfl (lv_at hl 0 rfl) ?_
  refine v_getr 46 (24) C dX8_sure_46 fl_X8_21 rfl kC_0 rfl ?_
  obtain ⟨v1, S, hc, h⟩ := zb_e h
  refine v_callVi 49 C (ci := 5) [.int x5] dX8_sure_49 ml_X8_242 hy_X6_allLetters (c_X6_allLetters  hc) (by decide) rfl hl.1 kC_24 rfl (Nat.le_of_ble_eq_true rfl) rfl ?_
  refine v_icmp_gt 52 90 C dX8_sure_52 (by decide) h (fun h => ?_) (fun h => ?_)
  · refine v_iload_n 90 C dX8_sure_90 rfl (lv_at hl 2 rfl) ?_
    refine v_if_ne 91 100 C dX8_sure_91 (by decide) h (fun h => ?_) (fun h => ?_)
    · refine v_aload_n 100 C dX8_sure_100 rfl (lv_at hl 0 rfl) ?_
      refine v_iload 101 C dX8_sure_101 (lv_at hl 4 rfl) ?_
      obtain ⟨v2, S, hc, h⟩ := zb_e h
      refine v_callVi 103 C (ci := 7) [] dX8_sure_103 ml_X8_102 hy_X8_tell (c_X8_tell  hc) (by decide) rfl hl.1 kC_0 rfl (Nat.le_of_ble_eq_true rfl) rfl ?_
      refine v_pop 106 C dX8_sure_106 rfl ?_
      refine v_iload_n 107 C dX8_sure_107 rfl (lv_at hl 3 rfl) ?_
      exact v_ireturn 108 C dX8_sure_108 h
    · refine v_aload_n 94 C dX8_sure_94 rfl (lv_at hl 0 rfl) ?_
      refine v_iconst 95 C (v := (4 : Int32)) dX8_sure_95 (by decide) ?_
      obtain ⟨v3, S, hc, h⟩ := zb_e h
      refine v_callVi 96 C (ci := 7) [] dX8_sure_96 ml_X8_84 hy_X8_refuse (c_X8_refuse  hc) (by decide) rfl hl.1 kC_0 rfl (Nat.le_of_ble_eq_true rfl) rfl ?_
      exact v_ireturn 99 C dX8_sure_99 h
  · refine v_aload_n 55 C dX8_sure_55 rfl (lv_at hl 0 rfl) ?_
    refine v_getr 56 (24) C dX8_sure_56 fl_X8_21 rfl kC_0 rfl ?_
    refine v_iload 59 C dX8_sure_59 (lv_at hl 5 rfl) ?_
    obtain ⟨v4, S, hc, h⟩ := zb_e h
    refine v_callVi 61 C (ci := 5) [] dX8_sure_61 ml_X8_289 hy_X6_wordsOf (c_X6_wordsOf  hc) (by decide) rfl hl.1 kC_24 rfl (Nat.le_of_ble_eq_true rfl) rfl ?_
    refine v_iload_n 64 C dX8_sure_64 rfl (lv_at hl 1 rfl) ?_
    refine v_icmp_ne 65 84 C dX8_sure_65 (by decide) h (fun h => ?_) (fun h => ?_)
    · exact w_X8_sure_b84 C hc43 (lv_sub hl [0, 1, 2, 3, 4, 5] rfl) h
    · refine v_iconst 68 C (v := (1 : Int32)) dX8_sure_68 (by decide) ?_
      refine v_istore_n 69 C [(2, .int (1 : Int32)), (0, .ref (w.2.2.1 0)), (1, .int x1), (3, .int x3), (4, .int x4), (5, .int x5)] dX8_sure_69 rfl hl (by decide) rfl (fun ls hl => ?_)
      refine v_iload_n 70 C dX8_sure_70 rfl (lv_at hl 3 rfl) ?_
      refine v_iload 71 C dX8_sure_71 (lv_at hl 5 rfl) ?_
      refine v_iand 73 C dX8_sure_73 h (fun v5 h => ?_)
      refine v_istore_n 74 C [(3, .int v5), (2, .int (1 : Int32)), (0, .ref (w.2.2.1 0)), (1, .int x1), (4, .int x4), (5, .int x5)] dX8_sure_74 rfl hl (by decide) rfl (fun ls hl => ?_)
      refine v_iload 75 C dX8_sure_75 (lv_at hl 4 rfl) ?_
      refine v_iload 77 C dX8_sure_77 (lv_at hl 5 rfl) ?_
      refine v_iconst 79 C (v := (-1 : Int32)) dX8_sure_79 (by decide) ?_
      refine v_ixor 80 C dX8_sure_80 h (fun v6 h => ?_)
      refine v_iand 81 C dX8_sure_81 h (fun v7 h => ?_)
      refine v_istore 82 C [(4, .int v7), (3, .int v5), (2, .int (1 : Int32)), (0, .ref (w.2.2.1 0)), (1, .int x1), (5, .int x5)] dX8_sure_82 hl (by decide) rfl (fun ls hl => ?_)
      exact w_X8_sure_b84 C hc43 (lv_sub hl [3, 4, 2, 1, 0, 5] rfl) h
theorem w_X8_sure_l43 {w : zWd} {X : zX} {l0 : Launch} {r : Int32} {S1 : zMem} (C : zC LC w X l0 cX8_sure RX8 6 2 (some .int)) : ∀ (n : Nat) (x1 : Int32) (x2 : Int32) (x3 : Int32) (x4 : Int32) (x5 : Int32) (S : zMem) (ls : Array Slot), lv_has ls 6 [(0, .ref (w.2.2.1 0)), (1, .int x1), (2, .int x2), (3, .int x3), (4, .int x4), (5, .int x5)] → X8_sure_l43 n x1 x2 x3 x4 x5 S = some (r, S1) → zV LC w X (some (.int r)) S1 S 43 ls [] := by
  intro n
  induction n with
  | zero =>
    intro x1 x2 x3 x4 x5 S ls hl h
    cases (show (none : Option (Int32 × zMem)) = some _ from h)
  | succ n ih =>
    intro x1 x2 x3 x4 x5 S ls hl h
    exact w_X8_sure_b43 C ih hl h
set_option maxRecDepth 20000 in
theorem w_X8_sure_b0 {w : zWd} {X : zX} {l0 : Launch} {r : Int32} {S1 : zMem} (C : zC LC w X l0 cX8_sure RX8 6 2 (some .int)) {x1 : Int32} {S : zMem} {ls : Array Slot} (hl : lv_has ls 6 [(0, .ref (w.2.2.1 0)), (1, .int x1)]) (h : X8_sure_b0 x1 S = some (r, S1)) : zV LC w X (some (.int r)) S1 S 0 ls [] := by
  unfold X8_sure_b0 at h
  refine v_iload_n 0 C dX8_sure_0 rfl (lv_at hl 1 rfl) ?_
  refine v_bipush 1 C (v := (54 : Int32)) dX8_sure_1 (by decide) ?_
  obtain ⟨v1, S, hc, h⟩ := zb_e h
  refine v_callSi 3 C [] dX8_sure_3 ml_X8_152 hy_X8_within (c_X8_within  hc) (by decide) rfl hl.1 (Nat.le_of_ble_eq_true rfl) rfl ?_
  refine v_if_ne 6 11 C dX8_sure_6 (by decide) h (fun h => ?_) (fun h => ?_)
  · refine v_aload_n 11 C dX8_sure_11 rfl (lv_at hl 0 rfl) ?_
    obtain ⟨v2, S, hc, h⟩ := zb_e h
    refine v_callVi 12 C (ci := 7) [] dX8_sure_12 ml_X8_196 hy_X8_isPosted (c_X8_isPosted  hc) (by decide) rfl hl.1 kC_0 rfl (Nat.le_of_ble_eq_true rfl) rfl ?_
    refine v_if_ne 15 21 C dX8_sure_15 (by decide) h (fun h => ?_) (fun h => ?_)
    · refine v_iconst 21 C (v := (0 : Int32)) dX8_sure_21 (by decide) ?_
      refine v_istore_n 22 C [(2, .int (0 : Int32)), (0, .ref (w.2.2.1 0)), (1, .int x1)] dX8_sure_22 rfl hl (by decide) rfl (fun ls hl => ?_)
      refine v_aload_n 23 C dX8_sure_23 rfl (lv_at hl 1 rfl) ?_
      refine v_getr 24 (24) C dX8_sure_24 fl_X8_21 rfl kC_0 rfl ?_
      obtain ⟨v3, S, hc, h⟩ := zb_e h
      refine v_callVi 27 C (ci := 5) [] dX8_sure_27 ml_X8_242 hy_X6_allLetters (c_X6_allLetters  hc) (by decide) rfl hl.1 kC_24 rfl (Nat.le_of_ble_eq_true rfl) rfl ?_
      refine v_istore_n 30 C [(3, .int v3), (2, .int (0 : Int32)), (0, .ref (w.2.2.1 0)), (1, .int x1)] dX8_sure_30 rfl hl (by decide) rfl (fun ls hl => ?_)
      refine v_aload_n 31 C dX8_sure_31 rfl (lv_at hl 2 rfl) ?_
      refine v_getr 32 (24) C dX8_sure_32 fl_X8_21 rfl kC_0 rfl ?_
      obtain ⟨v4, S, hc, h⟩ := zb_e h
      refine v_callVi 35 C (ci := 5) [] dX8_sure_35 ml_X8_242 hy_X6_allLetters (c_X6_allLetters  hc) (by decide) rfl hl.1 kC_24 rfl (Nat.le_of_ble_eq_true rfl) rfl ?_
      refine v_istore 38 C [(4, .int v4), (3, .int v3), (2, .int (0 : Int32)), (0, .ref (w.2.2.1 0)), (1, .int x1)] dX8_sure_38 hl (by decide) rfl (fun ls hl => ?_)
      refine v_iconst 40 C (v := (0 : Int32)) dX8_sure_40 (by decide) ?_
      refine v_istore 41 C [(5, .int (0 : Int32)), (4, .int v4), (3, .int v3), (2, .int (0 : Int32)), (0, .ref (w.2.2.1 0)), (1, .int x1)] dX8_sure_41 hl (by decide) rfl (fun ls hl => ?_)
      exact w_X8_sure_l43 C zF _ _ _ _ _ _ _ (lv_sub hl [4, 5, 3, 2, 1, 0] rfl) h
    · refine v_bipush 18 C (v := (-4 : Int32)) dX8_sure_18 (by decide) ?_
      exact v_ireturn 20 C dX8_sure_20 h
  · refine v_iconst 9 C (v := (-1 : Int32)) dX8_sure_9 (by decide) ?_
    exact v_ireturn 10 C dX8_sure_10 h
theorem c_X8_sure {w : zWd} {l0 : Launch} {x1 : Int32} {S S1 : zMem} {r : Int32} (h : f_X8_sure x1 S = some (r, S1)) : zMet LC w l0 yX8_sure cX8_sure 6 (some .int) 2 [.ref (w.2.2.1 0), .int x1] S (some (.int r)) S1 :=
  zMet_of (by decide +kernel) (Nat.le_of_ble_eq_true rfl) (fun X ls C hl => w_X8_sure_b0 C hl h)
theorem ml_X3_97 : Cond.methodLink RX3 97 yX3_settled ∈ zT := zT_of (List.mem_of_getElem? (i := 772) (by decide +kernel)) rfl
theorem hy_X3_settled : zYv yX3_settled cX3_settled 13 (some .int) 5 := ⟨⟨zT_of (List.mem_of_getElem? (i := 775) (by decide +kernel)) rfl, zT_of (List.mem_of_getElem? (i := 74) (by decide +kernel)) rfl, by decide, by decide +kernel, by decide +kernel, by decide +kernel⟩, zT_of (List.mem_of_getElem? (i := 774) (by decide +kernel)) rfl, zT_of (List.mem_of_getElem? (i := 16) (by decide +kernel)) rfl⟩
theorem dX3_settled_0 : decode cX3_settled 0 = .ok (.iload_n 3, 1) := by decide +kernel
theorem dX3_settled_1 : decode cX3_settled 1 = .ok (.ifCond .eq 14, 3) := by decide +kernel
theorem dX3_settled_4 : decode cX3_settled 4 = .ok (.iload_n 1, 1) := by decide +kernel
theorem dX3_settled_5 : decode cX3_settled 5 = .ok (.iload_n 2, 1) := by decide +kernel
theorem dX3_settled_6 : decode cX3_settled 6 = .ok (.if_icmp .ge 9, 3) := by decide +kernel
theorem dX3_settled_9 : decode cX3_settled 9 = .ok (.iload_n 1, 1) := by decide +kernel
theorem dX3_settled_10 : decode cX3_settled 10 = .ok (.bipush 6, 2) := by decide +kernel
theorem dX3_settled_12 : decode cX3_settled 12 = .ok (.if_icmp .lt 5, 3) := by decide +kernel
theorem dX3_settled_15 : decode cX3_settled 15 = .ok (.iconst 0, 1) := by decide +kernel
theorem dX3_settled_16 : decode cX3_settled 16 = .ok (.ireturn, 1) := by decide +kernel
theorem dX3_settled_17 : decode cX3_settled 17 = .ok (.iload_n 1, 1) := by decide +kernel
theorem dX3_settled_18 : decode cX3_settled 18 = .ok (.iconst 2, 1) := by decide +kernel
theorem dX3_settled_19 : decode cX3_settled 19 = .ok (.irem, 1) := by decide +kernel
theorem dX3_settled_20 : decode cX3_settled 20 = .ok (.ifCond .ne 7, 3) := by decide +kernel
theorem dX3_settled_23 : decode cX3_settled 23 = .ok (.iconst 1, 1) := by decide +kernel
theorem dX3_settled_24 : decode cX3_settled 24 = .ok (.goto 4, 3) := by decide +kernel
theorem dX3_settled_27 : decode cX3_settled 27 = .ok (.iconst 0, 1) := by decide +kernel
theorem dX3_settled_28 : decode cX3_settled 28 = .ok (.istore 6, 2) := by decide +kernel
theorem dX3_settled_30 : decode cX3_settled 30 = .ok (.bipush (-9), 2) := by decide +kernel
theorem dX3_settled_32 : decode cX3_settled 32 = .ok (.istore 7, 2) := by decide +kernel
theorem dX3_settled_34 : decode cX3_settled 34 = .ok (.iconst 0, 1) := by decide +kernel
theorem dX3_settled_35 : decode cX3_settled 35 = .ok (.istore 8, 2) := by decide +kernel
theorem dX3_settled_37 : decode cX3_settled 37 = .ok (.iload 8, 2) := by decide +kernel
theorem dX3_settled_39 : decode cX3_settled 39 = .ok (.aload_n 0, 1) := by decide +kernel
theorem dX3_settled_40 : decode cX3_settled 40 = .ok (.getfield 18, 3) := by decide +kernel
theorem dX3_settled_43 : decode cX3_settled 43 = .ok (.getfield 48, 3) := by decide +kernel
theorem dX3_settled_46 : decode cX3_settled 46 = .ok (.if_icmp .ge 131, 3) := by decide +kernel
theorem dX3_settled_49 : decode cX3_settled 49 = .ok (.iload_n 3, 1) := by decide +kernel
theorem dX3_settled_50 : decode cX3_settled 50 = .ok (.iload 8, 2) := by decide +kernel
theorem dX3_settled_52 : decode cX3_settled 52 = .ok (.ishr, 1) := by decide +kernel
theorem dX3_settled_53 : decode cX3_settled 53 = .ok (.iconst 1, 1) := by decide +kernel
theorem dX3_settled_54 : decode cX3_settled 54 = .ok (.iand, 1) := by decide +kernel
theorem dX3_settled_55 : decode cX3_settled 55 = .ok (.ifCond .eq 116, 3) := by decide +kernel
theorem dX3_settled_58 : decode cX3_settled 58 = .ok (.aload_n 0, 1) := by decide +kernel
theorem dX3_settled_59 : decode cX3_settled 59 = .ok (.getfield 18, 3) := by decide +kernel
theorem dX3_settled_62 : decode cX3_settled 62 = .ok (.iload 8, 2) := by decide +kernel
theorem dX3_settled_64 : decode cX3_settled 64 = .ok (.iload 4, 2) := by decide +kernel
theorem dX3_settled_66 : decode cX3_settled 66 = .ok (.iload 5, 2) := by decide +kernel
theorem dX3_settled_68 : decode cX3_settled 68 = .ok (.aload_n 0, 1) := by decide +kernel
theorem dX3_settled_69 : decode cX3_settled 69 = .ok (.getfield 28, 3) := by decide +kernel
theorem dX3_settled_72 : decode cX3_settled 72 = .ok (.invokevirtual 53, 3) := by decide +kernel
theorem dX3_settled_75 : decode cX3_settled 75 = .ok (.istore 9, 2) := by decide +kernel
theorem dX3_settled_77 : decode cX3_settled 77 = .ok (.aload_n 0, 1) := by decide +kernel
theorem dX3_settled_78 : decode cX3_settled 78 = .ok (.getfield 18, 3) := by decide +kernel
theorem dX3_settled_81 : decode cX3_settled 81 = .ok (.iload 8, 2) := by decide +kernel
theorem dX3_settled_83 : decode cX3_settled 83 = .ok (.iload 9, 2) := by decide +kernel
theorem dX3_settled_85 : decode cX3_settled 85 = .ok (.invokevirtual 57, 3) := by decide +kernel
theorem dX3_settled_88 : decode cX3_settled 88 = .ok (.istore 10, 2) := by decide +kernel
theorem dX3_settled_90 : decode cX3_settled 90 = .ok (.aload_n 0, 1) := by decide +kernel
theorem dX3_settled_91 : decode cX3_settled 91 = .ok (.getfield 18, 3) := by decide +kernel
theorem dX3_settled_94 : decode cX3_settled 94 = .ok (.iload 8, 2) := by decide +kernel
theorem dX3_settled_96 : decode cX3_settled 96 = .ok (.iload 9, 2) := by decide +kernel
theorem dX3_settled_98 : decode cX3_settled 98 = .ok (.iload 10, 2) := by decide +kernel
theorem dX3_settled_100 : decode cX3_settled 100 = .ok (.invokevirtual 61, 3) := by decide +kernel
theorem dX3_settled_103 : decode cX3_settled 103 = .ok (.istore 11, 2) := by decide +kernel
theorem dX3_settled_105 : decode cX3_settled 105 = .ok (.iload 10, 2) := by decide +kernel
theorem dX3_settled_107 : decode cX3_settled 107 = .ok (.aload_n 0, 1) := by decide +kernel
theorem dX3_settled_108 : decode cX3_settled 108 = .ok (.iload_n 1, 1) := by decide +kernel
theorem dX3_settled_109 : decode cX3_settled 109 = .ok (.iconst 1, 1) := by decide +kernel
theorem dX3_settled_110 : decode cX3_settled 110 = .ok (.iadd, 1) := by decide +kernel
theorem dX3_settled_111 : decode cX3_settled 111 = .ok (.iload_n 2, 1) := by decide +kernel
theorem dX3_settled_112 : decode cX3_settled 112 = .ok (.iload_n 3, 1) := by decide +kernel
theorem dX3_settled_113 : decode cX3_settled 113 = .ok (.iconst 1, 1) := by decide +kernel
theorem dX3_settled_114 : decode cX3_settled 114 = .ok (.iload 8, 2) := by decide +kernel
theorem dX3_settled_116 : decode cX3_settled 116 = .ok (.ishl, 1) := by decide +kernel
theorem dX3_settled_117 : decode cX3_settled 117 = .ok (.iconst (-1), 1) := by decide +kernel
theorem dX3_settled_118 : decode cX3_settled 118 = .ok (.ixor, 1) := by decide +kernel
theorem dX3_settled_119 : decode cX3_settled 119 = .ok (.iand, 1) := by decide +kernel
theorem dX3_settled_120 : decode cX3_settled 120 = .ok (.iload 11, 2) := by decide +kernel
theorem dX3_settled_122 : decode cX3_settled 122 = .ok (.aload_n 0, 1) := by decide +kernel
theorem dX3_settled_123 : decode cX3_settled 123 = .ok (.getfield 18, 3) := by decide +kernel
theorem dX3_settled_126 : decode cX3_settled 126 = .ok (.getfield 65, 3) := by decide +kernel
theorem dX3_settled_129 : decode cX3_settled 129 = .ok (.iload 8, 2) := by decide +kernel
theorem dX3_settled_131 : decode cX3_settled 131 = .ok (.iaload, 1) := by decide +kernel
theorem dX3_settled_132 : decode cX3_settled 132 = .ok (.invokevirtual 97, 3) := by decide +kernel
theorem dX3_settled_135 : decode cX3_settled 135 = .ok (.iadd, 1) := by decide +kernel
theorem dX3_settled_136 : decode cX3_settled 136 = .ok (.istore 12, 2) := by decide +kernel
theorem dX3_settled_138 : decode cX3_settled 138 = .ok (.iload 7, 2) := by decide +kernel
theorem dX3_settled_140 : decode cX3_settled 140 = .ok (.bipush (-9), 2) := by decide +kernel
theorem dX3_settled_142 : decode cX3_settled 142 = .ok (.if_icmp .eq 25, 3) := by decide +kernel
theorem dX3_settled_145 : decode cX3_settled 145 = .ok (.iload 6, 2) := by decide +kernel
theorem dX3_settled_147 : decode cX3_settled 147 = .ok (.ifCond .eq 13, 3) := by decide +kernel
theorem dX3_settled_150 : decode cX3_settled 150 = .ok (.iload 12, 2) := by decide +kernel
theorem dX3_settled_152 : decode cX3_settled 152 = .ok (.iload 7, 2) := by decide +kernel
theorem dX3_settled_154 : decode cX3_settled 154 = .ok (.if_icmp .le 17, 3) := by decide +kernel
theorem dX3_settled_157 : decode cX3_settled 157 = .ok (.goto 10, 3) := by decide +kernel
theorem dX3_settled_160 : decode cX3_settled 160 = .ok (.iload 12, 2) := by decide +kernel
theorem dX3_settled_162 : decode cX3_settled 162 = .ok (.iload 7, 2) := by decide +kernel
theorem dX3_settled_164 : decode cX3_settled 164 = .ok (.if_icmp .ge 7, 3) := by decide +kernel
theorem dX3_settled_167 : decode cX3_settled 167 = .ok (.iload 12, 2) := by decide +kernel
theorem dX3_settled_169 : decode cX3_settled 169 = .ok (.istore 7, 2) := by decide +kernel
theorem dX3_settled_171 : decode cX3_settled 171 = .ok (.iinc 8 1, 3) := by decide +kernel
theorem dX3_settled_174 : decode cX3_settled 174 = .ok (.goto (-137), 3) := by decide +kernel
theorem dX3_settled_177 : decode cX3_settled 177 = .ok (.iload 7, 2) := by decide +kernel
theorem dX3_settled_179 : decode cX3_settled 179 = .ok (.ireturn, 1) := by decide +kernel
set_option maxRecDepth 20000 in
theorem w_X3_settled_b15 {w : zWd} {X : zX} {l0 : Launch} {r : Int32} {S1 : zMem} {d : Nat} (C : zC LC w X l0 cX3_settled RX3 13 (3 + d + 1) (some .int)) {rec : Int32 → Int32 → Int32 → Int32 → Int32 → zMem → Option (Int32 × zMem)} (hrec : ∀ (x1 : Int32) (x2 : Int32) (x3 : Int32) (x4 : Int32) (x5 : Int32) (S : zMem) (r : Int32) (S1 : zMem), rec x1 x2 x3 x4 x5 S = some (r, S1) → zMet LC w l0 yX3_settled cX3_settled 13 (some .int) (3 + d) [.ref (w.2.2.1 60), .int x1, .int x2, .int x3, .int x4, .int x5] S (some (.int r)) S1) {S : zMem} {ls : Array Slot} (hl : lv_has ls 13 []) (h : X3_settled_b15 rec  S = some (r, S1)) : zV LC w X (some (.int r)) S1 S 15 ls [] := by
  unfold X3_settled_b15 at h
  refine v_iconst 15 C (v := (0 : Int32)) dX3_settled_15 (by decide) ?_
  exact v_ireturn 16 C dX3_settled_16 h
set_option maxRecDepth 20000 in
theorem w_X3_settled_b171 {w : zWd} {X : zX} {l0 : Launch} {r : Int32} {S1 : zMem} {d : Nat} (C : zC LC w X l0 cX3_settled RX3 13 (3 + d + 1) (some .int)) {rec : Int32 → Int32 → Int32 → Int32 → Int32 → zMem → Option (Int32 × zMem)} (hrec : ∀ (x1 : Int32) (x2 : Int32) (x3 : Int32) (x4 : Int32) (x5 : Int32) (S : zMem) (r : Int32) (S1 : zMem), rec x1 x2 x3 x4 x5 S = some (r, S1) → zMet LC w l0 yX3_settled cX3_settled 13 (some .int) (3 + d) [.ref (w.2.2.1 60), .int x1, .int x2, .int x3, .int x4, .int x5] S (some (.int r)) S1) {k37 : Int32 → Int32 → Int32 → Int32 → Int32 → Int32 → Int32 → Int32 → zMem → Option (Int32 × zMem)} (hc37 : ∀ (x1 : Int32) (x2 : Int32) (x3 : Int32) (x4 : Int32) (x5 : Int32) (x6 : Int32) (x7 : Int32) (x8 : Int32) (S : zMem) (ls : Array Slot), lv_has ls 13 [(0, .ref (w.2.2.1 60)), (1, .int x1), (2, .int x2), (3, .int x3), (4, .int x4), (5, .int x5), (6, .int x6), (7, .int x7), (8, .int x8)] → k37 x1 x2 x3 x4 x5 x6 x7 x8 S = some (r, S1) → zV LC w X (some (.int r)) S1 S 37 ls []) {x1 : Int32} {x2 : Int32} {x3 : Int32} {x4 : Int32} {x5 : Int32} {x6 : Int32} {x7 : Int32} {x8 : Int32} {S : zMem} {ls : Array Slot} (hl : lv_has ls 13 [(0, .ref (w.2.2.1 60)), (1, .int x1), (2, .int x2), (3, .int x3), (4, .int x4), (5, .int x5), (6, .int x6), (7, .int x7), (8, .int x8)]) (h : X3_settled_b171 rec k37 x1 x2 x3 x4 x5 x6 x7 x8 S = some (r, S1)) : zV LC w X (some (.int r)) S1 S 171 ls [] := by
  unfold X3_settled_b171 at h
  refine v_iinc 171 C (nn := (1 : Int32)) (fun v => [(8, .int v), (0, .ref (w.2.2.1 60)), (1, .int x1), (2, .int x2), (3, .int x3), (4, .int x4), (5, .int x5), (6, .int x6), (7, .int x7)]) dX3_settled_171 hl (k := 8) rfl (by decide) (by decide) (fun _ => rfl) h (fun v1 ls hl h => ?_)
  refine v_goto 174 37 C dX3_settled_174 (by decide) ?_
  exact hc37 _ _ _ _ _ _ _ _ _ _ (lv_sub hl [1, 2, 3, 4, 5, 6, 7, 8, 0] rfl) h
set_option maxRecDepth 20000 in
theorem w_X3_settled_b167 {w : zWd} {X : zX} {l0 : Launch} {r : Int32} {S1 : zMem} {d : Nat} (C : zC LC w X l0 cX3_settled RX3 13 (3 + d + 1) (some .int)) {rec : Int32 → Int32 → Int32 → Int32 → Int32 → zMem → Option (Int32 × zMem)} (hrec : ∀ (x1 : Int32) (x2 : Int32) (x3 : Int32) (x4 : Int32) (x5 : Int32) (S : zMem) (r : Int32) (S1 : zMem), rec x1 x2 x3 x4 x5 S = some (r, S1) → zMet LC w l0 yX3_settled cX3_settled 13 (some .int) (3 + d) [.ref (w.2.2.1 60), .int x1, .int x2, .int x3, .int x4, .int x5] S (some (.int r)) S1) {k37 : Int32 → Int32 → Int32 → Int32 → Int32 → Int32 → Int32 → Int32 → zMem → Option (Int32 × zMem)} (hc37 : ∀ (x1 : Int32) (x2 : Int32) (x3 : Int32) (x4 : Int32) (x5 : Int32) (x6 : Int32) (x7 : Int32) (x8 : Int32) (S : zMem) (ls : Array Slot), lv_has ls 13 [(0, .ref (w.2.2.1 60)), (1, .int x1), (2, .int x2), (3, .int x3), (4, .int x4), (5, .int x5), (6, .int x6), (7, .int x7), (8, .int x8)] → k37 x1 x2 x3 x4 x5 x6 x7 x8 S = some (r, S1) → zV LC w X (some (.int r)) S1 S 37 ls []) {x1 : Int32} {x2 : Int32} {x3 : Int32} {x4 : Int32} {x5 : Int32} {x6 : Int32} {x8 : Int32} {x12 : Int32} {S : zMem} {ls : Array Slot} (hl : lv_has ls 13 [(0, .ref (w.2.2.1 60)), (1, .int x1), (2, .int x2), (3, .int x3), (4, .int x4), (5, .int x5), (6, .int x6), (8, .int x8), (12, .int x12)]) (h : X3_settled_b167 rec k37 x1 x2 x3 x4 x5 x6 x8 x12 S = some (r, S1)) : zV LC w X (some (.int r)) S1 S 167 ls [] := by
  unfold X3_settled_b167 at h
  refine v_iload 167 C dX3_settled_167 (lv_at hl 8 rfl) ?_
  refine v_istore 169 C [(7, .int x12), (0, .ref (w.2.2.1 60)), (1, .int x1), (2, .int x2), (3, .int x3), (4, .int x4), (5, .int x5), (6, .int x6), (8, .int x8), (12, .int x12)] dX3_settled_169 hl (by decide) rfl (fun ls hl => ?_)
  exact w_X3_settled_b171 C hrec hc37 (lv_sub hl [1, 2, 3, 4, 5, 6, 7, 0, 8] rfl) h
set_option maxRecDepth 20000 in
theorem w_X3_settled_b49 {w : zWd} {X : zX} {l0 : Launch} {r : Int32} {S1 : zMem} {d : Nat} (C : zC LC w X l0 cX3_settled RX3 13 (3 + d + 1) (some .int)) {rec : Int32 → Int32 → Int32 → Int32 → Int32 → zMem → Option (Int32 × zMem)} (hrec : ∀ (x1 : Int32) (x2 : Int32) (x3 : Int32) (x4 : Int32) (x5 : Int32) (S : zMem) (r : Int32) (S1 : zMem), rec x1 x2 x3 x4 x5 S = some (r, S1) → zMet LC w l0 yX3_settled cX3_settled 13 (some .int) (3 + d) [.ref (w.2.2.1 60), .int x1, .int x2, .int x3, .int x4, .int x5] S (some (.int r)) S1) {k37 : Int32 → Int32 → Int32 → Int32 → Int32 → Int32 → Int32 → Int32 → zMem → Option (Int32 × zMem)} (hc37 : ∀ (x1 : Int32) (x2 : Int32) (x3 : Int32) (x4 : Int32) (x5 : Int32) (x6 : Int32) (x7 : Int32) (x8 : Int32) (S : zMem) (ls : Array Slot), lv_has ls 13 [(0, .ref (w.2.2.1 60)), (1, .int x1), (2, .int x2), (3, .int x3), (4, .int x4), (5, .int x5), (6, .int x6), (7, .int x7), (8, .int x8)] → k37 x1 x2 x3 x4 x5 x6 x7 x8 S = some (r, S1) → zV LC w X (some (.int r)) S1 S 37 ls []) {x1 : Int32} {x2 : Int32} {x3 : Int32} {x4 : Int32} {x5 : Int32} {x6 : Int32} {x7 : Int32} {x8 : Int32} {S : zMem} {ls : Array Slot} (hl : lv_has ls 13 [(0, .ref (w.2.2.1 60)), (1, .int x1), (2, .int x2), (3, .int x3), (4, .int x4), (5, .int x5), (6, .int x6), (7, .int x7), (8, .int x8)]) (h : X3_settled_b49 rec k37 x1 x2 x3 x4 x5 x6 x7 x8 S = some (r, S1)) : zV LC w X (some (.int r)) S1 S 49 ls [] := by
  unfold X3_settled_b49 at h
  refine v_iload_n 49 C dX3_settled_49 rfl (lv_at hl 3 rfl) ?_
  refine v_iload 50 C dX3_settled_50 (lv_at hl 8 rfl) ?_
  refine v_ishr 52 C dX3_settled_52 h (fun v1 h => ?_)
  refine v_iconst 53 C (v := (1 : Int32)) dX3_settled_53 (by decide) ?_
  refine v_iand 54 C dX3_settled_54 h (fun v2 h => ?_)
  refine v_if_eq 55 171 C dX3_settled_55 (by decide) h (fun h => ?_) (fun h => ?_)
  · exact w_X3_settled_b171 C hrec hc37 (lv_sub hl [0, 1, 2, 3, 4, 5, 6, 7, 8] rfl) h
  · refine v_aload_n 58 C dX3_settled_58 rfl (lv_at hl 0 rfl) ?_
    refine v_getr 59 (24) C dX3_settled_59 fl_X3_18 rfl kC_60 rfl ?_
    refine v_iload 62 C dX3_settled_62 (lv_at hl 8 rfl) ?_
    refine v_iload 64 C dX3_settled_64 (lv_at hl 4 rfl) ?_
    refine v_iload 66 C dX3_settled_66 (lv_at hl 5 rfl) ?_
    refine v_aload_n 68 C dX3_settled_68 rfl (lv_at hl 0 rfl) ?_
    refine v_geti 69 C dX3_settled_69 fl_X3_28 rfl kC_60 h (fun v3 h => ?_)
    obtain ⟨v4, S, hc, h⟩ := zb_e h
    refine v_callVi 72 C (ci := 5) [] dX3_settled_72 ml_X3_53 hy_X6_moodAtDoor (c_X6_moodAtDoor  hc) (by omega) rfl hl.1 kC_24 rfl (Nat.le_of_ble_eq_true rfl) rfl ?_
    refine v_istore 75 C [(9, .int v4), (0, .ref (w.2.2.1 60)), (1, .int x1), (2, .int x2), (3, .int x3), (4, .int x4), (5, .int x5), (6, .int x6), (7, .int x7), (8, .int x8)] dX3_settled_75 hl (by decide) rfl (fun ls hl => ?_)
    refine v_aload_n 77 C dX3_settled_77 rfl (lv_at hl 1 rfl) ?_
    refine v_getr 78 (24) C dX3_settled_78 fl_X3_18 rfl kC_60 rfl ?_
    refine v_iload 81 C dX3_settled_81 (lv_at hl 9 rfl) ?_
    refine v_iload 83 C dX3_settled_83 (lv_at hl 0 rfl) ?_
    obtain ⟨v5, S, hc, h⟩ := zb_e h
    refine v_callVi 85 C (ci := 5) [] dX3_settled_85 ml_X3_57 hy_X6_warmth (c_X6_warmth  hc) (by omega) rfl hl.1 kC_24 rfl (Nat.le_of_ble_eq_true rfl) rfl ?_
    refine v_istore 88 C [(10, .int v5), (9, .int v4), (0, .ref (w.2.2.1 60)), (1, .int x1), (2, .int x2), (3, .int x3), (4, .int x4), (5, .int x5), (6, .int x6), (7, .int x7), (8, .int x8)] dX3_settled_88 hl (by decide) rfl (fun ls hl => ?_)
    refine v_aload_n 90 C dX3_settled_90 rfl (lv_at hl 2 rfl) ?_
    refine v_getr 91 (24) C dX3_settled_91 fl_X3_18 rfl kC_60 rfl ?_
    refine v_iload 94 C dX3_settled_94 (lv_at hl 10 rfl) ?_
    refine v_iload 96 C dX3_settled_96 (lv_at hl 1 rfl) ?_
    refine v_iload 98 C dX3_settled_98 (lv_at hl 0 rfl) ?_
    obtain ⟨v6, S, hc, h⟩ := zb_e h
    refine v_callVi 100 C (ci := 5) [] dX3_settled_100 ml_X3_61 hy_X6_moodBehind (c_X6_moodBehind  hc) (by omega) rfl hl.1 kC_24 rfl (Nat.le_of_ble_eq_true rfl) rfl ?_
    refine v_istore 103 C [(11, .int v6), (10, .int v5), (9, .int v4), (0, .ref (w.2.2.1 60)), (1, .int x1), (2, .int x2), (3, .int x3), (4, .int x4), (5, .int x5), (6, .int x6), (7, .int x7), (8, .int x8)] dX3_settled_103 hl (by decide) rfl (fun ls hl => ?_)
    refine v_iload 105 C dX3_settled_105 (lv_at hl 1 rfl) ?_
    refine v_aload_n 107 C dX3_settled_107 rfl (lv_at hl 3 rfl) ?_
    refine v_iload_n 108 C dX3_settled_108 rfl (lv_at hl 4 rfl) ?_
    refine v_iconst 109 C (v := (1 : Int32)) dX3_settled_109 (by decide) ?_
    refine v_iadd 110 C dX3_settled_110 h (fun v7 h => ?_)
    refine v_iload_n 111 C dX3_settled_111 rfl (lv_at hl 5 rfl) ?_
    refine v_iload_n 112 C dX3_settled_112 rfl (lv_at hl 6 rfl) ?_
    refine v_iconst 113 C (v := (1 : Int32)) dX3_settled_113 (by decide) ?_
    refine v_iload 114 C dX3_settled_114 (lv_at hl 11 rfl) ?_
    refine v_ishl 116 C dX3_settled_116 h (fun v8 h => ?_)
    refine v_iconst 117 C (v := (-1 : Int32)) dX3_settled_117 (by decide) ?_
    refine v_ixor 118 C dX3_settled_118 h (fun v9 h => ?_)
    refine v_iand 119 C dX3_settled_119 h (fun v10 h => ?_)
    refine v_iload 120 C dX3_settled_120 (lv_at hl 0 rfl) ?_
    refine v_aload_n 122 C dX3_settled_122 rfl (lv_at hl 3 rfl) ?_
    refine v_getr 123 (24) C dX3_settled_123 fl_X3_18 rfl kC_60 rfl ?_
    refine v_getr 126 (27) C dX3_settled_126 fl_X3_65 rfl kC_24 rfl ?_
    refine v_iload 129 C dX3_settled_129 (lv_at hl 11 rfl) ?_
    refine v_iald 131 C dX3_settled_131 kC_27 rfl h (fun v11 h => ?_)
    obtain ⟨v12, S, hc, h⟩ := zb_e h
    refine v_callVi 132 C (ci := 2) [.int v5] dX3_settled_132 ml_X3_97 hy_X3_settled (hrec _ _ _ _ _ _ _ _  hc) (by omega) rfl hl.1 kC_60 rfl (Nat.le_of_ble_eq_true rfl) rfl ?_
    refine v_iadd 135 C dX3_settled_135 h (fun v13 h => ?_)
    refine v_istore 136 C [(12, .int v13), (11, .int v6), (10, .int v5), (9, .int v4), (0, .ref (w.2.2.1 60)), (1, .int x1), (2, .int x2), (3, .int x3), (4, .int x4), (5, .int x5), (6, .int x6), (7, .int x7), (8, .int x8)] dX3_settled_136 hl (by decide) rfl (fun ls hl => ?_)
    refine v_iload 138 C dX3_settled_138 (lv_at hl 11 rfl) ?_
    refine v_bipush 140 C (v := (-9 : Int32)) dX3_settled_140 (by decide) ?_
    refine v_icmp_eq 142 167 C dX3_settled_142 (by decide) h (fun h => ?_) (fun h => ?_)
    · exact w_X3_settled_b167 C hrec hc37 (lv_sub hl [4, 5, 6, 7, 8, 9, 10, 12, 0] rfl) h
    · refine v_iload 145 C dX3_settled_145 (lv_at hl 10 rfl) ?_
      refine v_if_eq 147 160 C dX3_settled_147 (by decide) h (fun h => ?_) (fun h => ?_)
      · refine v_iload 160 C dX3_settled_160 (lv_at hl 0 rfl) ?_
        refine v_iload 162 C dX3_settled_162 (lv_at hl 11 rfl) ?_
        refine v_icmp_ge 164 171 C dX3_settled_164 (by decide) h (fun h => ?_) (fun h => ?_)
        · exact w_X3_settled_b171 C hrec hc37 (lv_sub hl [4, 5, 6, 7, 8, 9, 10, 11, 12] rfl) h
        · exact w_X3_settled_b167 C hrec hc37 (lv_sub hl [4, 5, 6, 7, 8, 9, 10, 12, 0] rfl) h
      · refine v_iload 150 C dX3_settled_150 (lv_at hl 0 rfl) ?_
        refine v_iload 152 C dX3_settled_152 (lv_at hl 11 rfl) ?_
        refine v_icmp_le 154 171 C dX3_settled_154 (by decide) h (fun h => ?_) (fun h => ?_)
        · exact w_X3_settled_b171 C hrec hc37 (lv_sub hl [4, 5, 6, 7, 8, 9, 10, 11, 12] rfl) h
        · refine v_goto 157 167 C dX3_settled_157 (by decide) ?_
          exact w_X3_settled_b167 C hrec hc37 (lv_sub hl [4, 5, 6, 7, 8, 9, 10, 12, 0] rfl) h
set_option maxRecDepth 20000 in
theorem w_X3_settled_b37 {w : zWd} {X : zX} {l0 : Launch} {r : Int32} {S1 : zMem} {d : Nat} (C : zC LC w X l0 cX3_settled RX3 13 (3 + d + 1) (some .int)) {rec : Int32 → Int32 → Int32 → Int32 → Int32 → zMem → Option (Int32 × zMem)} (hrec : ∀ (x1 : Int32) (x2 : Int32) (x3 : Int32) (x4 : Int32) (x5 : Int32) (S : zMem) (r : Int32) (S1 : zMem), rec x1 x2 x3 x4 x5 S = some (r, S1) → zMet LC w l0 yX3_settled cX3_settled 13 (some .int) (3 + d) [.ref (w.2.2.1 60), .int x1, .int x2, .int x3, .int x4, .int x5] S (some (.int r)) S1) {k37 : Int32 → Int32 → Int32 → Int32 → Int32 → Int32 → Int32 → Int32 → zMem → Option (Int32 × zMem)} (hc37 : ∀ (x1 : Int32) (x2 : Int32) (x3 : Int32) (x4 : Int32) (x5 : Int32) (x6 : Int32) (x7 : Int32) (x8 : Int32) (S : zMem) (ls : Array Slot), lv_has ls 13 [(0, .ref (w.2.2.1 60)), (1, .int x1), (2, .int x2), (3, .int x3), (4, .int x4), (5, .int x5), (6, .int x6), (7, .int x7), (8, .int x8)] → k37 x1 x2 x3 x4 x5 x6 x7 x8 S = some (r, S1) → zV LC w X (some (.int r)) S1 S 37 ls []) {x1 : Int32} {x2 : Int32} {x3 : Int32} {x4 : Int32} {x5 : Int32} {x6 : Int32} {x7 : Int32} {x8 : Int32} {S : zMem} {ls : Array Slot} (hl : lv_has ls 13 [(0, .ref (w.2.2.1 60)), (1, .int x1), (2, .int x2), (3, .int x3), (4, .int x4), (5, .int x5), (6, .int x6), (7, .int x7), (8, .int x8)]) (h : X3_settled_b37 rec k37 x1 x2 x3 x4 x5 x6 x7 x8 S = some (r, S1)) : zV LC w X (some (.int r)) S1 S 37 ls [] := by
  unfold X3_settled_b37 at h
  refine v_iload 37 C dX3_settled_37 (lv_at hl 8 rfl) ?_
  refine v_aload_n 39 C dX3_settled_39 rfl (lv_at hl 0 rfl) ?_
  refine v_getr 40 (24) C dX3_settled_40 fl_X3_18 rfl kC_60 rfl ?_
  refine v_geti 43 C dX3_settled_43 fl_X3_48 rfl kC_24 h (fun v1 h => ?_)
  refine v_icmp_ge 46 177 C dX3_settled_46 (by decide) h (fun h => ?_) (fun h => ?_)
  · refine v_iload 177 C dX3_settled_177 (lv_at hl 7 rfl) ?_
    exact v_ireturn 179 C dX3_settled_179 h
  · exact w_X3_settled_b49 C hrec hc37 (lv_sub hl [0, 1, 2, 3, 4, 5, 6, 7, 8] rfl) h
theorem w_X3_settled_l37 {w : zWd} {X : zX} {l0 : Launch} {r : Int32} {S1 : zMem} {d : Nat} (C : zC LC w X l0 cX3_settled RX3 13 (3 + d + 1) (some .int)) {rec : Int32 → Int32 → Int32 → Int32 → Int32 → zMem → Option (Int32 × zMem)} (hrec : ∀ (x1 : Int32) (x2 : Int32) (x3 : Int32) (x4 : Int32) (x5 : Int32) (S : zMem) (r : Int32) (S1 : zMem), rec x1 x2 x3 x4 x5 S = some (r, S1) → zMet LC w l0 yX3_settled cX3_settled 13 (some .int) (3 + d) [.ref (w.2.2.1 60), .int x1, .int x2, .int x3, .int x4, .int x5] S (some (.int r)) S1) : ∀ (n : Nat) (x1 : Int32) (x2 : Int32) (x3 : Int32) (x4 : Int32) (x5 : Int32) (x6 : Int32) (x7 : Int32) (x8 : Int32) (S : zMem) (ls : Array Slot), lv_has ls 13 [(0, .ref (w.2.2.1 60)), (1, .int x1), (2, .int x2), (3, .int x3), (4, .int x4), (5, .int x5), (6, .int x6), (7, .int x7), (8, .int x8)] → X3_settled_l37 rec n x1 x2 x3 x4 x5 x6 x7 x8 S = some (r, S1) → zV LC w X (some (.int r)) S1 S 37 ls [] := by
  intro n
  induction n with
  | zero =>
    intro x1 x2 x3 x4 x5 x6 x7 x8 S ls hl h
    cases (show (none : Option (Int32 × zMem)) = some _ from h)
  | succ n ih =>
    intro x1 x2 x3 x4 x5 x6 x7 x8 S ls hl h
    exact w_X3_settled_b37 C hrec ih hl h
set_option maxRecDepth 20000 in
theorem w_X3_settled_b28 {w : zWd} {X : zX} {l0 : Launch} {r : Int32} {S1 : zMem} {d : Nat} (C : zC LC w X l0 cX3_settled RX3 13 (3 + d + 1) (some .int)) {rec : Int32 → Int32 → Int32 → Int32 → Int32 → zMem → Option (Int32 × zMem)} (hrec : ∀ (x1 : Int32) (x2 : Int32) (x3 : Int32) (x4 : Int32) (x5 : Int32) (S : zMem) (r : Int32) (S1 : zMem), rec x1 x2 x3 x4 x5 S = some (r, S1) → zMet LC w l0 yX3_settled cX3_settled 13 (some .int) (3 + d) [.ref (w.2.2.1 60), .int x1, .int x2, .int x3, .int x4, .int x5] S (some (.int r)) S1) {x1 : Int32} {x2 : Int32} {x3 : Int32} {x4 : Int32} {x5 : Int32} {s0 : Int32} {S : zMem} {ls : Array Slot} (hl : lv_has ls 13 [(0, .ref (w.2.2.1 60)), (1, .int x1), (2, .int x2), (3, .int x3), (4, .int x4), (5, .int x5)]) (h : X3_settled_b28 rec x1 x2 x3 x4 x5 s0 S = some (r, S1)) : zV LC w X (some (.int r)) S1 S 28 ls [.int s0] := by
  unfold X3_settled_b28 at h
  refine v_istore 28 C [(6, .int s0), (0, .ref (w.2.2.1 60)), (1, .int x1), (2, .int x2), (3, .int x3), (4, .int x4), (5, .int x5)] dX3_settled_28 hl (by decide) rfl (fun ls hl => ?_)
  refine v_bipush 30 C (v := (-9 : Int32)) dX3_settled_30 (by decide) ?_
  refine v_istore 32 C [(7, .int (-9 : Int32)), (6, .int s0), (0, .ref (w.2.2.1 60)), (1, .int x1), (2, .int x2), (3, .int x3), (4, .int x4), (5, .int x5)] dX3_settled_32 hl (by decide) rfl (fun ls hl => ?_)
  refine v_iconst 34 C (v := (0 : Int32)) dX3_settled_34 (by decide) ?_
  refine v_istore 35 C [(8, .int (0 : Int32)), (7, .int (-9 : Int32)), (6, .int s0), (0, .ref (w.2.2.1 60)), (1, .int x1), (2, .int x2), (3, .int x3), (4, .int x4), (5, .int x5)] dX3_settled_35 hl (by decide) rfl (fun ls hl => ?_)
  exact w_X3_settled_l37 C hrec zF _ _ _ _ _ _ _ _ _ _ (lv_sub hl [3, 4, 5, 6, 7, 8, 2, 1, 0] rfl) h
set_option maxRecDepth 20000 in
theorem w_X3_settled_b0 {w : zWd} {X : zX} {l0 : Launch} {r : Int32} {S1 : zMem} {d : Nat} (C : zC LC w X l0 cX3_settled RX3 13 (3 + d + 1) (some .int)) {rec : Int32 → Int32 → Int32 → Int32 → Int32 → zMem → Option (Int32 × zMem)} (hrec : ∀ (x1 : Int32) (x2 : Int32) (x3 : Int32) (x4 : Int32) (x5 : Int32) (S : zMem) (r : Int32) (S1 : zMem), rec x1 x2 x3 x4 x5 S = some (r, S1) → zMet LC w l0 yX3_settled cX3_settled 13 (some .int) (3 + d) [.ref (w.2.2.1 60), .int x1, .int x2, .int x3, .int x4, .int x5] S (some (.int r)) S1) {x1 : Int32} {x2 : Int32} {x3 : Int32} {x4 : Int32} {x5 : Int32} {S : zMem} {ls : Array Slot} (hl : lv_has ls 13 [(0, .ref (w.2.2.1 60)), (1, .int x1), (2, .int x2), (3, .int x3), (4, .int x4), (5, .int x5)]) (h : X3_settled_b0 rec x1 x2 x3 x4 x5 S = some (r, S1)) : zV LC w X (some (.int r)) S1 S 0 ls [] := by
  unfold X3_settled_b0 at h
  refine v_iload_n 0 C dX3_settled_0 rfl (lv_at hl 3 rfl) ?_
  refine v_if_eq 1 15 C dX3_settled_1 (by decide) h (fun h => ?_) (fun h => ?_)
  · exact w_X3_settled_b15 C hrec (lv_sub hl [] rfl) h
  · refine v_iload_n 4 C dX3_settled_4 rfl (lv_at hl 1 rfl) ?_
    refine v_iload_n 5 C dX3_settled_5 rfl (lv_at hl 2 rfl) ?_
    refine v_icmp_ge 6 15 C dX3_settled_6 (by decide) h (fun h => ?_) (fun h => ?_)
    · exact w_X3_settled_b15 C hrec (lv_sub hl [] rfl) h
    · refine v_iload_n 9 C dX3_settled_9 rfl (lv_at hl 1 rfl) ?_
      refine v_bipush 10 C (v := (6 : Int32)) dX3_settled_10 (by decide) ?_
      refine v_icmp_lt 12 17 C dX3_settled_12 (by decide) h (fun h => ?_) (fun h => ?_)
      · refine v_iload_n 17 C dX3_settled_17 rfl (lv_at hl 1 rfl) ?_
        refine v_iconst 18 C (v := (2 : Int32)) dX3_settled_18 (by decide) ?_
        refine v_irem 19 C dX3_settled_19 (by decide) h (fun v1 h => ?_)
        refine v_if_ne 20 27 C dX3_settled_20 (by decide) h (fun h => ?_) (fun h => ?_)
        · refine v_iconst 27 C (v := (0 : Int32)) dX3_settled_27 (by decide) ?_
          exact w_X3_settled_b28 C hrec (lv_sub hl [0, 1, 2, 3, 4, 5] rfl) h
        · refine v_iconst 23 C (v := (1 : Int32)) dX3_settled_23 (by decide) ?_
          refine v_goto 24 28 C dX3_settled_24 (by decide) ?_
          exact w_X3_settled_b28 C hrec (lv_sub hl [0, 1, 2, 3, 4, 5] rfl) h
      · exact w_X3_settled_b15 C hrec (lv_sub hl [] rfl) h
theorem c_X3_settled_all {w : zWd} {l0 : Launch} : ∀ d : Nat, ∀ (x1 : Int32) (x2 : Int32) (x3 : Int32) (x4 : Int32) (x5 : Int32) (S : zMem) (r : Int32) (S1 : zMem), f_X3_settled d x1 x2 x3 x4 x5 S = some (r, S1) → zMet LC w l0 yX3_settled cX3_settled 13 (some .int) (3 + d) [.ref (w.2.2.1 60), .int x1, .int x2, .int x3, .int x4, .int x5] S (some (.int r)) S1 := by
  intro d
  induction d with
  | zero =>
    intro x1 x2 x3 x4 x5 S r S1 h
    cases (show (none : Option (Int32 × zMem)) = some _ from h)
  | succ d ih =>
    intro x1 x2 x3 x4 x5 S r S1 h
    exact zMet_of (lev := 3 + d + 1) (by decide +kernel) (Nat.le_of_ble_eq_true rfl) (fun X ls C hl => w_X3_settled_b0 C ih hl h)
theorem c_X3_settled {w : zWd} {l0 : Launch} (d : Nat) {x1 : Int32} {x2 : Int32} {x3 : Int32} {x4 : Int32} {x5 : Int32} {S S1 : zMem} {r : Int32} (h : f_X3_settled d x1 x2 x3 x4 x5 S = some (r, S1)) : zMet LC w l0 yX3_settled cX3_settled 13 (some .int) (3 + d) [.ref (w.2.2.1 60), .int x1, .int x2, .int x3, .int x4, .int x5] S (some (.int r)) S1 := c_X3_settled_all d _ _ _ _ _ _ _ _ h
