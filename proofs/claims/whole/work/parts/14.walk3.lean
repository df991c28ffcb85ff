-- X3_byTurns X8_duel X2_weigh X2_follow X8_odds X8_mid X8_performLot X4_allBonds X8_lots X8_asked X8_upper X8_lower X6_lettersOf X8_howManyThere X8_howManyKept X8_countOf X8_count X8_finding X8_findings X7_mixedInto X8_digest X9_in X9_isRow X9_find X9_makeRow X9_row X9_refused X9_tell X9_lay
theorem dX3_byTurns_0 : decode cX3_byTurns 0 = .ok (.aload_n 0, 1) := by decide +kernel
theorem dX3_byTurns_1 : decode cX3_byTurns 1 = .ok (.aload_n 1, 1) := by decide +kernel
theorem dX3_byTurns_2 : decode cX3_byTurns 2 = .ok (.getfield 22, 3) := by decide +kernel
theorem dX3_byTurns_5 : decode cX3_byTurns 5 = .ok (.putfield 28, 3) := by decide +kernel
theorem dX3_byTurns_8 : decode cX3_byTurns 8 = .ok (.aload_n 0, 1) := by decide +kernel
theorem dX3_byTurns_9 : decode cX3_byTurns 9 = .ok (.iconst 0, 1) := by decide +kernel
theorem dX3_byTurns_10 : decode cX3_byTurns 10 = .ok (.iload_n 2, 1) := by decide +kernel
theorem dX3_byTurns_11 : decode cX3_byTurns 11 = .ok (.aload_n 0, 1) := by decide +kernel
theorem dX3_byTurns_12 : decode cX3_byTurns 12 = .ok (.getfield 18, 3) := by decide +kernel
theorem dX3_byTurns_15 : decode cX3_byTurns 15 = .ok (.invokevirtual 74, 3) := by decide +kernel
theorem dX3_byTurns_18 : decode cX3_byTurns 18 = .ok (.aload_n 1, 1) := by decide +kernel
theorem dX3_byTurns_19 : decode cX3_byTurns 19 = .ok (.getfield 78, 3) := by decide +kernel
theorem dX3_byTurns_22 : decode cX3_byTurns 22 = .ok (.iconst (-1), 1) := by decide +kernel
theorem dX3_byTurns_23 : decode cX3_byTurns 23 = .ok (.ixor, 1) := by decide +kernel
theorem dX3_byTurns_24 : decode cX3_byTurns 24 = .ok (.iand, 1) := by decide +kernel
theorem dX3_byTurns_25 : decode cX3_byTurns 25 = .ok (.aload_n 1, 1) := by decide +kernel
theorem dX3_byTurns_26 : decode cX3_byTurns 26 = .ok (.getfield 32, 3) := by decide +kernel
theorem dX3_byTurns_29 : decode cX3_byTurns 29 = .ok (.aload_n 1, 1) := by decide +kernel
theorem dX3_byTurns_30 : decode cX3_byTurns 30 = .ok (.getfield 35, 3) := by decide +kernel
theorem dX3_byTurns_33 : decode cX3_byTurns 33 = .ok (.invokevirtual 97, 3) := by decide +kernel
theorem dX3_byTurns_36 : decode cX3_byTurns 36 = .ok (.ireturn, 1) := by decide +kernel
set_option maxRecDepth 20000 in
theorem w_X3_byTurns_b0 {w : zWd} {X : zX} {l0 : Launch} {r : Int32} {S1 : zMem} (C : zC LC w X l0 cX3_byTurns RX3 3 12 (some .int)) {x2 : Int32} {S : zMem} {ls : Array Slot} (hl : lv_has ls 3 [(0, .ref (w.2.2.1 60)), (1, .ref (w.2.2.1 35)), (2, .int x2)]) (h : X3_byTurns_b0 x2 S = some (r, S1)) : zV LC w X (some (.int r)) S1 S 0 ls [] := by
  unfold X3_byTurns_b0 at h
  refine v_aload_n 0 C dX3_byTurns_0 rfl (lv_at hl 0 rfl) ?_
  refine v_aload_n 1 C dX3_byTurns_1 rfl (lv_at hl 1 rfl) ?_
  refine v_geti 2 C dX3_byTurns_2 fl_X3_22 rfl kC_35 h (fun v1 h => ?_)
  refine v_puti 5 C dX3_byTurns_5 fl_X3_28 fp_2_3 rfl kC_60 h (fun S h => ?_)
  refine v_aload_n 8 C dX3_byTurns_8 rfl (lv_at hl 0 rfl) ?_
  refine v_iconst 9 C (v := (0 : Int32)) dX3_byTurns_9 (by decide) ?_
  refine v_iload_n 10 C dX3_byTurns_10 rfl (lv_at hl 2 rfl) ?_
  refine v_aload_n 11 C dX3_byTurns_11 rfl (lv_at hl 0 rfl) ?_
  refine v_getr 12 (24) C dX3_byTurns_12 fl_X3_18 rfl kC_60 rfl ?_
  obtain ⟨v2, S, hc, h⟩ := zb_e h
  refine v_callVi 15 C (ci := 5) [.int x2, .int (0 : Int32), .ref (w.2.2.1 60)] dX3_byTurns_15 ml_X3_74 hy_X6_allLetters (c_X6_allLetters  hc) (by decide) rfl hl.1 kC_24 rfl (Nat.le_of_ble_eq_true rfl) rfl ?_
  refine v_aload_n 18 C dX3_byTurns_18 rfl (lv_at hl 1 rfl) ?_
  refine v_geti 19 C dX3_byTurns_19 fl_X3_78 rfl kC_35 h (fun v3 h => ?_)
  refine v_iconst 22 C (v := (-1 : Int32)) dX3_byTurns_22 (by decide) ?_
  refine v_ixor 23 C dX3_byTurns_23 h (fun v4 h => ?_)
  refine v_iand 24 C dX3_byTurns_24 h (fun v5 h => ?_)
  refine v_aload_n 25 C dX3_byTurns_25 rfl (lv_at hl 1 rfl) ?_
  refine v_geti 26 C dX3_byTurns_26 fl_X3_32 rfl kC_35 h (fun v6 h => ?_)
  refine v_aload_n 29 C dX3_byTurns_29 rfl (lv_at hl 1 rfl) ?_
  refine v_geti 30 C dX3_byTurns_30 fl_X3_35 rfl kC_35 h (fun v7 h => ?_)
  obtain ⟨v8, S, hc, h⟩ := zb_e h
  refine v_callVi 33 C (ci := 2) [] dX3_byTurns_33 ml_X3_97 hy_X3_settled (c_X3_settled 8  hc) (by decide) rfl hl.1 kC_60 rfl (Nat.le_of_ble_eq_true rfl) rfl ?_
  exact v_ireturn 36 C dX3_byTurns_36 h
theorem c_X3_byTurns {w : zWd} {l0 : Launch} {x2 : Int32} {S S1 : zMem} {r : Int32} (h : f_X3_byTurns x2 S = some (r, S1)) : zMet LC w l0 yX3_byTurns cX3_byTurns 3 (some .int) 12 [.ref (w.2.2.1 60), .ref (w.2.2.1 35), .int x2] S (some (.int r)) S1 :=
  zMet_of (by decide +kernel) (Nat.le_of_ble_eq_true rfl) (fun X ls C hl => w_X3_byTurns_b0 C hl h)
theorem ml_X8_296 : Cond.methodLink RX8 296 yX3_byTurns ∈ zT := zT_of (List.mem_of_getElem? (i := 768) (by decide +kernel)) rfl
theorem hy_X3_byTurns : zYv yX3_byTurns cX3_byTurns 3 (some .int) 2 := ⟨⟨zT_of (List.mem_of_getElem? (i := 771) (by decide +kernel)) rfl, zT_of (List.mem_of_getElem? (i := 74) (by decide +kernel)) rfl, by decide, by decide +kernel, by decide +kernel, by decide +kernel⟩, zT_of (List.mem_of_getElem? (i := 769) (by decide +kernel)) rfl, zT_of (List.mem_of_getElem? (i := 770) (by decide +kernel)) rfl⟩
theorem dX8_duel_0 : decode cX8_duel 0 = .ok (.iload_n 1, 1) := by decide +kernel
theorem dX8_duel_1 : decode cX8_duel 1 = .ok (.iconst 3, 1) := by decide +kernel
theorem dX8_duel_2 : decode cX8_duel 2 = .ok (.invokestatic 152, 3) := by decide +kernel
theorem dX8_duel_5 : decode cX8_duel 5 = .ok (.ifCond .ne 5, 3) := by decide +kernel
theorem dX8_duel_8 : decode cX8_duel 8 = .ok (.iconst (-1), 1) := by decide +kernel
theorem dX8_duel_9 : decode cX8_duel 9 = .ok (.ireturn, 1) := by decide +kernel
theorem dX8_duel_10 : decode cX8_duel 10 = .ok (.aload_n 0, 1) := by decide +kernel
theorem dX8_duel_11 : decode cX8_duel 11 = .ok (.invokevirtual 196, 3) := by decide +kernel
theorem dX8_duel_14 : decode cX8_duel 14 = .ok (.ifCond .ne 6, 3) := by decide +kernel
theorem dX8_duel_17 : decode cX8_duel 17 = .ok (.bipush (-4), 2) := by decide +kernel
theorem dX8_duel_19 : decode cX8_duel 19 = .ok (.ireturn, 1) := by decide +kernel
theorem dX8_duel_20 : decode cX8_duel 20 = .ok (.aload_n 0, 1) := by decide +kernel
theorem dX8_duel_21 : decode cX8_duel 21 = .ok (.aload_n 0, 1) := by decide +kernel
theorem dX8_duel_22 : decode cX8_duel 22 = .ok (.getfield 51, 3) := by decide +kernel
theorem dX8_duel_25 : decode cX8_duel 25 = .ok (.aload_n 0, 1) := by decide +kernel
theorem dX8_duel_26 : decode cX8_duel 26 = .ok (.getfield 37, 3) := by decide +kernel
theorem dX8_duel_29 : decode cX8_duel 29 = .ok (.iconst 2, 1) := by decide +kernel
theorem dX8_duel_30 : decode cX8_duel 30 = .ok (.iload_n 1, 1) := by decide +kernel
theorem dX8_duel_31 : decode cX8_duel 31 = .ok (.imul, 1) := by decide +kernel
theorem dX8_duel_32 : decode cX8_duel 32 = .ok (.invokevirtual 296, 3) := by decide +kernel
theorem dX8_duel_35 : decode cX8_duel 35 = .ok (.invokevirtual 102, 3) := by decide +kernel
theorem dX8_duel_38 : decode cX8_duel 38 = .ok (.ireturn, 1) := by decide +kernel
set_option maxRecDepth 20000 in
theorem w_X8_duel_b0 {w : zWd} {X : zX} {l0 : Launch} {r : Int32} {S1 : zMem} (C : zC LC w X l0 cX8_duel RX8 2 13 (some .int)) {x1 : Int32} {S : zMem} {ls : Array Slot} (hl : lv_has ls 2 [(0, .ref (w.2.2.1 0)), (1, .int x1)]) (h : X8_duel_b0 x1 S = some (r, S1)) : zV LC w X (some (.int r)) S1 S 0 ls [] := by
  unfold X8_duel_b0 at h
  refine v_iload_n 0 C dX8_duel_0 rfl (lv_at hl 1 rfl) ?_
  refine v_iconst 1 C (v := (3 : Int32)) dX8_duel_1 (by decide) ?_
  obtain ⟨v1, S, hc, h⟩ := zb_e h
  refine v_callSi 2 C [] dX8_duel_2 ml_X8_152 hy_X8_within (c_X8_within  hc) (by decide) rfl hl.1 (Nat.le_of_ble_eq_true rfl) rfl ?_
  refine v_if_ne 5 10 C dX8_duel_5 (by decide) h (fun h => ?_) (fun h => ?_)
  · refine v_aload_n 10 C dX8_duel_10 rfl (lv_at hl 0 rfl) ?_
    obtain ⟨v2, S, hc, h⟩ := zb_e h
    refine v_callVi 11 C (ci := 7) [] dX8_duel_11 ml_X8_196 hy_X8_isPosted (c_X8_isPosted  hc) (by decide) rfl hl.1 kC_0 rfl (Nat.le_of_ble_eq_true rfl) rfl ?_
    refine v_if_ne 14 20 C dX8_duel_14 (by decide) h (fun h => ?_) (fun h => ?_)
    · refine v_aload_n 20 C dX8_duel_20 rfl (lv_at hl 0 rfl) ?_
      refine v_aload_n 21 C dX8_duel_21 rfl (lv_at hl 0 rfl) ?_
      refine v_getr 22 (60) C dX8_duel_22 fl_X8_51 rfl kC_0 rfl ?_
      refine v_aload_n 25 C dX8_duel_25 rfl (lv_at hl 0 rfl) ?_
      refine v_getr 26 (35) C dX8_duel_26 fl_X8_37 rfl kC_0 rfl ?_
      refine v_iconst 29 C (v := (2 : Int32)) dX8_duel_29 (by decide) ?_
      refine v_iload_n 30 C dX8_duel_30 rfl (lv_at hl 1 rfl) ?_
      refine v_imul 31 C dX8_duel_31 h (fun v3 h => ?_)
      obtain ⟨v4, S, hc, h⟩ := zb_e h
      refine v_callVi 32 C (ci := 2) [.ref (w.2.2.1 0)] dX8_duel_32 ml_X8_296 hy_X3_byTurns (c_X3_byTurns  hc) (by decide) rfl hl.1 kC_60 rfl (Nat.le_of_ble_eq_true rfl) rfl ?_
      obtain ⟨v5, S, hc, h⟩ := zb_e h
      refine v_callVi 35 C (ci := 7) [] dX8_duel_35 ml_X8_102 hy_X8_tell (c_X8_tell  hc) (by decide) rfl hl.1 kC_0 rfl (Nat.le_of_ble_eq_true rfl) rfl ?_
      exact v_ireturn 38 C dX8_duel_38 h
    · refine v_bipush 17 C (v := (-4 : Int32)) dX8_duel_17 (by decide) ?_
      exact v_ireturn 19 C dX8_duel_19 h
  · refine v_iconst 8 C (v := (-1 : Int32)) dX8_duel_8 (by decide) ?_
    exact v_ireturn 9 C dX8_duel_9 h
theorem c_X8_duel {w : zWd} {l0 : Launch} {x1 : Int32} {S S1 : zMem} {r : Int32} (h : f_X8_duel x1 S = some (r, S1)) : zMet LC w l0 yX8_duel cX8_duel 2 (some .int) 13 [.ref (w.2.2.1 0), .int x1] S (some (.int r)) S1 :=
  zMet_of (by decide +kernel) (Nat.le_of_ble_eq_true rfl) (fun X ls C hl => w_X8_duel_b0 C hl h)
theorem fl_X2_58 : zFL RX2 58 1 6 := ⟨_, rfl, by decide, zT_of (List.mem_of_getElem? (i := 262) (by decide +kernel)) rfl⟩
theorem fp_1_6 : zFP 1 6 .long := fun q h => by cases h; exact ⟨rfl, by decide +kernel⟩
theorem fl_X2_62 : zFL RX2 62 1 7 := ⟨_, rfl, by decide, zT_of (List.mem_of_getElem? (i := 264) (by decide +kernel)) rfl⟩
theorem fp_1_7 : zFP 1 7 .long := fun q h => by cases h; exact ⟨rfl, by decide +kernel⟩
theorem fl_X2_65 : zFL RX2 65 1 8 := ⟨_, rfl, by decide, zT_of (List.mem_of_getElem? (i := 266) (by decide +kernel)) rfl⟩
theorem fp_1_8 : zFP 1 8 .long := fun q h => by cases h; exact ⟨rfl, by decide +kernel⟩
theorem fl_X2_52 : zFL RX2 52 1 4 := ⟨_, rfl, by decide, zT_of (List.mem_of_getElem? (i := 260) (by decide +kernel)) rfl⟩
theorem fl_X2_15 : zFL RX2 15 1 0 := ⟨_, rfl, by decide, zT_of (List.mem_of_getElem? (i := 256) (by decide +kernel)) rfl⟩
theorem ml_X2_78 : Cond.methodLink RX2 78 yX6_moodWithin ∈ zT := zT_of (List.mem_of_getElem? (i := 791) (by decide +kernel)) rfl
theorem fl_X2_51 : zFL RX2 51 1 3 := ⟨_, rfl, by decide, zT_of (List.mem_of_getElem? (i := 259) (by decide +kernel)) rfl⟩
theorem ml_X2_84 : Cond.methodLink RX2 84 yX6_moodAtDoor ∈ zT := zT_of (List.mem_of_getElem? (i := 792) (by decide +kernel)) rfl
theorem ml_X2_88 : Cond.methodLink RX2 88 yX6_warmth ∈ zT := zT_of (List.mem_of_getElem? (i := 793) (by decide +kernel)) rfl
theorem ml_X2_90 : Cond.methodLink RX2 90 yX6_moodBehind ∈ zT := zT_of (List.mem_of_getElem? (i := 794) (by decide +kernel)) rfl
theorem fl_X2_94 : zFL RX2 94 5 2 := ⟨_, rfl, by decide, zT_of (List.mem_of_getElem? (i := 107) (by decide +kernel)) rfl⟩
theorem ml_X2_74 : Cond.methodLink RX2 74 yX2_weigh ∈ zT := zT_of (List.mem_of_getElem? (i := 787) (by decide +kernel)) rfl
theorem hy_X2_weigh : zYv yX2_weigh cX2_weigh 14 none 5 := ⟨⟨zT_of (List.mem_of_getElem? (i := 790) (by decide +kernel)) rfl, zT_of (List.mem_of_getElem? (i := 75) (by decide +kernel)) rfl, by decide, by decide +kernel, by decide +kernel, by decide +kernel⟩, zT_of (List.mem_of_getElem? (i := 789) (by decide +kernel)) rfl, zT_of (List.mem_of_getElem? (i := 17) (by decide +kernel)) rfl⟩
theorem fl_X2_55 : zFL RX2 55 1 5 := ⟨_, rfl, by decide, zT_of (List.mem_of_getElem? (i := 261) (by decide +kernel)) rfl⟩
theorem fl_X2_34 : zFL RX2 34 1 2 := ⟨_, rfl, by decide, zT_of (List.mem_of_getElem? (i := 258) (by decide +kernel)) rfl⟩
theorem fl_X2_9 : zFL RX2 9 1 1 := ⟨_, rfl, by decide, zT_of (List.mem_of_getElem? (i := 257) (by decide +kernel)) rfl⟩
theorem dX2_weigh_0 : decode cX2_weigh 0 = .ok (.iload_n 1, 1) := by decide +kernel
theorem dX2_weigh_1 : decode cX2_weigh 1 = .ok (.aload_n 0, 1) := by decide +kernel
theorem dX2_weigh_2 : decode cX2_weigh 2 = .ok (.getfield 34, 3) := by decide +kernel
theorem dX2_weigh_5 : decode cX2_weigh 5 = .ok (.if_icmp .ge 9, 3) := by decide +kernel
theorem dX2_weigh_8 : decode cX2_weigh 8 = .ok (.iload_n 1, 1) := by decide +kernel
theorem dX2_weigh_9 : decode cX2_weigh 9 = .ok (.bipush 6, 2) := by decide +kernel
theorem dX2_weigh_11 : decode cX2_weigh 11 = .ok (.if_icmp .lt 54, 3) := by decide +kernel
theorem dX2_weigh_14 : decode cX2_weigh 14 = .ok (.aload_n 0, 1) := by decide +kernel
theorem dX2_weigh_15 : decode cX2_weigh 15 = .ok (.dup, 1) := by decide +kernel
theorem dX2_weigh_16 : decode cX2_weigh 16 = .ok (.getfield 58, 3) := by decide +kernel
theorem dX2_weigh_19 : decode cX2_weigh 19 = .ok (.iload 4, 2) := by decide +kernel
theorem dX2_weigh_21 : decode cX2_weigh 21 = .ok (.aload_n 0, 1) := by decide +kernel
theorem dX2_weigh_22 : decode cX2_weigh 22 = .ok (.getfield 52, 3) := by decide +kernel
theorem dX2_weigh_25 : decode cX2_weigh 25 = .ok (.if_icmp .lt 8, 3) := by decide +kernel
theorem dX2_weigh_28 : decode cX2_weigh 28 = .ok (.lload 5, 2) := by decide +kernel
theorem dX2_weigh_30 : decode cX2_weigh 30 = .ok (.goto 4, 3) := by decide +kernel
theorem dX2_weigh_33 : decode cX2_weigh 33 = .ok (.lconst 0, 1) := by decide +kernel
theorem dX2_weigh_34 : decode cX2_weigh 34 = .ok (.ladd, 1) := by decide +kernel
theorem dX2_weigh_35 : decode cX2_weigh 35 = .ok (.putfield 58, 3) := by decide +kernel
theorem dX2_weigh_38 : decode cX2_weigh 38 = .ok (.aload_n 0, 1) := by decide +kernel
theorem dX2_weigh_39 : decode cX2_weigh 39 = .ok (.dup, 1) := by decide +kernel
theorem dX2_weigh_40 : decode cX2_weigh 40 = .ok (.getfield 62, 3) := by decide +kernel
theorem dX2_weigh_43 : decode cX2_weigh 43 = .ok (.lload 5, 2) := by decide +kernel
theorem dX2_weigh_45 : decode cX2_weigh 45 = .ok (.iload 4, 2) := by decide +kernel
theorem dX2_weigh_47 : decode cX2_weigh 47 = .ok (.i2l, 1) := by decide +kernel
theorem dX2_weigh_48 : decode cX2_weigh 48 = .ok (.lmul, 1) := by decide +kernel
theorem dX2_weigh_49 : decode cX2_weigh 49 = .ok (.ladd, 1) := by decide +kernel
theorem dX2_weigh_50 : decode cX2_weigh 50 = .ok (.putfield 62, 3) := by decide +kernel
theorem dX2_weigh_53 : decode cX2_weigh 53 = .ok (.aload_n 0, 1) := by decide +kernel
theorem dX2_weigh_54 : decode cX2_weigh 54 = .ok (.dup, 1) := by decide +kernel
theorem dX2_weigh_55 : decode cX2_weigh 55 = .ok (.getfield 65, 3) := by decide +kernel
theorem dX2_weigh_58 : decode cX2_weigh 58 = .ok (.lload 5, 2) := by decide +kernel
theorem dX2_weigh_60 : decode cX2_weigh 60 = .ok (.ladd, 1) := by decide +kernel
theorem dX2_weigh_61 : decode cX2_weigh 61 = .ok (.putfield 65, 3) := by decide +kernel
theorem dX2_weigh_64 : decode cX2_weigh 64 = .ok (.return_, 1) := by decide +kernel
theorem dX2_weigh_65 : decode cX2_weigh 65 = .ok (.aload_n 0, 1) := by decide +kernel
theorem dX2_weigh_66 : decode cX2_weigh 66 = .ok (.getfield 9, 3) := by decide +kernel
theorem dX2_weigh_69 : decode cX2_weigh 69 = .ok (.iload_n 1, 1) := by decide +kernel
theorem dX2_weigh_70 : decode cX2_weigh 70 = .ok (.iaload, 1) := by decide +kernel
theorem dX2_weigh_71 : decode cX2_weigh 71 = .ok (.istore 7, 2) := by decide +kernel
theorem dX2_weigh_73 : decode cX2_weigh 73 = .ok (.iconst 0, 1) := by decide +kernel
theorem dX2_weigh_74 : decode cX2_weigh 74 = .ok (.istore 8, 2) := by decide +kernel
theorem dX2_weigh_76 : decode cX2_weigh 76 = .ok (.iload 8, 2) := by decide +kernel
theorem dX2_weigh_78 : decode cX2_weigh 78 = .ok (.iconst 1, 1) := by decide +kernel
theorem dX2_weigh_79 : decode cX2_weigh 79 = .ok (.if_icmp .gt 112, 3) := by decide +kernel
theorem dX2_weigh_82 : decode cX2_weigh 82 = .ok (.lload 5, 2) := by decide +kernel
theorem dX2_weigh_84 : decode cX2_weigh 84 = .ok (.iload 8, 2) := by decide +kernel
theorem dX2_weigh_86 : decode cX2_weigh 86 = .ok (.iconst 1, 1) := by decide +kernel
theorem dX2_weigh_87 : decode cX2_weigh 87 = .ok (.if_icmp .ne 10, 3) := by decide +kernel
theorem dX2_weigh_90 : decode cX2_weigh 90 = .ok (.aload_n 0, 1) := by decide +kernel
theorem dX2_weigh_91 : decode cX2_weigh 91 = .ok (.getfield 55, 3) := by decide +kernel
theorem dX2_weigh_94 : decode cX2_weigh 94 = .ok (.goto 10, 3) := by decide +kernel
theorem dX2_weigh_97 : decode cX2_weigh 97 = .ok (.bipush 12, 2) := by decide +kernel
theorem dX2_weigh_99 : decode cX2_weigh 99 = .ok (.aload_n 0, 1) := by decide +kernel
theorem dX2_weigh_100 : decode cX2_weigh 100 = .ok (.getfield 55, 3) := by decide +kernel
theorem dX2_weigh_103 : decode cX2_weigh 103 = .ok (.isub, 1) := by decide +kernel
theorem dX2_weigh_104 : decode cX2_weigh 104 = .ok (.i2l, 1) := by decide +kernel
theorem dX2_weigh_105 : decode cX2_weigh 105 = .ok (.lmul, 1) := by decide +kernel
theorem dX2_weigh_106 : decode cX2_weigh 106 = .ok (.lstore 9, 2) := by decide +kernel
theorem dX2_weigh_108 : decode cX2_weigh 108 = .ok (.aload_n 0, 1) := by decide +kernel
theorem dX2_weigh_109 : decode cX2_weigh 109 = .ok (.getfield 15, 3) := by decide +kernel
theorem dX2_weigh_112 : decode cX2_weigh 112 = .ok (.iload 7, 2) := by decide +kernel
theorem dX2_weigh_114 : decode cX2_weigh 114 = .ok (.iload_n 2, 1) := by decide +kernel
theorem dX2_weigh_115 : decode cX2_weigh 115 = .ok (.iload 8, 2) := by decide +kernel
theorem dX2_weigh_117 : decode cX2_weigh 117 = .ok (.iadd, 1) := by decide +kernel
theorem dX2_weigh_118 : decode cX2_weigh 118 = .ok (.invokestatic 78, 3) := by decide +kernel
theorem dX2_weigh_121 : decode cX2_weigh 121 = .ok (.iload_n 3, 1) := by decide +kernel
theorem dX2_weigh_122 : decode cX2_weigh 122 = .ok (.aload_n 0, 1) := by decide +kernel
theorem dX2_weigh_123 : decode cX2_weigh 123 = .ok (.getfield 51, 3) := by decide +kernel
theorem dX2_weigh_126 : decode cX2_weigh 126 = .ok (.invokevirtual 84, 3) := by decide +kernel
theorem dX2_weigh_129 : decode cX2_weigh 129 = .ok (.istore 11, 2) := by decide +kernel
theorem dX2_weigh_131 : decode cX2_weigh 131 = .ok (.aload_n 0, 1) := by decide +kernel
theorem dX2_weigh_132 : decode cX2_weigh 132 = .ok (.getfield 15, 3) := by decide +kernel
theorem dX2_weigh_135 : decode cX2_weigh 135 = .ok (.iload 7, 2) := by decide +kernel
theorem dX2_weigh_137 : decode cX2_weigh 137 = .ok (.iload 11, 2) := by decide +kernel
theorem dX2_weigh_139 : decode cX2_weigh 139 = .ok (.invokevirtual 88, 3) := by decide +kernel
theorem dX2_weigh_142 : decode cX2_weigh 142 = .ok (.istore 12, 2) := by decide +kernel
theorem dX2_weigh_144 : decode cX2_weigh 144 = .ok (.aload_n 0, 1) := by decide +kernel
theorem dX2_weigh_145 : decode cX2_weigh 145 = .ok (.getfield 15, 3) := by decide +kernel
theorem dX2_weigh_148 : decode cX2_weigh 148 = .ok (.iload 7, 2) := by decide +kernel
theorem dX2_weigh_150 : decode cX2_weigh 150 = .ok (.iload 11, 2) := by decide +kernel
theorem dX2_weigh_152 : decode cX2_weigh 152 = .ok (.iload 12, 2) := by decide +kernel
theorem dX2_weigh_154 : decode cX2_weigh 154 = .ok (.invokevirtual 90, 3) := by decide +kernel
theorem dX2_weigh_157 : decode cX2_weigh 157 = .ok (.istore 13, 2) := by decide +kernel
theorem dX2_weigh_159 : decode cX2_weigh 159 = .ok (.aload_n 0, 1) := by decide +kernel
theorem dX2_weigh_160 : decode cX2_weigh 160 = .ok (.iload_n 1, 1) := by decide +kernel
theorem dX2_weigh_161 : decode cX2_weigh 161 = .ok (.iconst 1, 1) := by decide +kernel
theorem dX2_weigh_162 : decode cX2_weigh 162 = .ok (.iadd, 1) := by decide +kernel
theorem dX2_weigh_163 : decode cX2_weigh 163 = .ok (.iload 13, 2) := by decide +kernel
theorem dX2_weigh_165 : decode cX2_weigh 165 = .ok (.aload_n 0, 1) := by decide +kernel
theorem dX2_weigh_166 : decode cX2_weigh 166 = .ok (.getfield 15, 3) := by decide +kernel
theorem dX2_weigh_169 : decode cX2_weigh 169 = .ok (.getfield 94, 3) := by decide +kernel
theorem dX2_weigh_172 : decode cX2_weigh 172 = .ok (.iload 7, 2) := by decide +kernel
theorem dX2_weigh_174 : decode cX2_weigh 174 = .ok (.iaload, 1) := by decide +kernel
theorem dX2_weigh_175 : decode cX2_weigh 175 = .ok (.iload 4, 2) := by decide +kernel
theorem dX2_weigh_177 : decode cX2_weigh 177 = .ok (.iload 12, 2) := by decide +kernel
theorem dX2_weigh_179 : decode cX2_weigh 179 = .ok (.iadd, 1) := by decide +kernel
theorem dX2_weigh_180 : decode cX2_weigh 180 = .ok (.lload 9, 2) := by decide +kernel
theorem dX2_weigh_182 : decode cX2_weigh 182 = .ok (.invokevirtual 74, 3) := by decide +kernel
theorem dX2_weigh_185 : decode cX2_weigh 185 = .ok (.iinc 8 1, 3) := by decide +kernel
theorem dX2_weigh_188 : decode cX2_weigh 188 = .ok (.goto (-112), 3) := by decide +kernel
theorem dX2_weigh_191 : decode cX2_weigh 191 = .ok (.return_, 1) := by decide +kernel
set_option maxRecDepth 20000 in
theorem w_X2_weigh_b34 {w : zWd} {X : zX} {l0 : Launch} {r : Unit} {S1 : zMem} {d : Nat} (C : zC LC w X l0 cX2_weigh RX2 14 (3 + d + 1) none) {rec : Int32 → Int32 → Int32 → Int32 → Int64 → zMem → Option (Unit × zMem)} (hrec : ∀ (x1 : Int32) (x2 : Int32) (x3 : Int32) (x4 : Int32) (y5 : Int64) (S : zMem) (r : Unit) (S1 : zMem), rec x1 x2 x3 x4 y5 S = some (r, S1) → zMet LC w l0 yX2_weigh cX2_weigh 14 none (3 + d) [.ref (w.2.2.1 63), .int x1, .int x2, .int x3, .int x4, .long y5] S none S1) {x4 : Int32} {y5 : Int64} {s1 : Int64} {s2 : Int64} {S : zMem} {ls : Array Slot} (hl : lv_has ls 14 [(0, .ref (w.2.2.1 63)), (4, .int x4), (5, .long y5)]) (h : X2_weigh_b34 rec x4 y5 s1 s2 S = some (r, S1)) : zV LC w X none S1 S 34 ls [.long s2, .long s1, .ref (w.2.2.1 63)] := by
  unfold X2_weigh_b34 at h
  refine v_ladd 34 C dX2_weigh_34 h (fun v1 h => ?_)
  refine v_putl 35 C dX2_weigh_35 fl_X2_58 fp_1_6 rfl kC_63 h (fun S h => ?_)
  refine v_aload_n 38 C dX2_weigh_38 rfl (lv_at hl 0 rfl) ?_
  refine v_dup 39 C dX2_weigh_39 rfl ?_
  refine v_getl 40 C dX2_weigh_40 fl_X2_62 rfl kC_63 h (fun v2 h => ?_)
  refine v_lload 43 C dX2_weigh_43 (lv_at hl 2 rfl) ?_
  refine v_iload 45 C dX2_weigh_45 (lv_at hl 1 rfl) ?_
  refine v_i2l 47 C dX2_weigh_47 h (fun v3 h => ?_)
  refine v_lmul 48 C dX2_weigh_48 h (fun v4 h => ?_)
  refine v_ladd 49 C dX2_weigh_49 h (fun v5 h => ?_)
  refine v_putl 50 C dX2_weigh_50 fl_X2_62 fp_1_7 rfl kC_63 h (fun S h => ?_)
  refine v_aload_n 53 C dX2_weigh_53 rfl (lv_at hl 0 rfl) ?_
  refine v_dup 54 C dX2_weigh_54 rfl ?_
  refine v_getl 55 C dX2_weigh_55 fl_X2_65 rfl kC_63 h (fun v6 h => ?_)
  refine v_lload 58 C dX2_weigh_58 (lv_at hl 2 rfl) ?_
  refine v_ladd 60 C dX2_weigh_60 h (fun v7 h => ?_)
  refine v_putl 61 C dX2_weigh_61 fl_X2_65 fp_1_8 rfl kC_63 h (fun S h => ?_)
  exact v_return 64 C dX2_weigh_64 h
set_option maxRecDepth 20000 in
theorem w_X2_weigh_b14 {w : zWd} {X : zX} {l0 : Launch} {r : Unit} {S1 : zMem} {d : Nat} (C : zC LC w X l0 cX2_weigh RX2 14 (3 + d + 1) none) {rec : Int32 → Int32 → Int32 → Int32 → Int64 → zMem → Option (Unit × zMem)} (hrec : ∀ (x1 : Int32) (x2 : Int32) (x3 : Int32) (x4 : Int32) (y5 : Int64) (S : zMem) (r : Unit) (S1 : zMem), rec x1 x2 x3 x4 y5 S = some (r, S1) → zMet LC w l0 yX2_weigh cX2_weigh 14 none (3 + d) [.ref (w.2.2.1 63), .int x1, .int x2, .int x3, .int x4, .long y5] S none S1) {x4 : Int32} {y5 : Int64} {S : zMem} {ls : Array Slot} (hl : lv_has ls 14 [(0, .ref (w.2.2.1 63)), (4, .int x4), (5, .long y5)]) (h : X2_weigh_b14 rec x4 y5 S = some (r, S1)) : zV LC w X none S1 S 14 ls [] := by
  unfold X2_weigh_b14 at h
  refine v_aload_n 14 C dX2_weigh_14 rfl (lv_at hl 0 rfl) ?_
  refine v_dup 15 C dX2_weigh_15 rfl ?_
  refine v_getl 16 C dX2_weigh_16 fl_X2_58 rfl kC_63 h (fun v1 h => ?_)
  refine v_iload 19 C dX2_weigh_19 (lv_at hl 1 rfl) ?_
  refine v_aload_n 21 C dX2_weigh_21 rfl (lv_at hl 0 rfl) ?_
  refine v_geti 22 C dX2_weigh_22 fl_X2_52 rfl kC_63 h (fun v2 h => ?_)
  refine v_icmp_lt 25 33 C dX2_weigh_25 (by decide) h (fun h => ?_) (fun h => ?_)
  · refine v_lconst 33 C (v := 0) dX2_weigh_33 (by decide) ?_
    exact w_X2_weigh_b34 C hrec (lv_sub hl [0, 1, 2] rfl) h
  · refine v_lload 28 C dX2_weigh_28 (lv_at hl 2 rfl) ?_
    refine v_goto 30 34 C dX2_weigh_30 (by decide) ?_
    exact w_X2_weigh_b34 C hrec (lv_sub hl [0, 1, 2] rfl) h
set_option maxRecDepth 20000 in
theorem w_X2_weigh_b104 {w : zWd} {X : zX} {l0 : Launch} {r : Unit} {S1 : zMem} {d : Nat} (C : zC LC w X l0 cX2_weigh RX2 14 (3 + d + 1) none) {rec : Int32 → Int32 → Int32 → Int32 → Int64 → zMem → Option (Unit × zMem)} (hrec : ∀ (x1 : Int32) (x2 : Int32) (x3 : Int32) (x4 : Int32) (y5 : Int64) (S : zMem) (r : Unit) (S1 : zMem), rec x1 x2 x3 x4 y5 S = some (r, S1) → zMet LC w l0 yX2_weigh cX2_weigh 14 none (3 + d) [.ref (w.2.2.1 63), .int x1, .int x2, .int x3, .int x4, .long y5] S none S1) {k76 : Int32 → Int32 → Int32 → Int32 → Int64 → Int32 → Int32 → zMem → Option (Unit × zMem)} (hc76 : ∀ (x1 : Int32) (x2 : Int32) (x3 : Int32) (x4 : Int32) (y5 : Int64) (x7 : Int32) (x8 : Int32) (S : zMem) (ls : Array Slot), lv_has ls 14 [(0, .ref (w.2.2.1 63)), (1, .int x1), (2, .int x2), (3, .int x3), (4, .int x4), (5, .long y5), (7, .int x7), (8, .int x8)] → k76 x1 x2 x3 x4 y5 x7 x8 S = some (r, S1) → zV LC w X none S1 S 76 ls []) {x1 : Int32} {x2 : Int32} {x3 : Int32} {x4 : Int32} {y5 : Int64} {x7 : Int32} {x8 : Int32} {s0 : Int64} {s1 : Int32} {S : zMem} {ls : Array Slot} (hl : lv_has ls 14 [(0, .ref (w.2.2.1 63)), (1, .int x1), (2, .int x2), (3, .int x3), (4, .int x4), (5, .long y5), (7, .int x7), (8, .int x8)]) (h : X2_weigh_b104 rec k76 x1 x2 x3 x4 y5 x7 x8 s0 s1 S = some (r, S1)) : zV LC w X none S1 S 104 ls [.int s1, .long s0] := by
  unfold X2_weigh_b104 at h
  refine v_i2l 104 C dX2_weigh_104 h (fun v1 h => ?_)
  refine v_lmul 105 C dX2_weigh_105 h (fun v2 h => ?_)
  refine v_lstore 106 C [(9, .long v2), (0, .ref (w.2.2.1 63)), (1, .int x1), (2, .int x2), (3, .int x3), (4, .int x4), (5, .long y5), (7, .int x7), (8, .int x8)] dX2_weigh_106 hl (by decide) rfl (fun ls hl => ?_)
  refine v_aload_n 108 C dX2_weigh_108 rfl (lv_at hl 1 rfl) ?_
  refine v_getr 109 (24) C dX2_weigh_109 fl_X2_15 rfl kC_63 rfl ?_
  refine v_iload 112 C dX2_weigh_112 (lv_at hl 7 rfl) ?_
  refine v_iload_n 114 C dX2_weigh_114 rfl (lv_at hl 3 rfl) ?_
  refine v_iload 115 C dX2_weigh_115 (lv_at hl 8 rfl) ?_
  refine v_iadd 117 C dX2_weigh_117 h (fun v3 h => ?_)
  obtain ⟨v4, S, hc, h⟩ := zb_e h
  refine v_callSi 118 C [.int x7, .ref (w.2.2.1 24)] dX2_weigh_118 ml_X2_78 hy_X6_moodWithin (c_X6_moodWithin  hc) (by omega) rfl hl.1 (Nat.le_of_ble_eq_true rfl) rfl ?_
  refine v_iload_n 121 C dX2_weigh_121 rfl (lv_at hl 4 rfl) ?_
  refine v_aload_n 122 C dX2_weigh_122 rfl (lv_at hl 1 rfl) ?_
  refine v_geti 123 C dX2_weigh_123 fl_X2_51 rfl kC_63 h (fun v5 h => ?_)
  obtain ⟨v6, S, hc, h⟩ := zb_e h
  refine v_callVi 126 C (ci := 5) [] dX2_weigh_126 ml_X2_84 hy_X6_moodAtDoor (c_X6_moodAtDoor  hc) (by omega) rfl hl.1 kC_24 rfl (Nat.le_of_ble_eq_true rfl) rfl ?_
  refine v_istore 129 C [(11, .int v6), (9, .long v2), (0, .ref (w.2.2.1 63)), (1, .int x1), (2, .int x2), (3, .int x3), (4, .int x4), (5, .long y5), (7, .int x7), (8, .int x8)] dX2_weigh_129 hl (by decide) rfl (fun ls hl => ?_)
  refine v_aload_n 131 C dX2_weigh_131 rfl (lv_at hl 2 rfl) ?_
  refine v_getr 132 (24) C dX2_weigh_132 fl_X2_15 rfl kC_63 rfl ?_
  refine v_iload 135 C dX2_weigh_135 (lv_at hl 8 rfl) ?_
  refine v_iload 137 C dX2_weigh_137 (lv_at hl 0 rfl) ?_
  obtain ⟨v7, S, hc, h⟩ := zb_e h
  refine v_callVi 139 C (ci := 5) [] dX2_weigh_139 ml_X2_88 hy_X6_warmth (c_X6_warmth  hc) (by omega) rfl hl.1 kC_24 rfl (Nat.le_of_ble_eq_true rfl) rfl ?_
  refine v_istore 142 C [(12, .int v7), (11, .int v6), (9, .long v2), (0, .ref (w.2.2.1 63)), (1, .int x1), (2, .int x2), (3, .int x3), (4, .int x4), (5, .long y5), (7, .int x7), (8, .int x8)] dX2_weigh_142 hl (by decide) rfl (fun ls hl => ?_)
  refine v_aload_n 144 C dX2_weigh_144 rfl (lv_at hl 3 rfl) ?_
  refine v_getr 145 (24) C dX2_weigh_145 fl_X2_15 rfl kC_63 rfl ?_
  refine v_iload 148 C dX2_weigh_148 (lv_at hl 9 rfl) ?_
  refine v_iload 150 C dX2_weigh_150 (lv_at hl 1 rfl) ?_
  refine v_iload 152 C dX2_weigh_152 (lv_at hl 0 rfl) ?_
  obtain ⟨v8, S, hc, h⟩ := zb_e h
  refine v_callVi 154 C (ci := 5) [] dX2_weigh_154 ml_X2_90 hy_X6_moodBehind (c_X6_moodBehind  hc) (by omega) rfl hl.1 kC_24 rfl (Nat.le_of_ble_eq_true rfl) rfl ?_
  refine v_istore 157 C [(13, .int v8), (12, .int v7), (11, .int v6), (9, .long v2), (0, .ref (w.2.2.1 63)), (1, .int x1), (2, .int x2), (3, .int x3), (4, .int x4), (5, .long y5), (7, .int x7), (8, .int x8)] dX2_weigh_157 hl (by decide) rfl (fun ls hl => ?_)
  refine v_aload_n 159 C dX2_weigh_159 rfl (lv_at hl 4 rfl) ?_
  refine v_iload_n 160 C dX2_weigh_160 rfl (lv_at hl 5 rfl) ?_
  refine v_iconst 161 C (v := (1 : Int32)) dX2_weigh_161 (by decide) ?_
  refine v_iadd 162 C dX2_weigh_162 h (fun v9 h => ?_)
  refine v_iload 163 C dX2_weigh_163 (lv_at hl 0 rfl) ?_
  refine v_aload_n 165 C dX2_weigh_165 rfl (lv_at hl 4 rfl) ?_
  refine v_getr 166 (24) C dX2_weigh_166 fl_X2_15 rfl kC_63 rfl ?_
  refine v_getr 169 (27) C dX2_weigh_169 fl_X2_94 rfl kC_24 rfl ?_
  refine v_iload 172 C dX2_weigh_172 (lv_at hl 10 rfl) ?_
  refine v_iald 174 C dX2_weigh_174 kC_27 rfl h (fun v10 h => ?_)
  refine v_iload 175 C dX2_weigh_175 (lv_at hl 8 rfl) ?_
  refine v_iload 177 C dX2_weigh_177 (lv_at hl 1 rfl) ?_
  refine v_iadd 179 C dX2_weigh_179 h (fun v11 h => ?_)
  refine v_lload 180 C dX2_weigh_180 (lv_at hl 3 rfl) ?_
  obtain ⟨v12, S, hc, h⟩ := zb_e h
  refine v_callVv 182 C (ci := 1) [] dX2_weigh_182 ml_X2_74 hy_X2_weigh (hrec _ _ _ _ _ _ _ _  hc) (by omega) rfl hl.1 kC_63 rfl (Nat.le_of_ble_eq_true rfl) rfl ?_
  refine v_iinc 185 C (nn := (1 : Int32)) (fun v => [(8, .int v), (13, .int v8), (12, .int v7), (11, .int v6), (9, .long v2), (0, .ref (w.2.2.1 63)), (1, .int x1), (2, .int x2), (3, .int x3), (4, .int x4), (5, .long y5), (7, .int x7)]) dX2_weigh_185 hl (k := 11) rfl (by decide) (by decide) (fun _ => rfl) h (fun v13 ls hl h => ?_)
  refine v_goto 188 76 C dX2_weigh_188 (by decide) ?_
  exact hc76 _ _ _ _ _ _ _ _ _ (lv_sub hl [5, 6, 7, 8, 9, 10, 11, 0] rfl) h
set_option maxRecDepth 20000 in
theorem w_X2_weigh_b76 {w : zWd} {X : zX} {l0 : Launch} {r : Unit} {S1 : zMem} {d : Nat} (C : zC LC w X l0 cX2_weigh RX2 14 (3 + d + 1) none) {rec : Int32 → Int32 → Int32 → Int32 → Int64 → zMem → Option (Unit × zMem)} (hrec : ∀ (x1 : Int32) (x2 : Int32) (x3 : Int32) (x4 : Int32) (y5 : Int64) (S : zMem) (r : Unit) (S1 : zMem), rec x1 x2 x3 x4 y5 S = some (r, S1) → zMet LC w l0 yX2_weigh cX2_weigh 14 none (3 + d) [.ref (w.2.2.1 63), .int x1, .int x2, .int x3, .int x4, .long y5] S none S1) {k76 : Int32 → Int32 → Int32 → Int32 → Int64 → Int32 → Int32 → zMem → Option (Unit × zMem)} (hc76 : ∀ (x1 : Int32) (x2 : Int32) (x3 : Int32) (x4 : Int32) (y5 : Int64) (x7 : Int32) (x8 : Int32) (S : zMem) (ls : Array Slot), lv_has ls 14 [(0, .ref (w.2.2.1 63)), (1, .int x1), (2, .int x2), (3, .int x3), (4, .int x4), (5, .long y5), (7, .int x7), (8, .int x8)] → k76 x1 x2 x3 x4 y5 x7 x8 S = some (r, S1) → zV LC w X none S1 S 76 ls []) {x1 : Int32} {x2 : Int32} {x3 : Int32} {x4 : Int32} {y5 : Int64} {x7 : Int32} {x8 : Int32} {S : zMem} {ls : Array Slot} (hl : lv_has ls 14 [(0, .ref (w.2.2.1 63)), (1, .int x1), (2, .int x2), (3, .int x3), (4, .int x4), (5, .long y5), (7, .int x7), (8, .int x8)]) (h : X2_weigh_b76 rec k76 x1 x2 x3 x4 y5 x7 x8 S = some (r, S1)) : zV LC w X none S1 S 76 ls [] := by
  unfold X2_weigh_b76 at h
  refine v_iload 76 C dX2_weigh_76 (lv_at hl 7 rfl) ?_
  refine v_iconst 78 C (v := (1 : Int32)) dX2_weigh_78 (by decide) ?_
  refine v_icmp_gt 79 191 C dX2_weigh_79 (by decide) h (fun h => ?_) (fun h => ?_)
  · exact v_return 191 C dX2_weigh_191 h
  · refine v_lload 82 C dX2_weigh_82 (lv_at hl 5 rfl) ?_
    refine v_iload 84 C dX2_weigh_84 (lv_at hl 7 rfl) ?_
    refine v_iconst 86 C (v := (1 : Int32)) dX2_weigh_86 (by decide) ?_
    refine v_icmp_ne 87 97 C dX2_weigh_87 (by decide) h (fun h => ?_) (fun h => ?_)
    · refine v_bipush 97 C (v := (12 : Int32)) dX2_weigh_97 (by decide) ?_
      refine v_aload_n 99 C dX2_weigh_99 rfl (lv_at hl 0 rfl) ?_
      refine v_geti 100 C dX2_weigh_100 fl_X2_55 rfl kC_63 h (fun v1 h => ?_)
      refine v_isub 103 C dX2_weigh_103 h (fun v2 h => ?_)
      exact w_X2_weigh_b104 C hrec hc76 (lv_sub hl [0, 1, 2, 3, 4, 5, 6, 7] rfl) h
    · refine v_aload_n 90 C dX2_weigh_90 rfl (lv_at hl 0 rfl) ?_
      refine v_geti 91 C dX2_weigh_91 fl_X2_55 rfl kC_63 h (fun v3 h => ?_)
      refine v_goto 94 104 C dX2_weigh_94 (by decide) ?_
      exact w_X2_weigh_b104 C hrec hc76 (lv_sub hl [0, 1, 2, 3, 4, 5, 6, 7] rfl) h
theorem w_X2_weigh_l76 {w : zWd} {X : zX} {l0 : Launch} {r : Unit} {S1 : zMem} {d : Nat} (C : zC LC w X l0 cX2_weigh RX2 14 (3 + d + 1) none) {rec : Int32 → Int32 → Int32 → Int32 → Int64 → zMem → Option (Unit × zMem)} (hrec : ∀ (x1 : Int32) (x2 : Int32) (x3 : Int32) (x4 : Int32) (y5 : Int64) (S : zMem) (r : Unit) (S1 : zMem), rec x1 x2 x3 x4 y5 S = some (r, S1) → zMet LC w l0 yX2_weigh cX2_weigh 14 none (3 + d) [.ref (w.2.2.1 63), .int x1, .int x2, .int x3, .int x4, .long y5] S none S1) : ∀ (n : Nat) (x1 : Int32) (x2 : Int32) (x3 : Int32) (x4 : Int32) (y5 : Int64) (x7 : Int32) (x8 : Int32) (S : zMem) (ls : Array Slot), lv_has ls 14 [(0, .ref (w.2.2.1 63)), (1, .int x1), (2, .int x2), (3, .int x3), (4, .int x4), (5, .long y5), (7, .int x7), (8, .int x8)] → X2_weigh_l76 rec n x1 x2 x3 x4 y5 x7 x8 S = some (r, S1) → zV LC w X none S1 S 76 ls [] := by
  intro n
  induction n with
  | zero =>
    intro x1 x2 x3 x4 y5 x7 x8 S ls hl h
    cases (show (none : Option (Unit × zMem)) = some _ from h)
  | succ n ih =>
    intro x1 x2 x3 x4 y5 x7 x8 S ls hl h
    exact w_X2_weigh_b76 C hrec ih hl h
set_option maxRecDepth 20000 in
theorem w_X2_weigh_b0 {w : zWd} {X : zX} {l0 : Launch} {r : Unit} {S1 : zMem} {d : Nat} (C : zC LC w X l0 cX2_weigh RX2 14 (3 + d + 1) none) {rec : Int32 → Int32 → Int32 → Int32 → Int64 → zMem → Option (Unit × zMem)} (hrec : ∀ (x1 : Int32) (x2 : Int32) (x3 : Int32) (x4 : Int32) (y5 : Int64) (S : zMem) (r : Unit) (S1 : zMem), rec x1 x2 x3 x4 y5 S = some (r, S1) → zMet LC w l0 yX2_weigh cX2_weigh 14 none (3 + d) [.ref (w.2.2.1 63), .int x1, .int x2, .int x3, .int x4, .long y5] S none S1) {x1 : Int32} {x2 : Int32} {x3 : Int32} {x4 : Int32} {y5 : Int64} {S : zMem} {ls : Array Slot} (hl : lv_has ls 14 [(0, .ref (w.2.2.1 63)), (1, .int x1), (2, .int x2), (3, .int x3), (4, .int x4), (5, .long y5)]) (h : X2_weigh_b0 rec x1 x2 x3 x4 y5 S = some (r, S1)) : zV LC w X none S1 S 0 ls [] := by
  unfold X2_weigh_b0 at h
  refine v_iload_n 0 C dX2_weigh_0 rfl (lv_at hl 1 rfl) ?_
  refine v_aload_n 1 C dX2_weigh_1 rfl (lv_at hl 0 rfl) ?_
  refine v_geti 2 C dX2_weigh_2 fl_X2_34 rfl kC_63 h (fun v1 h => ?_)
  refine v_icmp_ge 5 14 C dX2_weigh_5 (by decide) h (fun h => ?_) (fun h => ?_)
  · exact w_X2_weigh_b14 C hrec (lv_sub hl [0, 4, 5] rfl) h
  · refine v_iload_n 8 C dX2_weigh_8 rfl (lv_at hl 1 rfl) ?_
    refine v_bipush 9 C (v := (6 : Int32)) dX2_weigh_9 (by decide) ?_
    refine v_icmp_lt 11 65 C dX2_weigh_11 (by decide) h (fun h => ?_) (fun h => ?_)
    · refine v_aload_n 65 C dX2_weigh_65 rfl (lv_at hl 0 rfl) ?_
      refine v_getr 66 (64) C dX2_weigh_66 fl_X2_9 rfl kC_63 rfl ?_
      refine v_iload_n 69 C dX2_weigh_69 rfl (lv_at hl 1 rfl) ?_
      refine v_iald 70 C dX2_weigh_70 kC_64 rfl h (fun v2 h => ?_)
      refine v_istore 71 C [(7, .int v2), (0, .ref (w.2.2.1 63)), (1, .int x1), (2, .int x2), (3, .int x3), (4, .int x4), (5, .long y5)] dX2_weigh_71 hl (by decide) rfl (fun ls hl => ?_)
      refine v_iconst 73 C (v := (0 : Int32)) dX2_weigh_73 (by decide) ?_
      refine v_istore 74 C [(8, .int (0 : Int32)), (7, .int v2), (0, .ref (w.2.2.1 63)), (1, .int x1), (2, .int x2), (3, .int x3), (4, .int x4), (5, .long y5)] dX2_weigh_74 hl (by decide) rfl (fun ls hl => ?_)
      exact w_X2_weigh_l76 C hrec zF _ _ _ _ _ _ _ _ _ (lv_sub hl [2, 3, 4, 5, 6, 7, 1, 0] rfl) h
    · exact w_X2_weigh_b14 C hrec (lv_sub hl [0, 4, 5] rfl) h
theorem c_X2_weigh_all {w : zWd} {l0 : Launch} : ∀ d : Nat, ∀ (x1 : Int32) (x2 : Int32) (x3 : Int32) (x4 : Int32) (y5 : Int64) (S : zMem) (r : Unit) (S1 : zMem), f_X2_weigh d x1 x2 x3 x4 y5 S = some (r, S1) → zMet LC w l0 yX2_weigh cX2_weigh 14 none (3 + d) [.ref (w.2.2.1 63), .int x1, .int x2, .int x3, .int x4, .long y5] S none S1 := by
  intro d
  induction d with
  | zero =>
    intro x1 x2 x3 x4 y5 S r S1 h
    cases (show (none : Option (Unit × zMem)) = some _ from h)
  | succ d ih =>
    intro x1 x2 x3 x4 y5 S r S1 h
    exact zMet_of (lev := 3 + d + 1) (by decide +kernel) (Nat.le_of_ble_eq_true rfl) (fun X ls C hl => w_X2_weigh_b0 C ih hl h)
theorem c_X2_weigh {w : zWd} {l0 : Launch} (d : Nat) {x1 : Int32} {x2 : Int32} {x3 : Int32} {x4 : Int32} {y5 : Int64} {S S1 : zMem} {r : Unit} (h : f_X2_weigh d x1 x2 x3 x4 y5 S = some (r, S1)) : zMet LC w l0 yX2_weigh cX2_weigh 14 none (3 + d) [.ref (w.2.2.1 63), .int x1, .int x2, .int x3, .int x4, .long y5] S none S1 := c_X2_weigh_all d _ _ _ _ _ _ _ _ h
theorem fl_X2_19 : zFL RX2 19 6 1 := ⟨_, rfl, by decide, zT_of (List.mem_of_getElem? (i := 308) (by decide +kernel)) rfl⟩
theorem ml_X2_25 : Cond.methodLink RX2 25 Lib.Math.min.name ∈ zT := zT_of (List.mem_of_getElem? (i := 784) (by decide +kernel)) rfl
theorem ml_X2_31 : Cond.methodLink RX2 31 Lib.Math.max.name ∈ zT := zT_of (List.mem_of_getElem? (i := 785) (by decide +kernel)) rfl
theorem fp_1_2 : zFP 1 2 .int := fun q h => by cases h; exact ⟨rfl, by decide +kernel⟩
theorem fl_X2_37 : zFL RX2 37 6 0 := ⟨_, rfl, by decide, zT_of (List.mem_of_getElem? (i := 304) (by decide +kernel)) rfl⟩
theorem ml_X2_40 : Cond.methodLink RX2 40 arraycopyName ∈ zT := zT_of (List.mem_of_getElem? (i := 786) (by decide +kernel)) rfl
theorem fl_X2_46 : zFL RX2 46 3 9 := ⟨_, rfl, by decide, zT_of (List.mem_of_getElem? (i := 185) (by decide +kernel)) rfl⟩
theorem fp_1_3 : zFP 1 3 .int := fun q h => by cases h; exact ⟨rfl, by decide +kernel⟩
theorem fp_1_4 : zFP 1 4 .int := fun q h => by cases h; exact ⟨rfl, by decide +kernel⟩
theorem fp_1_5 : zFP 1 5 .int := fun q h => by cases h; exact ⟨rfl, by decide +kernel⟩
theorem fl_X2_68 : zFL RX2 68 3 8 := ⟨_, rfl, by decide, zT_of (List.mem_of_getElem? (i := 181) (by decide +kernel)) rfl⟩
theorem fl_X2_71 : zFL RX2 71 3 10 := ⟨_, rfl, by decide, zT_of (List.mem_of_getElem? (i := 189) (by decide +kernel)) rfl⟩
theorem dX2_follow_0 : decode cX2_follow 0 = .ok (.aload_n 0, 1) := by decide +kernel
theorem dX2_follow_1 : decode cX2_follow 1 = .ok (.iconst 0, 1) := by decide +kernel
theorem dX2_follow_2 : decode cX2_follow 2 = .ok (.aload_n 2, 1) := by decide +kernel
theorem dX2_follow_3 : decode cX2_follow 3 = .ok (.getfield 19, 3) := by decide +kernel
theorem dX2_follow_6 : decode cX2_follow 6 = .ok (.bipush 6, 2) := by decide +kernel
theorem dX2_follow_8 : decode cX2_follow 8 = .ok (.invokestatic 25, 3) := by decide +kernel
theorem dX2_follow_11 : decode cX2_follow 11 = .ok (.invokestatic 31, 3) := by decide +kernel
theorem dX2_follow_14 : decode cX2_follow 14 = .ok (.putfield 34, 3) := by decide +kernel
theorem dX2_follow_17 : decode cX2_follow 17 = .ok (.aload_n 2, 1) := by decide +kernel
theorem dX2_follow_18 : decode cX2_follow 18 = .ok (.getfield 37, 3) := by decide +kernel
theorem dX2_follow_21 : decode cX2_follow 21 = .ok (.iconst 0, 1) := by decide +kernel
theorem dX2_follow_22 : decode cX2_follow 22 = .ok (.aload_n 0, 1) := by decide +kernel
theorem dX2_follow_23 : decode cX2_follow 23 = .ok (.getfield 9, 3) := by decide +kernel
theorem dX2_follow_26 : decode cX2_follow 26 = .ok (.iconst 0, 1) := by decide +kernel
theorem dX2_follow_27 : decode cX2_follow 27 = .ok (.aload_n 0, 1) := by decide +kernel
theorem dX2_follow_28 : decode cX2_follow 28 = .ok (.getfield 34, 3) := by decide +kernel
theorem dX2_follow_31 : decode cX2_follow 31 = .ok (.invokestatic 40, 3) := by decide +kernel
theorem dX2_follow_34 : decode cX2_follow 34 = .ok (.aload_n 0, 1) := by decide +kernel
theorem dX2_follow_35 : decode cX2_follow 35 = .ok (.aload_n 1, 1) := by decide +kernel
theorem dX2_follow_36 : decode cX2_follow 36 = .ok (.getfield 46, 3) := by decide +kernel
theorem dX2_follow_39 : decode cX2_follow 39 = .ok (.putfield 51, 3) := by decide +kernel
theorem dX2_follow_42 : decode cX2_follow 42 = .ok (.aload_n 0, 1) := by decide +kernel
theorem dX2_follow_43 : decode cX2_follow 43 = .ok (.iload_n 3, 1) := by decide +kernel
theorem dX2_follow_44 : decode cX2_follow 44 = .ok (.putfield 52, 3) := by decide +kernel
theorem dX2_follow_47 : decode cX2_follow 47 = .ok (.aload_n 0, 1) := by decide +kernel
theorem dX2_follow_48 : decode cX2_follow 48 = .ok (.iload 4, 2) := by decide +kernel
theorem dX2_follow_50 : decode cX2_follow 50 = .ok (.putfield 55, 3) := by decide +kernel
theorem dX2_follow_53 : decode cX2_follow 53 = .ok (.aload_n 0, 1) := by decide +kernel
theorem dX2_follow_54 : decode cX2_follow 54 = .ok (.lconst 0, 1) := by decide +kernel
theorem dX2_follow_55 : decode cX2_follow 55 = .ok (.putfield 58, 3) := by decide +kernel
theorem dX2_follow_58 : decode cX2_follow 58 = .ok (.aload_n 0, 1) := by decide +kernel
theorem dX2_follow_59 : decode cX2_follow 59 = .ok (.lconst 0, 1) := by decide +kernel
theorem dX2_follow_60 : decode cX2_follow 60 = .ok (.putfield 62, 3) := by decide +kernel
theorem dX2_follow_63 : decode cX2_follow 63 = .ok (.aload_n 0, 1) := by decide +kernel
theorem dX2_follow_64 : decode cX2_follow 64 = .ok (.lconst 0, 1) := by decide +kernel
theorem dX2_follow_65 : decode cX2_follow 65 = .ok (.putfield 65, 3) := by decide +kernel
theorem dX2_follow_68 : decode cX2_follow 68 = .ok (.aload_n 0, 1) := by decide +kernel
theorem dX2_follow_69 : decode cX2_follow 69 = .ok (.iconst 0, 1) := by decide +kernel
theorem dX2_follow_70 : decode cX2_follow 70 = .ok (.aload_n 1, 1) := by decide +kernel
theorem dX2_follow_71 : decode cX2_follow 71 = .ok (.getfield 68, 3) := by decide +kernel
theorem dX2_follow_74 : decode cX2_follow 74 = .ok (.aload_n 1, 1) := by decide +kernel
theorem dX2_follow_75 : decode cX2_follow 75 = .ok (.getfield 71, 3) := by decide +kernel
theorem dX2_follow_78 : decode cX2_follow 78 = .ok (.iconst 0, 1) := by decide +kernel
theorem dX2_follow_79 : decode cX2_follow 79 = .ok (.lconst 1, 1) := by decide +kernel
theorem dX2_follow_80 : decode cX2_follow 80 = .ok (.invokevirtual 74, 3) := by decide +kernel
theorem dX2_follow_83 : decode cX2_follow 83 = .ok (.return_, 1) := by decide +kernel
set_option maxRecDepth 20000 in
theorem w_X2_follow_b0 {w : zWd} {X : zX} {l0 : Launch} {r : Unit} {S1 : zMem} (C : zC LC w X l0 cX2_follow RX2 5 12 none) {c2 : Nat} {x3 : Int32} {x4 : Int32} {S : zMem} {ls : Array Slot} (hl : lv_has ls 5 [(0, .ref (w.2.2.1 63)), (1, .ref (w.2.2.1 35)), (2, .ref (w.2.2.1 c2)), (3, .int x3), (4, .int x4)]) (hk_c2 : c2 < LC.1 ∧ LC.2.1 c2 = 9) (h : X2_follow_b0 c2 x3 x4 S = some (r, S1)) : zV LC w X none S1 S 0 ls [] := by
  unfold X2_follow_b0 at h
  refine v_aload_n 0 C dX2_follow_0 rfl (lv_at hl 0 rfl) ?_
  refine v_iconst 1 C (v := (0 : Int32)) dX2_follow_1 (by decide) ?_
  refine v_aload_n 2 C dX2_follow_2 rfl (lv_at hl 2 rfl) ?_
  refine v_geti 3 C dX2_follow_3 fl_X2_19 rfl hk_c2 h (fun v1 h => ?_)
  refine v_bipush 6 C (v := (6 : Int32)) dX2_follow_6 (by decide) ?_
  refine v_mmin 8 C dX2_follow_8 ml_X2_25 hl.1 (by decide) (Nat.le_of_ble_eq_true rfl) h (fun v2 h => ?_)
  refine v_mmax 11 C dX2_follow_11 ml_X2_31 hl.1 (by decide) (Nat.le_of_ble_eq_true rfl) h (fun v3 h => ?_)
  refine v_puti 14 C dX2_follow_14 fl_X2_34 fp_1_2 rfl kC_63 h (fun S h => ?_)
  refine v_aload_n 17 C dX2_follow_17 rfl (lv_at hl 2 rfl) ?_
  refine v_getr 18 (c2 + 1) C dX2_follow_18 fl_X2_37 rfl hk_c2 (rS1 hk_c2) ?_
  refine v_iconst 21 C (v := (0 : Int32)) dX2_follow_21 (by decide) ?_
  refine v_aload_n 22 C dX2_follow_22 rfl (lv_at hl 0 rfl) ?_
  refine v_getr 23 (64) C dX2_follow_23 fl_X2_9 rfl kC_63 rfl ?_
  refine v_iconst 26 C (v := (0 : Int32)) dX2_follow_26 (by decide) ?_
  refine v_aload_n 27 C dX2_follow_27 rfl (lv_at hl 0 rfl) ?_
  refine v_geti 28 C dX2_follow_28 fl_X2_34 rfl kC_63 h (fun v4 h => ?_)
  refine v_copy 31 C dX2_follow_31 ml_X2_40 hl.1 (by decide) (Nat.le_of_ble_eq_true rfl) (kS1 hk_c2) kC_64 rfl rfl h (fun S h => ?_)
  refine v_aload_n 34 C dX2_follow_34 rfl (lv_at hl 0 rfl) ?_
  refine v_aload_n 35 C dX2_follow_35 rfl (lv_at hl 1 rfl) ?_
  refine v_geti 36 C dX2_follow_36 fl_X2_46 rfl kC_35 h (fun v5 h => ?_)
  refine v_puti 39 C dX2_follow_39 fl_X2_51 fp_1_3 rfl kC_63 h (fun S h => ?_)
  refine v_aload_n 42 C dX2_follow_42 rfl (lv_at hl 0 rfl) ?_
  refine v_iload_n 43 C dX2_follow_43 rfl (lv_at hl 3 rfl) ?_
  refine v_puti 44 C dX2_follow_44 fl_X2_52 fp_1_4 rfl kC_63 h (fun S h => ?_)
  refine v_aload_n 47 C dX2_follow_47 rfl (lv_at hl 0 rfl) ?_
  refine v_iload 48 C dX2_follow_48 (lv_at hl 4 rfl) ?_
  refine v_puti 50 C dX2_follow_50 fl_X2_55 fp_1_5 rfl kC_63 h (fun S h => ?_)
  refine v_aload_n 53 C dX2_follow_53 rfl (lv_at hl 0 rfl) ?_
  refine v_lconst 54 C (v := 0) dX2_follow_54 (by decide) ?_
  refine v_putl 55 C dX2_follow_55 fl_X2_58 fp_1_6 rfl kC_63 h (fun S h => ?_)
  refine v_aload_n 58 C dX2_follow_58 rfl (lv_at hl 0 rfl) ?_
  refine v_lconst 59 C (v := 0) dX2_follow_59 (by decide) ?_
  refine v_putl 60 C dX2_follow_60 fl_X2_62 fp_1_7 rfl kC_63 h (fun S h => ?_)
  refine v_aload_n 63 C dX2_follow_63 rfl (lv_at hl 0 rfl) ?_
  refine v_lconst 64 C (v := 0) dX2_follow_64 (by decide) ?_
  refine v_putl 65 C dX2_follow_65 fl_X2_65 fp_1_8 rfl kC_63 h (fun S h => ?_)
  refine v_aload_n 68 C dX2_follow_68 rfl (lv_at hl 0 rfl) ?_
  refine v_iconst 69 C (v := (0 : Int32)) dX2_follow_69 (by decide) ?_
  refine v_aload_n 70 C dX2_follow_70 rfl (lv_at hl 1 rfl) ?_
  refine v_geti 71 C dX2_follow_71 fl_X2_68 rfl kC_35 h (fun v6 h => ?_)
  refine v_aload_n 74 C dX2_follow_74 rfl (lv_at hl 1 rfl) ?_
  refine v_geti 75 C dX2_follow_75 fl_X2_71 rfl kC_35 h (fun v7 h => ?_)
  refine v_iconst 78 C (v := (0 : Int32)) dX2_follow_78 (by decide) ?_
  refine v_lconst 79 C (v := 1) dX2_follow_79 (by decide) ?_
  obtain ⟨v8, S, hc, h⟩ := zb_e h
  refine v_callVv 80 C (ci := 1) [] dX2_follow_80 ml_X2_74 hy_X2_weigh (c_X2_weigh 8  hc) (by decide) rfl hl.1 kC_63 rfl (Nat.le_of_ble_eq_true rfl) rfl ?_
  exact v_return 83 C dX2_follow_83 h
theorem c_X2_follow {w : zWd} {l0 : Launch} {c2 : Nat} {x3 : Int32} {x4 : Int32} {S S1 : zMem} {r : Unit} (hk_c2 : c2 < LC.1 ∧ LC.2.1 c2 = 9) (h : f_X2_follow c2 x3 x4 S = some (r, S1)) : zMet LC w l0 yX2_follow cX2_follow 5 none 12 [.ref (w.2.2.1 63), .ref (w.2.2.1 35), .ref (w.2.2.1 c2), .int x3, .int x4] S none S1 :=
  zMet_of (by decide +kernel) (Nat.le_of_ble_eq_true rfl) (fun X ls C hl => w_X2_follow_b0 C hl hk_c2 h)
theorem fl_X8_58 : zFL RX8 58 7 8 := ⟨_, rfl, by decide, zT_of (List.mem_of_getElem? (i := 325) (by decide +kernel)) rfl⟩
theorem ml_X8_299 : Cond.methodLink RX8 299 yX2_follow ∈ zT := zT_of (List.mem_of_getElem? (i := 780) (by decide +kernel)) rfl
theorem hy_X2_follow : zYv yX2_follow cX2_follow 5 none 4 := ⟨⟨zT_of (List.mem_of_getElem? (i := 783) (by decide +kernel)) rfl, zT_of (List.mem_of_getElem? (i := 75) (by decide +kernel)) rfl, by decide, by decide +kernel, by decide +kernel, by decide +kernel⟩, zT_of (List.mem_of_getElem? (i := 781) (by decide +kernel)) rfl, zT_of (List.mem_of_getElem? (i := 782) (by decide +kernel)) rfl⟩
theorem fl_X8_303 : zFL RX8 303 1 6 := ⟨_, rfl, by decide, zT_of (List.mem_of_getElem? (i := 263) (by decide +kernel)) rfl⟩
theorem fl_X8_306 : zFL RX8 306 1 8 := ⟨_, rfl, by decide, zT_of (List.mem_of_getElem? (i := 267) (by decide +kernel)) rfl⟩
theorem dX8_odds_0 : decode cX8_odds 0 = .ok (.iload_n 1, 1) := by decide +kernel
theorem dX8_odds_1 : decode cX8_odds 1 = .ok (.invokestatic 80, 3) := by decide +kernel
theorem dX8_odds_4 : decode cX8_odds 4 = .ok (.ifCond .eq 21, 3) := by decide +kernel
theorem dX8_odds_7 : decode cX8_odds 7 = .ok (.iload_n 2, 1) := by decide +kernel
theorem dX8_odds_8 : decode cX8_odds 8 = .ok (.bipush 54, 2) := by decide +kernel
theorem dX8_odds_10 : decode cX8_odds 10 = .ok (.invokestatic 152, 3) := by decide +kernel
theorem dX8_odds_13 : decode cX8_odds 13 = .ok (.ifCond .eq 12, 3) := by decide +kernel
theorem dX8_odds_16 : decode cX8_odds 16 = .ok (.iload_n 3, 1) := by decide +kernel
theorem dX8_odds_17 : decode cX8_odds 17 = .ok (.bipush 12, 2) := by decide +kernel
theorem dX8_odds_19 : decode cX8_odds 19 = .ok (.invokestatic 152, 3) := by decide +kernel
theorem dX8_odds_22 : decode cX8_odds 22 = .ok (.ifCond .ne 5, 3) := by decide +kernel
theorem dX8_odds_25 : decode cX8_odds 25 = .ok (.iconst (-1), 1) := by decide +kernel
theorem dX8_odds_26 : decode cX8_odds 26 = .ok (.ireturn, 1) := by decide +kernel
theorem dX8_odds_27 : decode cX8_odds 27 = .ok (.aload_n 0, 1) := by decide +kernel
theorem dX8_odds_28 : decode cX8_odds 28 = .ok (.aload_n 0, 1) := by decide +kernel
theorem dX8_odds_29 : decode cX8_odds 29 = .ok (.getfield 11, 3) := by decide +kernel
theorem dX8_odds_32 : decode cX8_odds 32 = .ok (.iload_n 1, 1) := by decide +kernel
theorem dX8_odds_33 : decode cX8_odds 33 = .ok (.aaload, 1) := by decide +kernel
theorem dX8_odds_34 : decode cX8_odds 34 = .ok (.aload_n 0, 1) := by decide +kernel
theorem dX8_odds_35 : decode cX8_odds 35 = .ok (.getfield 37, 3) := by decide +kernel
theorem dX8_odds_38 : decode cX8_odds 38 = .ok (.getfield 202, 3) := by decide +kernel
theorem dX8_odds_41 : decode cX8_odds 41 = .ok (.invokevirtual 263, 3) := by decide +kernel
theorem dX8_odds_44 : decode cX8_odds 44 = .ok (.istore 4, 2) := by decide +kernel
theorem dX8_odds_46 : decode cX8_odds 46 = .ok (.iload 4, 2) := by decide +kernel
theorem dX8_odds_48 : decode cX8_odds 48 = .ok (.ifCond .eq 10, 3) := by decide +kernel
theorem dX8_odds_51 : decode cX8_odds 51 = .ok (.aload_n 0, 1) := by decide +kernel
theorem dX8_odds_52 : decode cX8_odds 52 = .ok (.iload 4, 2) := by decide +kernel
theorem dX8_odds_54 : decode cX8_odds 54 = .ok (.invokevirtual 84, 3) := by decide +kernel
theorem dX8_odds_57 : decode cX8_odds 57 = .ok (.ireturn, 1) := by decide +kernel
theorem dX8_odds_58 : decode cX8_odds 58 = .ok (.aload_n 0, 1) := by decide +kernel
theorem dX8_odds_59 : decode cX8_odds 59 = .ok (.getfield 58, 3) := by decide +kernel
theorem dX8_odds_62 : decode cX8_odds 62 = .ok (.aload_n 0, 1) := by decide +kernel
theorem dX8_odds_63 : decode cX8_odds 63 = .ok (.getfield 37, 3) := by decide +kernel
theorem dX8_odds_66 : decode cX8_odds 66 = .ok (.aload_n 0, 1) := by decide +kernel
theorem dX8_odds_67 : decode cX8_odds 67 = .ok (.getfield 11, 3) := by decide +kernel
theorem dX8_odds_70 : decode cX8_odds 70 = .ok (.iload_n 1, 1) := by decide +kernel
theorem dX8_odds_71 : decode cX8_odds 71 = .ok (.aaload, 1) := by decide +kernel
theorem dX8_odds_72 : decode cX8_odds 72 = .ok (.iload_n 2, 1) := by decide +kernel
theorem dX8_odds_73 : decode cX8_odds 73 = .ok (.iload_n 3, 1) := by decide +kernel
theorem dX8_odds_74 : decode cX8_odds 74 = .ok (.invokevirtual 299, 3) := by decide +kernel
theorem dX8_odds_77 : decode cX8_odds 77 = .ok (.aload_n 0, 1) := by decide +kernel
theorem dX8_odds_78 : decode cX8_odds 78 = .ok (.aload_n 0, 1) := by decide +kernel
theorem dX8_odds_79 : decode cX8_odds 79 = .ok (.getfield 58, 3) := by decide +kernel
theorem dX8_odds_82 : decode cX8_odds 82 = .ok (.getfield 303, 3) := by decide +kernel
theorem dX8_odds_85 : decode cX8_odds 85 = .ok (.aload_n 0, 1) := by decide +kernel
theorem dX8_odds_86 : decode cX8_odds 86 = .ok (.getfield 58, 3) := by decide +kernel
theorem dX8_odds_89 : decode cX8_odds 89 = .ok (.getfield 306, 3) := by decide +kernel
theorem dX8_odds_92 : decode cX8_odds 92 = .ok (.invokevirtual 292, 3) := by decide +kernel
theorem dX8_odds_95 : decode cX8_odds 95 = .ok (.ireturn, 1) := by decide +kernel
set_option maxRecDepth 20000 in
theorem w_X8_odds_b25 {w : zWd} {X : zX} {l0 : Launch} {r : Int32} {S1 : zMem} (C : zC LC w X l0 cX8_odds RX8 5 13 (some .int)) {S : zMem} {ls : Array Slot} (hl : lv_has ls 5 []) (h : X8_odds_b25  S = some (r, S1)) : zV LC w X (some (.int r)) S1 S 25 ls [] := by
  unfold X8_odds_b25 at h
  refine v_iconst 25 C (v := (-1 : Int32)) dX8_odds_25 (by decide) ?_
  exact v_ireturn 26 C dX8_odds_26 h
set_option maxRecDepth 20000 in
theorem w_X8_odds_b0 {w : zWd} {X : zX} {l0 : Launch} {r : Int32} {S1 : zMem} (C : zC LC w X l0 cX8_odds RX8 5 13 (some .int)) {x1 : Int32} {x2 : Int32} {x3 : Int32} {S : zMem} {ls : Array Slot} (hl : lv_has ls 5 [(0, .ref (w.2.2.1 0)), (1, .int x1), (2, .int x2), (3, .int x3)]) (h : X8_odds_b0 x1 x2 x3 S = some (r, S1)) : zV LC w X (some (.int r)) S1 S 0 ls [] := by
  unfold X8_odds_b0 at h
  refine v_iload_n 0 C dX8_odds_0 rfl (lv_at hl 1 rfl) ?_
  obtain ⟨v1, S, hc, h⟩ := zb_e h
  refine v_callSi 1 C [] dX8_odds_1 ml_X8_80 hy_X8_isRow (c_X8_isRow  hc) (by decide) rfl hl.1 (Nat.le_of_ble_eq_true rfl) rfl ?_
  refine v_if_eq 4 25 C dX8_odds_4 (by decide) h (fun h => ?_) (fun h => ?_)
  · exact w_X8_odds_b25 C (lv_sub hl [] rfl) h
  · refine v_iload_n 7 C dX8_odds_7 rfl (lv_at hl 2 rfl) ?_
    refine v_bipush 8 C (v := (54 : Int32)) dX8_odds_8 (by decide) ?_
    obtain ⟨v2, S, hc, h⟩ := zb_e h
    refine v_callSi 10 C [] dX8_odds_10 ml_X8_152 hy_X8_within (c_X8_within  hc) (by decide) rfl hl.1 (Nat.le_of_ble_eq_true rfl) rfl ?_
    refine v_if_eq 13 25 C dX8_odds_13 (by decide) h (fun h => ?_) (fun h => ?_)
    · exact w_X8_odds_b25 C (lv_sub hl [] rfl) h
    · refine v_iload_n 16 C dX8_odds_16 rfl (lv_at hl 3 rfl) ?_
      refine v_bipush 17 C (v := (12 : Int32)) dX8_odds_17 (by decide) ?_
      obtain ⟨v3, S, hc, h⟩ := zb_e h
      refine v_callSi 19 C [] dX8_odds_19 ml_X8_152 hy_X8_within (c_X8_within  hc) (by decide) rfl hl.1 (Nat.le_of_ble_eq_true rfl) rfl ?_
      refine v_if_ne 22 27 C dX8_odds_22 (by decide) h (fun h => ?_) (fun h => ?_)
      · refine v_aload_n 27 C dX8_odds_27 rfl (lv_at hl 0 rfl) ?_
        refine v_aload_n 28 C dX8_odds_28 rfl (lv_at hl 0 rfl) ?_
        refine v_getr 29 (1) C dX8_odds_29 fl_X8_11 rfl kC_0 rfl ?_
        refine v_iload_n 32 C dX8_odds_32 rfl (lv_at hl 1 rfl) ?_
        refine v_aald 33 (4 + 2 * Int32.toNatClampNeg x1) C dX8_odds_33 kC_1 (Or.inl rfl) rfl rfl h (fun hz4 h => ?_)
        refine v_aload_n 34 C dX8_odds_34 rfl (lv_at hl 0 rfl) ?_
        refine v_getr 35 (35) C dX8_odds_35 fl_X8_37 rfl kC_0 rfl ?_
        refine v_geti 38 C dX8_odds_38 fl_X8_202 rfl kC_35 h (fun v5 h => ?_)
        obtain ⟨v6, S, hc, h⟩ := zb_e h
        refine v_callVi 41 C (ci := 7) [] dX8_odds_41 ml_X8_263 hy_X8_wrongLetters (c_X8_wrongLetters (kRow hz4) hc) (by decide) rfl hl.1 kC_0 rfl (Nat.le_of_ble_eq_true rfl) rfl ?_
        refine v_istore 44 C [(4, .int v6), (0, .ref (w.2.2.1 0)), (1, .int x1), (2, .int x2), (3, .int x3)] dX8_odds_44 hl (by decide) rfl (fun ls hl => ?_)
        refine v_iload 46 C dX8_odds_46 (lv_at hl 0 rfl) ?_
        refine v_if_eq 48 58 C dX8_odds_48 (by decide) h (fun h => ?_) (fun h => ?_)
        · refine v_aload_n 58 C dX8_odds_58 rfl (lv_at hl 1 rfl) ?_
          refine v_getr 59 (63) C dX8_odds_59 fl_X8_58 rfl kC_0 rfl ?_
          refine v_aload_n 62 C dX8_odds_62 rfl (lv_at hl 1 rfl) ?_
          refine v_getr 63 (35) C dX8_odds_63 fl_X8_37 rfl kC_0 rfl ?_
          refine v_aload_n 66 C dX8_odds_66 rfl (lv_at hl 1 rfl) ?_
          refine v_getr 67 (1) C dX8_odds_67 fl_X8_11 rfl kC_0 rfl ?_
          refine v_iload_n 70 C dX8_odds_70 rfl (lv_at hl 2 rfl) ?_
          refine v_aald 71 (4 + 2 * Int32.toNatClampNeg x1) C dX8_odds_71 kC_1 (Or.inl rfl) rfl rfl h (fun hz7 h => ?_)
          refine v_iload_n 72 C dX8_odds_72 rfl (lv_at hl 3 rfl) ?_
          refine v_iload_n 73 C dX8_odds_73 rfl (lv_at hl 4 rfl) ?_
          obtain ⟨v8, S, hc, h⟩ := zb_e h
          refine v_callVv 74 C (ci := 1) [] dX8_odds_74 ml_X8_299 hy_X2_follow (c_X2_follow (kRow hz7) hc) (by decide) rfl hl.1 kC_63 rfl (Nat.le_of_ble_eq_true rfl) rfl ?_
          refine v_aload_n 77 C dX8_odds_77 rfl (lv_at hl 1 rfl) ?_
          refine v_aload_n 78 C dX8_odds_78 rfl (lv_at hl 1 rfl) ?_
          refine v_getr 79 (63) C dX8_odds_79 fl_X8_58 rfl kC_0 rfl ?_
          refine v_getl 82 C dX8_odds_82 fl_X8_303 rfl kC_63 h (fun v9 h => ?_)
          refine v_aload_n 85 C dX8_odds_85 rfl (lv_at hl 1 rfl) ?_
          refine v_getr 86 (63) C dX8_odds_86 fl_X8_58 rfl kC_0 rfl ?_
          refine v_getl 89 C dX8_odds_89 fl_X8_306 rfl kC_63 h (fun v10 h => ?_)
          obtain ⟨v11, S, hc, h⟩ := zb_e h
          refine v_callVi 92 C (ci := 7) [] dX8_odds_92 ml_X8_292 hy_X8_tellPart (c_X8_tellPart  hc) (by decide) rfl hl.1 kC_0 rfl (Nat.le_of_ble_eq_true rfl) rfl ?_
          exact v_ireturn 95 C dX8_odds_95 h
        · refine v_aload_n 51 C dX8_odds_51 rfl (lv_at hl 1 rfl) ?_
          refine v_iload 52 C dX8_odds_52 (lv_at hl 0 rfl) ?_
          obtain ⟨v12, S, hc, h⟩ := zb_e h
          refine v_callVi 54 C (ci := 7) [] dX8_odds_54 ml_X8_84 hy_X8_refuse (c_X8_refuse  hc) (by decide) rfl hl.1 kC_0 rfl (Nat.le_of_ble_eq_true rfl) rfl ?_
          exact v_ireturn 57 C dX8_odds_57 h
      · exact w_X8_odds_b25 C (lv_sub hl [] rfl) h
theorem c_X8_odds {w : zWd} {l0 : Launch} {x1 : Int32} {x2 : Int32} {x3 : Int32} {S S1 : zMem} {r : Int32} (h : f_X8_odds x1 x2 x3 S = some (r, S1)) : zMet LC w l0 yX8_odds cX8_odds 5 (some .int) 13 [.ref (w.2.2.1 0), .int x1, .int x2, .int x3] S (some (.int r)) S1 :=
  zMet_of (by decide +kernel) (Nat.le_of_ble_eq_true rfl) (fun X ls C hl => w_X8_odds_b0 C hl h)
theorem fl_X8_309 : zFL RX8 309 1 7 := ⟨_, rfl, by decide, zT_of (List.mem_of_getElem? (i := 265) (by decide +kernel)) rfl⟩
theorem dX8_mid_0 : decode cX8_mid 0 = .ok (.iload_n 1, 1) := by decide +kernel
theorem dX8_mid_1 : decode cX8_mid 1 = .ok (.invokestatic 80, 3) := by decide +kernel
theorem dX8_mid_4 : decode cX8_mid 4 = .ok (.ifCond .eq 12, 3) := by decide +kernel
theorem dX8_mid_7 : decode cX8_mid 7 = .ok (.iload_n 2, 1) := by decide +kernel
theorem dX8_mid_8 : decode cX8_mid 8 = .ok (.bipush 12, 2) := by decide +kernel
theorem dX8_mid_10 : decode cX8_mid 10 = .ok (.invokestatic 152, 3) := by decide +kernel
theorem dX8_mid_13 : decode cX8_mid 13 = .ok (.ifCond .ne 5, 3) := by decide +kernel
theorem dX8_mid_16 : decode cX8_mid 16 = .ok (.iconst (-1), 1) := by decide +kernel
theorem dX8_mid_17 : decode cX8_mid 17 = .ok (.ireturn, 1) := by decide +kernel
theorem dX8_mid_18 : decode cX8_mid 18 = .ok (.aload_n 0, 1) := by decide +kernel
theorem dX8_mid_19 : decode cX8_mid 19 = .ok (.aload_n 0, 1) := by decide +kernel
theorem dX8_mid_20 : decode cX8_mid 20 = .ok (.getfield 11, 3) := by decide +kernel
theorem dX8_mid_23 : decode cX8_mid 23 = .ok (.iload_n 1, 1) := by decide +kernel
theorem dX8_mid_24 : decode cX8_mid 24 = .ok (.aaload, 1) := by decide +kernel
theorem dX8_mid_25 : decode cX8_mid 25 = .ok (.aload_n 0, 1) := by decide +kernel
theorem dX8_mid_26 : decode cX8_mid 26 = .ok (.getfield 37, 3) := by decide +kernel
theorem dX8_mid_29 : decode cX8_mid 29 = .ok (.getfield 202, 3) := by decide +kernel
theorem dX8_mid_32 : decode cX8_mid 32 = .ok (.invokevirtual 263, 3) := by decide +kernel
theorem dX8_mid_35 : decode cX8_mid 35 = .ok (.istore_n 3, 1) := by decide +kernel
theorem dX8_mid_36 : decode cX8_mid 36 = .ok (.iload_n 3, 1) := by decide +kernel
theorem dX8_mid_37 : decode cX8_mid 37 = .ok (.ifCond .eq 9, 3) := by decide +kernel
theorem dX8_mid_40 : decode cX8_mid 40 = .ok (.aload_n 0, 1) := by decide +kernel
theorem dX8_mid_41 : decode cX8_mid 41 = .ok (.iload_n 3, 1) := by decide +kernel
theorem dX8_mid_42 : decode cX8_mid 42 = .ok (.invokevirtual 84, 3) := by decide +kernel
theorem dX8_mid_45 : decode cX8_mid 45 = .ok (.ireturn, 1) := by decide +kernel
theorem dX8_mid_46 : decode cX8_mid 46 = .ok (.aload_n 0, 1) := by decide +kernel
theorem dX8_mid_47 : decode cX8_mid 47 = .ok (.getfield 58, 3) := by decide +kernel
theorem dX8_mid_50 : decode cX8_mid 50 = .ok (.aload_n 0, 1) := by decide +kernel
theorem dX8_mid_51 : decode cX8_mid 51 = .ok (.getfield 37, 3) := by decide +kernel
theorem dX8_mid_54 : decode cX8_mid 54 = .ok (.aload_n 0, 1) := by decide +kernel
theorem dX8_mid_55 : decode cX8_mid 55 = .ok (.getfield 11, 3) := by decide +kernel
theorem dX8_mid_58 : decode cX8_mid 58 = .ok (.iload_n 1, 1) := by decide +kernel
theorem dX8_mid_59 : decode cX8_mid 59 = .ok (.aaload, 1) := by decide +kernel
theorem dX8_mid_60 : decode cX8_mid 60 = .ok (.iconst 0, 1) := by decide +kernel
theorem dX8_mid_61 : decode cX8_mid 61 = .ok (.iload_n 2, 1) := by decide +kernel
theorem dX8_mid_62 : decode cX8_mid 62 = .ok (.invokevirtual 299, 3) := by decide +kernel
theorem dX8_mid_65 : decode cX8_mid 65 = .ok (.aload_n 0, 1) := by decide +kernel
theorem dX8_mid_66 : decode cX8_mid 66 = .ok (.aload_n 0, 1) := by decide +kernel
theorem dX8_mid_67 : decode cX8_mid 67 = .ok (.getfield 58, 3) := by decide +kernel
theorem dX8_mid_70 : decode cX8_mid 70 = .ok (.getfield 309, 3) := by decide +kernel
theorem dX8_mid_73 : decode cX8_mid 73 = .ok (.aload_n 0, 1) := by decide +kernel
theorem dX8_mid_74 : decode cX8_mid 74 = .ok (.getfield 58, 3) := by decide +kernel
theorem dX8_mid_77 : decode cX8_mid 77 = .ok (.getfield 306, 3) := by decide +kernel
theorem dX8_mid_80 : decode cX8_mid 80 = .ok (.invokevirtual 292, 3) := by decide +kernel
theorem dX8_mid_83 : decode cX8_mid 83 = .ok (.ireturn, 1) := by decide +kernel
set_option maxRecDepth 20000 in
theorem w_X8_mid_b16 {w : zWd} {X : zX} {l0 : Launch} {r : Int32} {S1 : zMem} (C : zC LC w X l0 cX8_mid RX8 4 13 (some .int)) {S : zMem} {ls : Array Slot} (hl : lv_has ls 4 []) (h : X8_mid_b16  S = some (r, S1)) : zV LC w X (some (.int r)) S1 S 16 ls [] := by
  unfold X8_mid_b16 at h
  refine v_iconst 16 C (v := (-1 : Int32)) dX8_mid_16 (by decide) ?_
  exact v_ireturn 17 C dX8_mid_17 h
set_option maxRecDepth 20000 in
theorem w_X8_mid_b0 {w : zWd} {X : zX} {l0 : Launch} {r : Int32} {S1 : zMem} (C : zC LC w X l0 cX8_mid RX8 4 13 (some .int)) {x1 : Int32} {x2 : Int32} {S : zMem} {ls : Array Slot} (hl : lv_has ls 4 [(0, .ref (w.2.2.1 0)), (1, .int x1), (2, .int x2)]) (h : X8_mid_b0 x1 x2 S = some (r, S1)) : zV LC w X (some (.int r)) S1 S 0 ls [] := by
  unfold X8_mid_b0 at h
  refine v_iload_n 0 C dX8_mid_0 rfl (lv_at hl 1 rfl) ?_
  obtain ⟨v1, S, hc, h⟩ := zb_e h
  refine v_callSi 1 C [] dX8_mid_1 ml_X8_80 hy_X8_isRow (c_X8_isRow  hc) (by decide) rfl hl.1 (Nat.le_of_ble_eq_true rfl) rfl ?_
  refine v_if_eq 4 16 C dX8_mid_4 (by decide) h (fun h => ?_) (fun h => ?_)
  · exact w_X8_mid_b16 C (lv_sub hl [] rfl) h
  · refine v_iload_n 7 C dX8_mid_7 rfl (lv_at hl 2 rfl) ?_
    refine v_bipush 8 C (v := (12 : Int32)) dX8_mid_8 (by decide) ?_
    obtain ⟨v2, S, hc, h⟩ := zb_e h
    refine v_callSi 10 C [] dX8_mid_10 ml_X8_152 hy_X8_within (c_X8_within  hc) (by decide) rfl hl.1 (Nat.le_of_ble_eq_true rfl) rfl ?_
    refine v_if_ne 13 18 C dX8_mid_13 (by decide) h (fun h => ?_) (fun h => ?_)
    · refine v_aload_n 18 C dX8_mid_18 rfl (lv_at hl 0 rfl) ?_
      refine v_aload_n 19 C dX8_mid_19 rfl (lv_at hl 0 rfl) ?_
      refine v_getr 20 (1) C dX8_mid_20 fl_X8_11 rfl kC_0 rfl ?_
      refine v_iload_n 23 C dX8_mid_23 rfl (lv_at hl 1 rfl) ?_
      refine v_aald 24 (4 + 2 * Int32.toNatClampNeg x1) C dX8_mid_24 kC_1 (Or.inl rfl) rfl rfl h (fun hz3 h => ?_)
      refine v_aload_n 25 C dX8_mid_25 rfl (lv_at hl 0 rfl) ?_
      refine v_getr 26 (35) C dX8_mid_26 fl_X8_37 rfl kC_0 rfl ?_
      refine v_geti 29 C dX8_mid_29 fl_X8_202 rfl kC_35 h (fun v4 h => ?_)
      obtain ⟨v5, S, hc, h⟩ := zb_e h
      refine v_callVi 32 C (ci := 7) [] dX8_mid_32 ml_X8_263 hy_X8_wrongLetters (c_X8_wrongLetters (kRow hz3) hc) (by decide) rfl hl.1 kC_0 rfl (Nat.le_of_ble_eq_true rfl) rfl ?_
      refine v_istore_n 35 C [(3, .int v5), (0, .ref (w.2.2.1 0)), (1, .int x1), (2, .int x2)] dX8_mid_35 rfl hl (by decide) rfl (fun ls hl => ?_)
      refine v_iload_n 36 C dX8_mid_36 rfl (lv_at hl 0 rfl) ?_
      refine v_if_eq 37 46 C dX8_mid_37 (by decide) h (fun h => ?_) (fun h => ?_)
      · refine v_aload_n 46 C dX8_mid_46 rfl (lv_at hl 1 rfl) ?_
        refine v_getr 47 (63) C dX8_mid_47 fl_X8_58 rfl kC_0 rfl ?_
        refine v_aload_n 50 C dX8_mid_50 rfl (lv_at hl 1 rfl) ?_
        refine v_getr 51 (35) C dX8_mid_51 fl_X8_37 rfl kC_0 rfl ?_
        refine v_aload_n 54 C dX8_mid_54 rfl (lv_at hl 1 rfl) ?_
        refine v_getr 55 (1) C dX8_mid_55 fl_X8_11 rfl kC_0 rfl ?_
        refine v_iload_n 58 C dX8_mid_58 rfl (lv_at hl 2 rfl) ?_
        refine v_aald 59 (4 + 2 * Int32.toNatClampNeg x1) C dX8_mid_59 kC_1 (Or.inl rfl) rfl rfl h (fun hz6 h => ?_)
        refine v_iconst 60 C (v := (0 : Int32)) dX8_mid_60 (by decide) ?_
        refine v_iload_n 61 C dX8_mid_61 rfl (lv_at hl 3 rfl) ?_
        obtain ⟨v7, S, hc, h⟩ := zb_e h
        refine v_callVv 62 C (ci := 1) [] dX8_mid_62 ml_X8_299 hy_X2_follow (c_X2_follow (kRow hz6) hc) (by decide) rfl hl.1 kC_63 rfl (Nat.le_of_ble_eq_true rfl) rfl ?_
        refine v_aload_n 65 C dX8_mid_65 rfl (lv_at hl 1 rfl) ?_
        refine v_aload_n 66 C dX8_mid_66 rfl (lv_at hl 1 rfl) ?_
        refine v_getr 67 (63) C dX8_mid_67 fl_X8_58 rfl kC_0 rfl ?_
        refine v_getl 70 C dX8_mid_70 fl_X8_309 rfl kC_63 h (fun v8 h => ?_)
        refine v_aload_n 73 C dX8_mid_73 rfl (lv_at hl 1 rfl) ?_
        refine v_getr 74 (63) C dX8_mid_74 fl_X8_58 rfl kC_0 rfl ?_
        refine v_getl 77 C dX8_mid_77 fl_X8_306 rfl kC_63 h (fun v9 h => ?_)
        obtain ⟨v10, S, hc, h⟩ := zb_e h
        refine v_callVi 80 C (ci := 7) [] dX8_mid_80 ml_X8_292 hy_X8_tellPart (c_X8_tellPart  hc) (by decide) rfl hl.1 kC_0 rfl (Nat.le_of_ble_eq_true rfl) rfl ?_
        exact v_ireturn 83 C dX8_mid_83 h
      · refine v_aload_n 40 C dX8_mid_40 rfl (lv_at hl 1 rfl) ?_
        refine v_iload_n 41 C dX8_mid_41 rfl (lv_at hl 0 rfl) ?_
        obtain ⟨v11, S, hc, h⟩ := zb_e h
        refine v_callVi 42 C (ci := 7) [] dX8_mid_42 ml_X8_84 hy_X8_refuse (c_X8_refuse  hc) (by decide) rfl hl.1 kC_0 rfl (Nat.le_of_ble_eq_true rfl) rfl ?_
        exact v_ireturn 45 C dX8_mid_45 h
    · exact w_X8_mid_b16 C (lv_sub hl [] rfl) h
theorem c_X8_mid {w : zWd} {l0 : Launch} {x1 : Int32} {x2 : Int32} {S S1 : zMem} {r : Int32} (h : f_X8_mid x1 x2 S = some (r, S1)) : zMet LC w l0 yX8_mid cX8_mid 4 (some .int) 13 [.ref (w.2.2.1 0), .int x1, .int x2] S (some (.int r)) S1 :=
  zMet_of (by decide +kernel) (Nat.le_of_ble_eq_true rfl) (fun X ls C hl => w_X8_mid_b0 C hl h)
theorem dX8_performLot_0 : decode cX8_performLot 0 = .ok (.iload_n 1, 1) := by decide +kernel
theorem dX8_performLot_1 : decode cX8_performLot 1 = .ok (.bipush 8, 2) := by decide +kernel
theorem dX8_performLot_3 : decode cX8_performLot 3 = .ok (.idiv, 1) := by decide +kernel
theorem dX8_performLot_4 : decode cX8_performLot 4 = .ok (.bipush 8, 2) := by decide +kernel
theorem dX8_performLot_6 : decode cX8_performLot 6 = .ok (.irem, 1) := by decide +kernel
theorem dX8_performLot_7 : decode cX8_performLot 7 = .ok (.istore_n 2, 1) := by decide +kernel
theorem dX8_performLot_8 : decode cX8_performLot 8 = .ok (.iload_n 1, 1) := by decide +kernel
theorem dX8_performLot_9 : decode cX8_performLot 9 = .ok (.bipush 64, 2) := by decide +kernel
theorem dX8_performLot_11 : decode cX8_performLot 11 = .ok (.idiv, 1) := by decide +kernel
theorem dX8_performLot_12 : decode cX8_performLot 12 = .ok (.istore_n 3, 1) := by decide +kernel
theorem dX8_performLot_13 : decode cX8_performLot 13 = .ok (.iload_n 2, 1) := by decide +kernel
theorem dX8_performLot_14 : decode cX8_performLot 14 = .ok (.bipush 7, 2) := by decide +kernel
theorem dX8_performLot_16 : decode cX8_performLot 16 = .ok (.if_icmp .ne 15, 3) := by decide +kernel
theorem dX8_performLot_19 : decode cX8_performLot 19 = .ok (.aload_n 0, 1) := by decide +kernel
theorem dX8_performLot_20 : decode cX8_performLot 20 = .ok (.getfield 37, 3) := by decide +kernel
theorem dX8_performLot_23 : decode cX8_performLot 23 = .ok (.iconst 3, 1) := by decide +kernel
theorem dX8_performLot_24 : decode cX8_performLot 24 = .ok (.iconst 0, 1) := by decide +kernel
theorem dX8_performLot_25 : decode cX8_performLot 25 = .ok (.invokevirtual 190, 3) := by decide +kernel
theorem dX8_performLot_28 : decode cX8_performLot 28 = .ok (.goto 72, 3) := by decide +kernel
theorem dX8_performLot_31 : decode cX8_performLot 31 = .ok (.iload_n 2, 1) := by decide +kernel
theorem dX8_performLot_32 : decode cX8_performLot 32 = .ok (.bipush 6, 2) := by decide +kernel
theorem dX8_performLot_34 : decode cX8_performLot 34 = .ok (.if_icmp .ne 17, 3) := by decide +kernel
theorem dX8_performLot_37 : decode cX8_performLot 37 = .ok (.aload_n 0, 1) := by decide +kernel
theorem dX8_performLot_38 : decode cX8_performLot 38 = .ok (.getfield 37, 3) := by decide +kernel
theorem dX8_performLot_41 : decode cX8_performLot 41 = .ok (.iconst 2, 1) := by decide +kernel
theorem dX8_performLot_42 : decode cX8_performLot 42 = .ok (.iload_n 3, 1) := by decide +kernel
theorem dX8_performLot_43 : decode cX8_performLot 43 = .ok (.iconst 3, 1) := by decide +kernel
theorem dX8_performLot_44 : decode cX8_performLot 44 = .ok (.irem, 1) := by decide +kernel
theorem dX8_performLot_45 : decode cX8_performLot 45 = .ok (.invokevirtual 190, 3) := by decide +kernel
theorem dX8_performLot_48 : decode cX8_performLot 48 = .ok (.goto 52, 3) := by decide +kernel
theorem dX8_performLot_51 : decode cX8_performLot 51 = .ok (.iload_n 2, 1) := by decide +kernel
theorem dX8_performLot_52 : decode cX8_performLot 52 = .ok (.iconst 5, 1) := by decide +kernel
theorem dX8_performLot_53 : decode cX8_performLot 53 = .ok (.if_icmp .ne 20, 3) := by decide +kernel
theorem dX8_performLot_56 : decode cX8_performLot 56 = .ok (.aload_n 0, 1) := by decide +kernel
theorem dX8_performLot_57 : decode cX8_performLot 57 = .ok (.getfield 37, 3) := by decide +kernel
theorem dX8_performLot_60 : decode cX8_performLot 60 = .ok (.iconst 1, 1) := by decide +kernel
theorem dX8_performLot_61 : decode cX8_performLot 61 = .ok (.iconst 1, 1) := by decide +kernel
theorem dX8_performLot_62 : decode cX8_performLot 62 = .ok (.iload_n 3, 1) := by decide +kernel
theorem dX8_performLot_63 : decode cX8_performLot 63 = .ok (.bipush 9, 2) := by decide +kernel
theorem dX8_performLot_65 : decode cX8_performLot 65 = .ok (.irem, 1) := by decide +kernel
theorem dX8_performLot_66 : decode cX8_performLot 66 = .ok (.iadd, 1) := by decide +kernel
theorem dX8_performLot_67 : decode cX8_performLot 67 = .ok (.invokevirtual 190, 3) := by decide +kernel
theorem dX8_performLot_70 : decode cX8_performLot 70 = .ok (.goto 30, 3) := by decide +kernel
theorem dX8_performLot_73 : decode cX8_performLot 73 = .ok (.aload_n 0, 1) := by decide +kernel
theorem dX8_performLot_74 : decode cX8_performLot 74 = .ok (.getfield 21, 3) := by decide +kernel
theorem dX8_performLot_77 : decode cX8_performLot 77 = .ok (.getfield 146, 3) := by decide +kernel
theorem dX8_performLot_80 : decode cX8_performLot 80 = .ok (.ifCond .le 20, 3) := by decide +kernel
theorem dX8_performLot_83 : decode cX8_performLot 83 = .ok (.aload_n 0, 1) := by decide +kernel
theorem dX8_performLot_84 : decode cX8_performLot 84 = .ok (.getfield 37, 3) := by decide +kernel
theorem dX8_performLot_87 : decode cX8_performLot 87 = .ok (.iconst 0, 1) := by decide +kernel
theorem dX8_performLot_88 : decode cX8_performLot 88 = .ok (.iload_n 1, 1) := by decide +kernel
theorem dX8_performLot_89 : decode cX8_performLot 89 = .ok (.aload_n 0, 1) := by decide +kernel
theorem dX8_performLot_90 : decode cX8_performLot 90 = .ok (.getfield 21, 3) := by decide +kernel
theorem dX8_performLot_93 : decode cX8_performLot 93 = .ok (.getfield 146, 3) := by decide +kernel
theorem dX8_performLot_96 : decode cX8_performLot 96 = .ok (.irem, 1) := by decide +kernel
theorem dX8_performLot_97 : decode cX8_performLot 97 = .ok (.invokevirtual 190, 3) := by decide +kernel
theorem dX8_performLot_100 : decode cX8_performLot 100 = .ok (.return_, 1) := by decide +kernel
set_option maxRecDepth 20000 in
theorem w_X8_performLot_b100 {w : zWd} {X : zX} {l0 : Launch} {r : Unit} {S1 : zMem} (C : zC LC w X l0 cX8_performLot RX8 4 5 none) {S : zMem} {ls : Array Slot} (hl : lv_has ls 4 []) (h : X8_performLot_b100  S = some (r, S1)) : zV LC w X none S1 S 100 ls [] := by
  unfold X8_performLot_b100 at h
  exact v_return 100 C dX8_performLot_100 h
set_option maxRecDepth 20000 in
theorem w_X8_performLot_b0 {w : zWd} {X : zX} {l0 : Launch} {r : Unit} {S1 : zMem} (C : zC LC w X l0 cX8_performLot RX8 4 5 none) {x1 : Int32} {S : zMem} {ls : Array Slot} (hl : lv_has ls 4 [(0, .ref (w.2.2.1 0)), (1, .int x1)]) (h : X8_performLot_b0 x1 S = some (r, S1)) : zV LC w X none S1 S 0 ls [] := by
  unfold X8_performLot_b0 at h
  refine v_iload_n 0 C dX8_performLot_0 rfl (lv_at hl 1 rfl) ?_
  refine v_bipush 1 C (v := (8 : Int32)) dX8_performLot_1 (by decide) ?_
  refine v_idiv 3 C dX8_performLot_3 (by decide) h (fun v1 h => ?_)
  refine v_bipush 4 C (v := (8 : Int32)) dX8_performLot_4 (by decide) ?_
  refine v_irem 6 C dX8_performLot_6 (by decide) h (fun v2 h => ?_)
  refine v_istore_n 7 C [(2, .int v2), (0, .ref (w.2.2.1 0)), (1, .int x1)] dX8_performLot_7 rfl hl (by decide) rfl (fun ls hl => ?_)
  refine v_iload_n 8 C dX8_performLot_8 rfl (lv_at hl 2 rfl) ?_
  refine v_bipush 9 C (v := (64 : Int32)) dX8_performLot_9 (by decide) ?_
  refine v_idiv 11 C dX8_performLot_11 (by decide) h (fun v3 h => ?_)
  refine v_istore_n 12 C [(3, .int v3), (2, .int v2), (0, .ref (w.2.2.1 0)), (1, .int x1)] dX8_performLot_12 rfl hl (by decide) rfl (fun ls hl => ?_)
  refine v_iload_n 13 C dX8_performLot_13 rfl (lv_at hl 1 rfl) ?_
  refine v_bipush 14 C (v := (7 : Int32)) dX8_performLot_14 (by decide) ?_
  refine v_icmp_ne 16 31 C dX8_performLot_16 (by decide) h (fun h => ?_) (fun h => ?_)
  · refine v_iload_n 31 C dX8_performLot_31 rfl (lv_at hl 1 rfl) ?_
    refine v_bipush 32 C (v := (6 : Int32)) dX8_performLot_32 (by decide) ?_
    refine v_icmp_ne 34 51 C dX8_performLot_34 (by decide) h (fun h => ?_) (fun h => ?_)
    · refine v_iload_n 51 C dX8_performLot_51 rfl (lv_at hl 1 rfl) ?_
      refine v_iconst 52 C (v := (5 : Int32)) dX8_performLot_52 (by decide) ?_
      refine v_icmp_ne 53 73 C dX8_performLot_53 (by decide) h (fun h => ?_) (fun h => ?_)
      · refine v_aload_n 73 C dX8_performLot_73 rfl (lv_at hl 2 rfl) ?_
        refine v_getr 74 (24) C dX8_performLot_74 fl_X8_21 rfl kC_0 rfl ?_
        refine v_geti 77 C dX8_performLot_77 fl_X8_146 rfl kC_24 h (fun v4 h => ?_)
        refine v_if_le 80 100 C dX8_performLot_80 (by decide) h (fun h => ?_) (fun h => ?_)
        · exact w_X8_performLot_b100 C (lv_sub hl [] rfl) h
        · refine v_aload_n 83 C dX8_performLot_83 rfl (lv_at hl 2 rfl) ?_
          refine v_getr 84 (35) C dX8_performLot_84 fl_X8_37 rfl kC_0 rfl ?_
          refine v_iconst 87 C (v := (0 : Int32)) dX8_performLot_87 (by decide) ?_
          refine v_iload_n 88 C dX8_performLot_88 rfl (lv_at hl 3 rfl) ?_
          refine v_aload_n 89 C dX8_performLot_89 rfl (lv_at hl 2 rfl) ?_
          refine v_getr 90 (24) C dX8_performLot_90 fl_X8_21 rfl kC_0 rfl ?_
          refine v_geti 93 C dX8_performLot_93 fl_X8_146 rfl kC_24 h (fun v5 h => ?_)
          refine v_iremc 96 C dX8_performLot_96 h (fun v6 h => ?_)
          obtain ⟨v7, S, hc, h⟩ := zb_e h
          refine v_callVv 97 C (ci := 3) [] dX8_performLot_97 ml_X8_190 hy_X4_perform (c_X4_perform kC_35 hc) (by decide) rfl hl.1 kC_35 rfl (Nat.le_of_ble_eq_true rfl) rfl ?_
          exact w_X8_performLot_b100 C (lv_sub hl [] rfl) h
      · refine v_aload_n 56 C dX8_performLot_56 rfl (lv_at hl 2 rfl) ?_
        refine v_getr 57 (35) C dX8_performLot_57 fl_X8_37 rfl kC_0 rfl ?_
        refine v_iconst 60 C (v := (1 : Int32)) dX8_performLot_60 (by decide) ?_
        refine v_iconst 61 C (v := (1 : Int32)) dX8_performLot_61 (by decide) ?_
        refine v_iload_n 62 C dX8_performLot_62 rfl (lv_at hl 0 rfl) ?_
        refine v_bipush 63 C (v := (9 : Int32)) dX8_performLot_63 (by decide) ?_
        refine v_irem 65 C dX8_performLot_65 (by decide) h (fun v8 h => ?_)
        refine v_iadd 66 C dX8_performLot_66 h (fun v9 h => ?_)
        obtain ⟨v10, S, hc, h⟩ := zb_e h
        refine v_callVv 67 C (ci := 3) [] dX8_performLot_67 ml_X8_190 hy_X4_perform (c_X4_perform kC_35 hc) (by decide) rfl hl.1 kC_35 rfl (Nat.le_of_ble_eq_true rfl) rfl ?_
        refine v_goto 70 100 C dX8_performLot_70 (by decide) ?_
        exact w_X8_performLot_b100 C (lv_sub hl [] rfl) h
    · refine v_aload_n 37 C dX8_performLot_37 rfl (lv_at hl 2 rfl) ?_
      refine v_getr 38 (35) C dX8_performLot_38 fl_X8_37 rfl kC_0 rfl ?_
      refine v_iconst 41 C (v := (2 : Int32)) dX8_performLot_41 (by decide) ?_
      refine v_iload_n 42 C dX8_performLot_42 rfl (lv_at hl 0 rfl) ?_
      refine v_iconst 43 C (v := (3 : Int32)) dX8_performLot_43 (by decide) ?_
      refine v_irem 44 C dX8_performLot_44 (by decide) h (fun v11 h => ?_)
      obtain ⟨v12, S, hc, h⟩ := zb_e h
      refine v_callVv 45 C (ci := 3) [] dX8_performLot_45 ml_X8_190 hy_X4_perform (c_X4_perform kC_35 hc) (by decide) rfl hl.1 kC_35 rfl (Nat.le_of_ble_eq_true rfl) rfl ?_
      refine v_goto 48 100 C dX8_performLot_48 (by decide) ?_
      exact w_X8_performLot_b100 C (lv_sub hl [] rfl) h
  · refine v_aload_n 19 C dX8_performLot_19 rfl (lv_at hl 2 rfl) ?_
    refine v_getr 20 (35) C dX8_performLot_20 fl_X8_37 rfl kC_0 rfl ?_
    refine v_iconst 23 C (v := (3 : Int32)) dX8_performLot_23 (by decide) ?_
    refine v_iconst 24 C (v := (0 : Int32)) dX8_performLot_24 (by decide) ?_
    obtain ⟨v13, S, hc, h⟩ := zb_e h
    refine v_callVv 25 C (ci := 3) [] dX8_performLot_25 ml_X8_190 hy_X4_perform (c_X4_perform kC_35 hc) (by decide) rfl hl.1 kC_35 rfl (Nat.le_of_ble_eq_true rfl) rfl ?_
    refine v_goto 28 100 C dX8_performLot_28 (by decide) ?_
    exact w_X8_performLot_b100 C (lv_sub hl [] rfl) h
theorem c_X8_performLot {w : zWd} {l0 : Launch} {x1 : Int32} {S S1 : zMem} {r : Unit} (h : f_X8_performLot x1 S = some (r, S1)) : zMet LC w l0 yX8_performLot cX8_performLot 4 none 5 [.ref (w.2.2.1 0), .int x1] S none S1 :=
  zMet_of (by decide +kernel) (Nat.le_of_ble_eq_true rfl) (fun X ls C hl => w_X8_performLot_b0 C hl h)
theorem fl_X4_68 : zFL RX4 68 5 4 := ⟨_, rfl, by decide, zT_of (List.mem_of_getElem? (i := 116) (by decide +kernel)) rfl⟩
theorem dX4_allBonds_0 : decode cX4_allBonds 0 = .ok (.iconst 0, 1) := by decide +kernel
theorem dX4_allBonds_1 : decode cX4_allBonds 1 = .ok (.istore_n 1, 1) := by decide +kernel
theorem dX4_allBonds_2 : decode cX4_allBonds 2 = .ok (.iconst 0, 1) := by decide +kernel
theorem dX4_allBonds_3 : decode cX4_allBonds 3 = .ok (.istore_n 2, 1) := by decide +kernel
theorem dX4_allBonds_4 : decode cX4_allBonds 4 = .ok (.iload_n 2, 1) := by decide +kernel
theorem dX4_allBonds_5 : decode cX4_allBonds 5 = .ok (.aload_n 0, 1) := by decide +kernel
theorem dX4_allBonds_6 : decode cX4_allBonds 6 = .ok (.getfield 24, 3) := by decide +kernel
theorem dX4_allBonds_9 : decode cX4_allBonds 9 = .ok (.getfield 68, 3) := by decide +kernel
theorem dX4_allBonds_12 : decode cX4_allBonds 12 = .ok (.if_icmp .ge 18, 3) := by decide +kernel
theorem dX4_allBonds_15 : decode cX4_allBonds 15 = .ok (.iload_n 1, 1) := by decide +kernel
theorem dX4_allBonds_16 : decode cX4_allBonds 16 = .ok (.aload_n 0, 1) := by decide +kernel
theorem dX4_allBonds_17 : decode cX4_allBonds 17 = .ok (.getfield 9, 3) := by decide +kernel
theorem dX4_allBonds_20 : decode cX4_allBonds 20 = .ok (.iload_n 2, 1) := by decide +kernel
theorem dX4_allBonds_21 : decode cX4_allBonds 21 = .ok (.iaload, 1) := by decide +kernel
theorem dX4_allBonds_22 : decode cX4_allBonds 22 = .ok (.iadd, 1) := by decide +kernel
theorem dX4_allBonds_23 : decode cX4_allBonds 23 = .ok (.istore_n 1, 1) := by decide +kernel
theorem dX4_allBonds_24 : decode cX4_allBonds 24 = .ok (.iinc 2 1, 3) := by decide +kernel
theorem dX4_allBonds_27 : decode cX4_allBonds 27 = .ok (.goto (-23), 3) := by decide +kernel
theorem dX4_allBonds_30 : decode cX4_allBonds 30 = .ok (.iload_n 1, 1) := by decide +kernel
theorem dX4_allBonds_31 : decode cX4_allBonds 31 = .ok (.ireturn, 1) := by decide +kernel
set_option maxRecDepth 20000 in
theorem w_X4_allBonds_b4 {w : zWd} {X : zX} {l0 : Launch} {r : Int32} {S1 : zMem} (C : zC LC w X l0 cX4_allBonds RX4 3 1 (some .int)) {k4 : Nat → Int32 → Int32 → zMem → Option (Int32 × zMem)} (hc4 : ∀ (c0 : Nat) (x1 : Int32) (x2 : Int32) (S : zMem) (ls : Array Slot), lv_has ls 3 [(0, .ref (w.2.2.1 c0)), (1, .int x1), (2, .int x2)] → (c0 < LC.1 ∧ LC.2.1 c0 = 6) → k4 c0 x1 x2 S = some (r, S1) → zV LC w X (some (.int r)) S1 S 4 ls []) {c0 : Nat} {x1 : Int32} {x2 : Int32} {S : zMem} {ls : Array Slot} (hl : lv_has ls 3 [(0, .ref (w.2.2.1 c0)), (1, .int x1), (2, .int x2)]) (hk_c0 : c0 < LC.1 ∧ LC.2.1 c0 = 6) (h : X4_allBonds_b4 k4 c0 x1 x2 S = some (r, S1)) : zV LC w X (some (.int r)) S1 S 4 ls [] := by
  unfold X4_allBonds_b4 at h
  refine v_iload_n 4 C dX4_allBonds_4 rfl (lv_at hl 2 rfl) ?_
  refine v_aload_n 5 C dX4_allBonds_5 rfl (lv_at hl 0 rfl) ?_
  refine v_getr 6 (24) C dX4_allBonds_6 fl_X4_24 rfl hk_c0 (rP0 hk_c0) ?_
  refine v_geti 9 C dX4_allBonds_9 fl_X4_68 rfl kC_24 h (fun v1 h => ?_)
  refine v_icmp_ge 12 30 C dX4_allBonds_12 (by decide) h (fun h => ?_) (fun h => ?_)
  · refine v_iload_n 30 C dX4_allBonds_30 rfl (lv_at hl 1 rfl) ?_
    exact v_ireturn 31 C dX4_allBonds_31 h
  · refine v_iload_n 15 C dX4_allBonds_15 rfl (lv_at hl 1 rfl) ?_
    refine v_aload_n 16 C dX4_allBonds_16 rfl (lv_at hl 0 rfl) ?_
    refine v_getr 17 (c0 + 1) C dX4_allBonds_17 fl_X4_9 rfl hk_c0 (rP1 hk_c0) ?_
    refine v_iload_n 20 C dX4_allBonds_20 rfl (lv_at hl 2 rfl) ?_
    refine v_iald 21 C dX4_allBonds_21 (kP1 hk_c0) (nP1 hk_c0) h (fun v2 h => ?_)
    refine v_iadd 22 C dX4_allBonds_22 h (fun v3 h => ?_)
    refine v_istore_n 23 C [(1, .int v3), (0, .ref (w.2.2.1 c0)), (2, .int x2)] dX4_allBonds_23 rfl hl (by decide) rfl (fun ls hl => ?_)
    refine v_iinc 24 C (nn := (1 : Int32)) (fun v => [(2, .int v), (1, .int v3), (0, .ref (w.2.2.1 c0))]) dX4_allBonds_24 hl (k := 2) rfl (by decide) (by decide) (fun _ => rfl) h (fun v4 ls hl h => ?_)
    refine v_goto 27 4 C dX4_allBonds_27 (by decide) ?_
    exact hc4 _ _ _ _ _ (lv_sub hl [2, 1, 0] rfl) hk_c0 h
theorem w_X4_allBonds_l4 {w : zWd} {X : zX} {l0 : Launch} {r : Int32} {S1 : zMem} (C : zC LC w X l0 cX4_allBonds RX4 3 1 (some .int)) : ∀ (n : Nat) (c0 : Nat) (x1 : Int32) (x2 : Int32) (S : zMem) (ls : Array Slot), lv_has ls 3 [(0, .ref (w.2.2.1 c0)), (1, .int x1), (2, .int x2)] → (c0 < LC.1 ∧ LC.2.1 c0 = 6) → X4_allBonds_l4 n c0 x1 x2 S = some (r, S1) → zV LC w X (some (.int r)) S1 S 4 ls [] := by
  intro n
  induction n with
  | zero =>
    intro c0 x1 x2 S ls hl hk_c0 h
    cases (show (none : Option (Int32 × zMem)) = some _ from h)
  | succ n ih =>
    intro c0 x1 x2 S ls hl hk_c0 h
    exact w_X4_allBonds_b4 C ih hl hk_c0 h
set_option maxRecDepth 20000 in
theorem w_X4_allBonds_b0 {w : zWd} {X : zX} {l0 : Launch} {r : Int32} {S1 : zMem} (C : zC LC w X l0 cX4_allBonds RX4 3 1 (some .int)) {c0 : Nat} {S : zMem} {ls : Array Slot} (hl : lv_has ls 3 [(0, .ref (w.2.2.1 c0))]) (hk_c0 : c0 < LC.1 ∧ LC.2.1 c0 = 6) (h : X4_allBonds_b0 c0 S = some (r, S1)) : zV LC w X (some (.int r)) S1 S 0 ls [] := by
  unfold X4_allBonds_b0 at h
  refine v_iconst 0 C (v := (0 : Int32)) dX4_allBonds_0 (by decide) ?_
  refine v_istore_n 1 C [(1, .int (0 : Int32)), (0, .ref (w.2.2.1 c0))] dX4_allBonds_1 rfl hl (by decide) rfl (fun ls hl => ?_)
  refine v_iconst 2 C (v := (0 : Int32)) dX4_allBonds_2 (by decide) ?_
  refine v_istore_n 3 C [(2, .int (0 : Int32)), (1, .int (0 : Int32)), (0, .ref (w.2.2.1 c0))] dX4_allBonds_3 rfl hl (by decide) rfl (fun ls hl => ?_)
  exact w_X4_allBonds_l4 C zF _ _ _ _ _ (lv_sub hl [2, 1, 0] rfl) hk_c0 h
theorem c_X4_allBonds {w : zWd} {l0 : Launch} {c0 : Nat} {S S1 : zMem} {r : Int32} (hk_c0 : c0 < LC.1 ∧ LC.2.1 c0 = 6) (h : f_X4_allBonds c0 S = some (r, S1)) : zMet LC w l0 yX4_allBonds cX4_allBonds 3 (some .int) 1 [.ref (w.2.2.1 c0)] S (some (.int r)) S1 :=
  zMet_of (by decide +kernel) (Nat.le_of_ble_eq_true rfl) (fun X ls C hl => w_X4_allBonds_b0 C hl hk_c0 h)
theorem ml_X8_318 : Cond.methodLink RX8 318 yX4_allBonds ∈ zT := zT_of (List.mem_of_getElem? (i := 809) (by decide +kernel)) rfl
theorem hy_X4_allBonds : zYv yX4_allBonds cX4_allBonds 3 (some .int) 0 := ⟨⟨zT_of (List.mem_of_getElem? (i := 812) (by decide +kernel)) rfl, zT_of (List.mem_of_getElem? (i := 73) (by decide +kernel)) rfl, by decide, by decide +kernel, by decide +kernel, by decide +kernel⟩, zT_of (List.mem_of_getElem? (i := 810) (by decide +kernel)) rfl, zT_of (List.mem_of_getElem? (i := 811) (by decide +kernel)) rfl⟩
theorem co_X8_313 : Cond.constantLong RX8 313 48271 ∈ zT := zT_of (List.mem_of_getElem? (i := 804) (by decide +kernel)) rfl
theorem co_X8_311 : Cond.constantLong RX8 311 2147483647 ∈ zT := zT_of (List.mem_of_getElem? (i := 803) (by decide +kernel)) rfl
theorem ml_X8_315 : Cond.methodLink RX8 315 yX8_performLot ∈ zT := zT_of (List.mem_of_getElem? (i := 805) (by decide +kernel)) rfl
theorem hy_X8_performLot : zYv yX8_performLot cX8_performLot 4 none 1 := ⟨⟨zT_of (List.mem_of_getElem? (i := 808) (by decide +kernel)) rfl, zT_of (List.mem_of_getElem? (i := 70) (by decide +kernel)) rfl, by decide, by decide +kernel, by decide +kernel, by decide +kernel⟩, zT_of (List.mem_of_getElem? (i := 807) (by decide +kernel)) rfl, zT_of (List.mem_of_getElem? (i := 18) (by decide +kernel)) rfl⟩
theorem dX8_lots_0 : decode cX8_lots 0 = .ok (.iload_n 1, 1) := by decide +kernel
theorem dX8_lots_1 : decode cX8_lots 1 = .ok (.iconst 1, 1) := by decide +kernel
theorem dX8_lots_2 : decode cX8_lots 2 = .ok (.if_icmp .lt 23, 3) := by decide +kernel
theorem dX8_lots_5 : decode cX8_lots 5 = .ok (.iload_n 1, 1) := by decide +kernel
theorem dX8_lots_6 : decode cX8_lots 6 = .ok (.bipush 20, 2) := by decide +kernel
theorem dX8_lots_8 : decode cX8_lots 8 = .ok (.if_icmp .gt 17, 3) := by decide +kernel
theorem dX8_lots_11 : decode cX8_lots 11 = .ok (.iload_n 2, 1) := by decide +kernel
theorem dX8_lots_12 : decode cX8_lots 12 = .ok (.iconst 1, 1) := by decide +kernel
theorem dX8_lots_13 : decode cX8_lots 13 = .ok (.if_icmp .lt 12, 3) := by decide +kernel
theorem dX8_lots_16 : decode cX8_lots 16 = .ok (.iload_n 2, 1) := by decide +kernel
theorem dX8_lots_17 : decode cX8_lots 17 = .ok (.i2l, 1) := by decide +kernel
theorem dX8_lots_18 : decode cX8_lots 18 = .ok (.ldc2_w 311, 3) := by decide +kernel
theorem dX8_lots_21 : decode cX8_lots 21 = .ok (.lcmp, 1) := by decide +kernel
theorem dX8_lots_22 : decode cX8_lots 22 = .ok (.ifCond .lt 5, 3) := by decide +kernel
theorem dX8_lots_25 : decode cX8_lots 25 = .ok (.iconst (-1), 1) := by decide +kernel
theorem dX8_lots_26 : decode cX8_lots 26 = .ok (.ireturn, 1) := by decide +kernel
theorem dX8_lots_27 : decode cX8_lots 27 = .ok (.aload_n 0, 1) := by decide +kernel
theorem dX8_lots_28 : decode cX8_lots 28 = .ok (.invokevirtual 196, 3) := by decide +kernel
theorem dX8_lots_31 : decode cX8_lots 31 = .ok (.ifCond .ne 6, 3) := by decide +kernel
theorem dX8_lots_34 : decode cX8_lots 34 = .ok (.bipush (-4), 2) := by decide +kernel
theorem dX8_lots_36 : decode cX8_lots 36 = .ok (.ireturn, 1) := by decide +kernel
theorem dX8_lots_37 : decode cX8_lots 37 = .ok (.aload_n 0, 1) := by decide +kernel
theorem dX8_lots_38 : decode cX8_lots 38 = .ok (.getfield 37, 3) := by decide +kernel
theorem dX8_lots_41 : decode cX8_lots 41 = .ok (.invokevirtual 186, 3) := by decide +kernel
theorem dX8_lots_44 : decode cX8_lots 44 = .ok (.iload_n 1, 1) := by decide +kernel
theorem dX8_lots_45 : decode cX8_lots 45 = .ok (.if_icmp .ge 6, 3) := by decide +kernel
theorem dX8_lots_48 : decode cX8_lots 48 = .ok (.bipush (-2), 2) := by decide +kernel
theorem dX8_lots_50 : decode cX8_lots 50 = .ok (.ireturn, 1) := by decide +kernel
theorem dX8_lots_51 : decode cX8_lots 51 = .ok (.iload_n 2, 1) := by decide +kernel
theorem dX8_lots_52 : decode cX8_lots 52 = .ok (.i2l, 1) := by decide +kernel
theorem dX8_lots_53 : decode cX8_lots 53 = .ok (.lstore_n 3, 1) := by decide +kernel
theorem dX8_lots_54 : decode cX8_lots 54 = .ok (.iconst 0, 1) := by decide +kernel
theorem dX8_lots_55 : decode cX8_lots 55 = .ok (.istore 5, 2) := by decide +kernel
theorem dX8_lots_57 : decode cX8_lots 57 = .ok (.iload 5, 2) := by decide +kernel
theorem dX8_lots_59 : decode cX8_lots 59 = .ok (.iload_n 1, 1) := by decide +kernel
theorem dX8_lots_60 : decode cX8_lots 60 = .ok (.if_icmp .ge 25, 3) := by decide +kernel
theorem dX8_lots_63 : decode cX8_lots 63 = .ok (.lload_n 3, 1) := by decide +kernel
theorem dX8_lots_64 : decode cX8_lots 64 = .ok (.ldc2_w 313, 3) := by decide +kernel
theorem dX8_lots_67 : decode cX8_lots 67 = .ok (.lmul, 1) := by decide +kernel
theorem dX8_lots_68 : decode cX8_lots 68 = .ok (.ldc2_w 311, 3) := by decide +kernel
theorem dX8_lots_71 : decode cX8_lots 71 = .ok (.lrem, 1) := by decide +kernel
theorem dX8_lots_72 : decode cX8_lots 72 = .ok (.lstore_n 3, 1) := by decide +kernel
theorem dX8_lots_73 : decode cX8_lots 73 = .ok (.aload_n 0, 1) := by decide +kernel
theorem dX8_lots_74 : decode cX8_lots 74 = .ok (.lload_n 3, 1) := by decide +kernel
theorem dX8_lots_75 : decode cX8_lots 75 = .ok (.l2i, 1) := by decide +kernel
theorem dX8_lots_76 : decode cX8_lots 76 = .ok (.invokevirtual 315, 3) := by decide +kernel
theorem dX8_lots_79 : decode cX8_lots 79 = .ok (.iinc 5 1, 3) := by decide +kernel
theorem dX8_lots_82 : decode cX8_lots 82 = .ok (.goto (-25), 3) := by decide +kernel
theorem dX8_lots_85 : decode cX8_lots 85 = .ok (.aload_n 0, 1) := by decide +kernel
theorem dX8_lots_86 : decode cX8_lots 86 = .ok (.getfield 37, 3) := by decide +kernel
theorem dX8_lots_89 : decode cX8_lots 89 = .ok (.invokevirtual 318, 3) := by decide +kernel
theorem dX8_lots_92 : decode cX8_lots 92 = .ok (.ireturn, 1) := by decide +kernel
set_option maxRecDepth 20000 in
theorem w_X8_lots_b25 {w : zWd} {X : zX} {l0 : Launch} {r : Int32} {S1 : zMem} (C : zC LC w X l0 cX8_lots RX8 6 6 (some .int)) {S : zMem} {ls : Array Slot} (hl : lv_has ls 6 []) (h : X8_lots_b25  S = some (r, S1)) : zV LC w X (some (.int r)) S1 S 25 ls [] := by
  unfold X8_lots_b25 at h
  refine v_iconst 25 C (v := (-1 : Int32)) dX8_lots_25 (by decide) ?_
  exact v_ireturn 26 C dX8_lots_26 h
set_option maxRecDepth 20000 in
theorem w_X8_lots_b57 {w : zWd} {X : zX} {l0 : Launch} {r : Int32} {S1 : zMem} (C : zC LC w X l0 cX8_lots RX8 6 6 (some .int)) {k57 : Int32 → Int64 → Int32 → zMem → Option (Int32 × zMem)} (hc57 : ∀ (x1 : Int32) (y3 : Int64) (x5 : Int32) (S : zMem) (ls : Array Slot), lv_has ls 6 [(0, .ref (w.2.2.1 0)), (1, .int x1), (3, .long y3), (5, .int x5)] → k57 x1 y3 x5 S = some (r, S1) → zV LC w X (some (.int r)) S1 S 57 ls []) {x1 : Int32} {y3 : Int64} {x5 : Int32} {S : zMem} {ls : Array Slot} (hl : lv_has ls 6 [(0, .ref (w.2.2.1 0)), (1, .int x1), (3, .long y3), (5, .int x5)]) (h : X8_lots_b57 k57 x1 y3 x5 S = some (r, S1)) : zV LC w X (some (.int r)) S1 S 57 ls [] := by
  unfold X8_lots_b57 at h
  refine v_iload 57 C dX8_lots_57 (lv_at hl 3 rfl) ?_
  refine v_iload_n 59 C dX8_lots_59 rfl (lv_at hl 1 rfl) ?_
  refine v_icmp_ge 60 85 C dX8_lots_60 (by decide) h (fun h => ?_) (fun h => ?_)
  · refine v_aload_n 85 C dX8_lots_85 rfl (lv_at hl 0 rfl) ?_
    refine v_getr 86 (35) C dX8_lots_86 fl_X8_37 rfl kC_0 rfl ?_
    obtain ⟨v1, S, hc, h⟩ := zb_e h
    refine v_callVi 89 C (ci := 3) [] dX8_lots_89 ml_X8_318 hy_X4_allBonds (c_X4_allBonds kC_35 hc) (by decide) rfl hl.1 kC_35 rfl (Nat.le_of_ble_eq_true rfl) rfl ?_
    exact v_ireturn 92 C dX8_lots_92 h
  · refine v_lload_n 63 C dX8_lots_63 rfl (lv_at hl 2 rfl) ?_
    refine v_ldc2 64 C (v := 48271) dX8_lots_64 co_X8_313 ?_
    refine v_lmul 67 C dX8_lots_67 h (fun v2 h => ?_)
    refine v_ldc2 68 C (v := 2147483647) dX8_lots_68 co_X8_311 ?_
    refine v_lrem 71 C dX8_lots_71 (by decide) h (fun v3 h => ?_)
    refine v_lstore_n 72 C [(3, .long v3), (0, .ref (w.2.2.1 0)), (1, .int x1), (5, .int x5)] dX8_lots_72 rfl hl (by decide) rfl (fun ls hl => ?_)
    refine v_aload_n 73 C dX8_lots_73 rfl (lv_at hl 1 rfl) ?_
    refine v_lload_n 74 C dX8_lots_74 rfl (lv_at hl 0 rfl) ?_
    refine v_l2i 75 C dX8_lots_75 h (fun v4 h => ?_)
    obtain ⟨v5, S, hc, h⟩ := zb_e h
    refine v_callVv 76 C (ci := 7) [] dX8_lots_76 ml_X8_315 hy_X8_performLot (c_X8_performLot  hc) (by decide) rfl hl.1 kC_0 rfl (Nat.le_of_ble_eq_true rfl) rfl ?_
    refine v_iinc 79 C (nn := (1 : Int32)) (fun v => [(5, .int v), (3, .long v3), (0, .ref (w.2.2.1 0)), (1, .int x1)]) dX8_lots_79 hl (k := 3) rfl (by decide) (by decide) (fun _ => rfl) h (fun v6 ls hl h => ?_)
    refine v_goto 82 57 C dX8_lots_82 (by decide) ?_
    exact hc57 _ _ _ _ _ (lv_sub hl [2, 3, 1, 0] rfl) h
theorem w_X8_lots_l57 {w : zWd} {X : zX} {l0 : Launch} {r : Int32} {S1 : zMem} (C : zC LC w X l0 cX8_lots RX8 6 6 (some .int)) : ∀ (n : Nat) (x1 : Int32) (y3 : Int64) (x5 : Int32) (S : zMem) (ls : Array Slot), lv_has ls 6 [(0, .ref (w.2.2.1 0)), (1, .int x1), (3, .long y3), (5, .int x5)] → X8_lots_l57 n x1 y3 x5 S = some (r, S1) → zV LC w X (some (.int r)) S1 S 57 ls [] := by
  intro n
  induction n with
  | zero =>
    intro x1 y3 x5 S ls hl h
    cases (show (none : Option (Int32 × zMem)) = some _ from h)
  | succ n ih =>
    intro x1 y3 x5 S ls hl h
    exact w_X8_lots_b57 C ih hl h
set_option maxRecDepth 20000 in
theorem w_X8_lots_b0 {w : zWd} {X : zX} {l0 : Launch} {r : Int32} {S1 : zMem} (C : zC LC w X l0 cX8_lots RX8 6 6 (some .int)) {x1 : Int32} {x2 : Int32} {S : zMem} {ls : Array Slot} (hl : lv_has ls 6 [(0, .ref (w.2.2.1 0)), (1, .int x1), (2, .int x2)]) (h : X8_lots_b0 x1 x2 S = some (r, S1)) : zV LC w X (some (.int r)) S1 S 0 ls [] := by
  unfold X8_lots_b0 at h
  refine v_iload_n 0 C dX8_lots_0 rfl (lv_at hl 1 rfl) ?_
  refine v_iconst 1 C (v := (1 : Int32)) dX8_lots_1 (by decide) ?_
  refine v_icmp_lt 2 25 C dX8_lots_2 (by decide) h (fun h => ?_) (fun h => ?_)
  · exact w_X8_lots_b25 C (lv_sub hl [] rfl) h
  · refine v_iload_n 5 C dX8_lots_5 rfl (lv_at hl 1 rfl) ?_
    refine v_bipush 6 C (v := (20 : Int32)) dX8_lots_6 (by decide) ?_
    refine v_icmp_gt 8 25 C dX8_lots_8 (by decide) h (fun h => ?_) (fun h => ?_)
    · exact w_X8_lots_b25 C (lv_sub hl [] rfl) h
    · refine v_iload_n 11 C dX8_lots_11 rfl (lv_at hl 2 rfl) ?_
      refine v_iconst 12 C (v := (1 : Int32)) dX8_lots_12 (by decide) ?_
      refine v_icmp_lt 13 25 C dX8_lots_13 (by decide) h (fun h => ?_) (fun h => ?_)
      · exact w_X8_lots_b25 C (lv_sub hl [] rfl) h
      · refine v_iload_n 16 C dX8_lots_16 rfl (lv_at hl 2 rfl) ?_
        refine v_i2l 17 C dX8_lots_17 h (fun v1 h => ?_)
        refine v_ldc2 18 C (v := 2147483647) dX8_lots_18 co_X8_311 ?_
        refine v_lcmp 21 C dX8_lots_21 h (fun v2 h => ?_)
        refine v_if_lt 22 27 C dX8_lots_22 (by decide) h (fun h => ?_) (fun h => ?_)
        · refine v_aload_n 27 C dX8_lots_27 rfl (lv_at hl 0 rfl) ?_
          obtain ⟨v3, S, hc, h⟩ := zb_e h
          refine v_callVi 28 C (ci := 7) [] dX8_lots_28 ml_X8_196 hy_X8_isPosted (c_X8_isPosted  hc) (by decide) rfl hl.1 kC_0 rfl (Nat.le_of_ble_eq_true rfl) rfl ?_
          refine v_if_ne 31 37 C dX8_lots_31 (by decide) h (fun h => ?_) (fun h => ?_)
          · refine v_aload_n 37 C dX8_lots_37 rfl (lv_at hl 0 rfl) ?_
            refine v_getr 38 (35) C dX8_lots_38 fl_X8_37 rfl kC_0 rfl ?_
            obtain ⟨v4, S, hc, h⟩ := zb_e h
            refine v_callVi 41 C (ci := 3) [] dX8_lots_41 ml_X8_186 hy_X4_spareDeeds (c_X4_spareDeeds kC_35 hc) (by decide) rfl hl.1 kC_35 rfl (Nat.le_of_ble_eq_true rfl) rfl ?_
            refine v_iload_n 44 C dX8_lots_44 rfl (lv_at hl 1 rfl) ?_
            refine v_icmp_ge 45 51 C dX8_lots_45 (by decide) h (fun h => ?_) (fun h => ?_)
            · refine v_iload_n 51 C dX8_lots_51 rfl (lv_at hl 2 rfl) ?_
              refine v_i2l 52 C dX8_lots_52 h (fun v5 h => ?_)
              refine v_lstore_n 53 C [(3, .long v5), (0, .ref (w.2.2.1 0)), (1, .int x1), (2, .int x2)] dX8_lots_53 rfl hl (by decide) rfl (fun ls hl => ?_)
              refine v_iconst 54 C (v := (0 : Int32)) dX8_lots_54 (by decide) ?_
              refine v_istore 55 C [(5, .int (0 : Int32)), (3, .long v5), (0, .ref (w.2.2.1 0)), (1, .int x1), (2, .int x2)] dX8_lots_55 hl (by decide) rfl (fun ls hl => ?_)
              exact w_X8_lots_l57 C zF _ _ _ _ _ (lv_sub hl [2, 3, 1, 0] rfl) h
            · refine v_bipush 48 C (v := (-2 : Int32)) dX8_lots_48 (by decide) ?_
              exact v_ireturn 50 C dX8_lots_50 h
          · refine v_bipush 34 C (v := (-4 : Int32)) dX8_lots_34 (by decide) ?_
            exact v_ireturn 36 C dX8_lots_36 h
        · exact w_X8_lots_b25 C (lv_sub hl [] rfl) h
theorem c_X8_lots {w : zWd} {l0 : Launch} {x1 : Int32} {x2 : Int32} {S S1 : zMem} {r : Int32} (h : f_X8_lots x1 x2 S = some (r, S1)) : zMet LC w l0 yX8_lots cX8_lots 6 (some .int) 6 [.ref (w.2.2.1 0), .int x1, .int x2] S (some (.int r)) S1 :=
  zMet_of (by decide +kernel) (Nat.le_of_ble_eq_true rfl) (fun X ls C hl => w_X8_lots_b0 C hl h)
theorem dX8_asked_0 : decode cX8_asked 0 = .ok (.aload_n 0, 1) := by decide +kernel
theorem dX8_asked_1 : decode cX8_asked 1 = .ok (.getfield 321, 3) := by decide +kernel
theorem dX8_asked_4 : decode cX8_asked 4 = .ok (.ireturn, 1) := by decide +kernel
set_option maxRecDepth 20000 in
theorem w_X8_asked_b0 {w : zWd} {X : zX} {l0 : Launch} {r : Int32} {S1 : zMem} (C : zC LC w X l0 cX8_asked RX8 1 1 (some .int)) {S : zMem} {ls : Array Slot} (hl : lv_has ls 1 [(0, .ref (w.2.2.1 0))]) (h : X8_asked_b0  S = some (r, S1)) : zV LC w X (some (.int r)) S1 S 0 ls [] := by
  unfold X8_asked_b0 at h
  refine v_aload_n 0 C dX8_asked_0 rfl (lv_at hl 0 rfl) ?_
  refine v_geti 1 C dX8_asked_1 fl_X8_321 rfl kC_0 h (fun v1 h => ?_)
  exact v_ireturn 4 C dX8_asked_4 h
theorem c_X8_asked {w : zWd} {l0 : Launch} {S S1 : zMem} {r : Int32} (h : f_X8_asked  S = some (r, S1)) : zMet LC w l0 yX8_asked cX8_asked 1 (some .int) 1 [.ref (w.2.2.1 0)] S (some (.int r)) S1 :=
  zMet_of (by decide +kernel) (Nat.le_of_ble_eq_true rfl) (fun X ls C hl => w_X8_asked_b0 C hl h)
theorem dX8_upper_0 : decode cX8_upper 0 = .ok (.aload_n 0, 1) := by decide +kernel
theorem dX8_upper_1 : decode cX8_upper 1 = .ok (.getfield 324, 3) := by decide +kernel
theorem dX8_upper_4 : decode cX8_upper 4 = .ok (.lreturn, 1) := by decide +kernel
set_option maxRecDepth 20000 in
theorem w_X8_upper_b0 {w : zWd} {X : zX} {l0 : Launch} {r : Int64} {S1 : zMem} (C : zC LC w X l0 cX8_upper RX8 1 1 (some .long)) {S : zMem} {ls : Array Slot} (hl : lv_has ls 1 [(0, .ref (w.2.2.1 0))]) (h : X8_upper_b0  S = some (r, S1)) : zV LC w X (some (.long r)) S1 S 0 ls [] := by
  unfold X8_upper_b0 at h
  refine v_aload_n 0 C dX8_upper_0 rfl (lv_at hl 0 rfl) ?_
  refine v_getl 1 C dX8_upper_1 fl_X8_324 rfl kC_0 h (fun v1 h => ?_)
  exact v_lreturn 4 C dX8_upper_4 h
theorem c_X8_upper {w : zWd} {l0 : Launch} {S S1 : zMem} {r : Int64} (h : f_X8_upper  S = some (r, S1)) : zMet LC w l0 yX8_upper cX8_upper 1 (some .long) 1 [.ref (w.2.2.1 0)] S (some (.long r)) S1 :=
  zMet_of (by decide +kernel) (Nat.le_of_ble_eq_true rfl) (fun X ls C hl => w_X8_upper_b0 C hl h)
theorem dX8_lower_0 : decode cX8_lower 0 = .ok (.aload_n 0, 1) := by decide +kernel
theorem dX8_lower_1 : decode cX8_lower 1 = .ok (.getfield 73, 3) := by decide +kernel
theorem dX8_lower_4 : decode cX8_lower 4 = .ok (.lreturn, 1) := by decide +kernel
set_option maxRecDepth 20000 in
theorem w_X8_lower_b0 {w : zWd} {X : zX} {l0 : Launch} {r : Int64} {S1 : zMem} (C : zC LC w X l0 cX8_lower RX8 1 1 (some .long)) {S : zMem} {ls : Array Slot} (hl : lv_has ls 1 [(0, .ref (w.2.2.1 0))]) (h : X8_lower_b0  S = some (r, S1)) : zV LC w X (some (.long r)) S1 S 0 ls [] := by
  unfold X8_lower_b0 at h
  refine v_aload_n 0 C dX8_lower_0 rfl (lv_at hl 0 rfl) ?_
  refine v_getl 1 C dX8_lower_1 fl_X8_73 rfl kC_0 h (fun v1 h => ?_)
  exact v_lreturn 4 C dX8_lower_4 h
theorem c_X8_lower {w : zWd} {l0 : Launch} {S S1 : zMem} {r : Int64} (h : f_X8_lower  S = some (r, S1)) : zMet LC w l0 yX8_lower cX8_lower 1 (some .long) 1 [.ref (w.2.2.1 0)] S (some (.long r)) S1 :=
  zMet_of (by decide +kernel) (Nat.le_of_ble_eq_true rfl) (fun X ls C hl => w_X8_lower_b0 C hl h)
theorem ml_X6_43 : Cond.methodLink RX6 43 yX1_isOf ∈ zT := zT_of (List.mem_of_getElem? (i := 837) (by decide +kernel)) rfl
theorem dX6_lettersOf_0 : decode cX6_lettersOf 0 = .ok (.iconst 0, 1) := by decide +kernel
theorem dX6_lettersOf_1 : decode cX6_lettersOf 1 = .ok (.istore_n 2, 1) := by decide +kernel
theorem dX6_lettersOf_2 : decode cX6_lettersOf 2 = .ok (.iconst 0, 1) := by decide +kernel
theorem dX6_lettersOf_3 : decode cX6_lettersOf 3 = .ok (.istore_n 3, 1) := by decide +kernel
theorem dX6_lettersOf_4 : decode cX6_lettersOf 4 = .ok (.iload_n 3, 1) := by decide +kernel
theorem dX6_lettersOf_5 : decode cX6_lettersOf 5 = .ok (.aload_n 0, 1) := by decide +kernel
theorem dX6_lettersOf_6 : decode cX6_lettersOf 6 = .ok (.getfield 28, 3) := by decide +kernel
theorem dX6_lettersOf_9 : decode cX6_lettersOf 9 = .ok (.if_icmp .ge 30, 3) := by decide +kernel
theorem dX6_lettersOf_12 : decode cX6_lettersOf 12 = .ok (.iload_n 2, 1) := by decide +kernel
theorem dX6_lettersOf_13 : decode cX6_lettersOf 13 = .ok (.aload_n 0, 1) := by decide +kernel
theorem dX6_lettersOf_14 : decode cX6_lettersOf 14 = .ok (.getfield 15, 3) := by decide +kernel
theorem dX6_lettersOf_17 : decode cX6_lettersOf 17 = .ok (.iload_n 3, 1) := by decide +kernel
theorem dX6_lettersOf_18 : decode cX6_lettersOf 18 = .ok (.iaload, 1) := by decide +kernel
theorem dX6_lettersOf_19 : decode cX6_lettersOf 19 = .ok (.iload_n 1, 1) := by decide +kernel
theorem dX6_lettersOf_20 : decode cX6_lettersOf 20 = .ok (.invokestatic 43, 3) := by decide +kernel
theorem dX6_lettersOf_23 : decode cX6_lettersOf 23 = .ok (.ifCond .eq 7, 3) := by decide +kernel
theorem dX6_lettersOf_26 : decode cX6_lettersOf 26 = .ok (.iconst 1, 1) := by decide +kernel
theorem dX6_lettersOf_27 : decode cX6_lettersOf 27 = .ok (.goto 4, 3) := by decide +kernel
theorem dX6_lettersOf_30 : decode cX6_lettersOf 30 = .ok (.iconst 0, 1) := by decide +kernel
theorem dX6_lettersOf_31 : decode cX6_lettersOf 31 = .ok (.iadd, 1) := by decide +kernel
theorem dX6_lettersOf_32 : decode cX6_lettersOf 32 = .ok (.istore_n 2, 1) := by decide +kernel
theorem dX6_lettersOf_33 : decode cX6_lettersOf 33 = .ok (.iinc 3 1, 3) := by decide +kernel
theorem dX6_lettersOf_36 : decode cX6_lettersOf 36 = .ok (.goto (-32), 3) := by decide +kernel
theorem dX6_lettersOf_39 : decode cX6_lettersOf 39 = .ok (.iload_n 2, 1) := by decide +kernel
theorem dX6_lettersOf_40 : decode cX6_lettersOf 40 = .ok (.ireturn, 1) := by decide +kernel
set_option maxRecDepth 20000 in
theorem w_X6_lettersOf_b31 {w : zWd} {X : zX} {l0 : Launch} {r : Int32} {S1 : zMem} (C : zC LC w X l0 cX6_lettersOf RX6 4 2 (some .int)) {k4 : Int32 → Int32 → Int32 → zMem → Option (Int32 × zMem)} (hc4 : ∀ (x1 : Int32) (x2 : Int32) (x3 : Int32) (S : zMem) (ls : Array Slot), lv_has ls 4 [(0, .ref (w.2.2.1 24)), (1, .int x1), (2, .int x2), (3, .int x3)] → k4 x1 x2 x3 S = some (r, S1) → zV LC w X (some (.int r)) S1 S 4 ls []) {x1 : Int32} {x3 : Int32} {s0 : Int32} {s1 : Int32} {S : zMem} {ls : Array Slot} (hl : lv_has ls 4 [(0, .ref (w.2.2.1 24)), (1, .int x1), (3, .int x3)]) (h : X6_lettersOf_b31 k4 x1 x3 s0 s1 S = some (r, S1)) : zV LC w X (some (.int r)) S1 S 31 ls [.int s1, .int s0] := by
  unfold X6_lettersOf_b31 at h
  refine v_iadd 31 C dX6_lettersOf_31 h (fun v1 h => ?_)
  refine v_istore_n 32 C [(2, .int v1), (0, .ref (w.2.2.1 24)), (1, .int x1), (3, .int x3)] dX6_lettersOf_32 rfl hl (by decide) rfl (fun ls hl => ?_)
  refine v_iinc 33 C (nn := (1 : Int32)) (fun v => [(3, .int v), (2, .int v1), (0, .ref (w.2.2.1 24)), (1, .int x1)]) dX6_lettersOf_33 hl (k := 3) rfl (by decide) (by decide) (fun _ => rfl) h (fun v2 ls hl h => ?_)
  refine v_goto 36 4 C dX6_lettersOf_36 (by decide) ?_
  exact hc4 _ _ _ _ _ (lv_sub hl [2, 3, 1, 0] rfl) h
set_option maxRecDepth 20000 in
theorem w_X6_lettersOf_b4 {w : zWd} {X : zX} {l0 : Launch} {r : Int32} {S1 : zMem} (C : zC LC w X l0 cX6_lettersOf RX6 4 2 (some .int)) {k4 : Int32 → Int32 → Int32 → zMem → Option (Int32 × zMem)} (hc4 : ∀ (x1 : Int32) (x2 : Int32) (x3 : Int32) (S : zMem) (ls : Array Slot), lv_has ls 4 [(0, .ref (w.2.2.1 24)), (1, .int x1), (2, .int x2), (3, .int x3)] → k4 x1 x2 x3 S = some (r, S1) → zV LC w X (some (.int r)) S1 S 4 ls []) {x1 : Int32} {x2 : Int32} {x3 : Int32} {S : zMem} {ls : Array Slot} (hl : lv_has ls 4 [(0, .ref (w.2.2.1 24)), (1, .int x1), (2, .int x2), (3, .int x3)]) (h : X6_lettersOf_b4 k4 x1 x2 x3 S = some (r, S1)) : zV LC w X (some (.int r)) S1 S 4 ls [] := by
  unfold X6_lettersOf_b4 at h
  refine v_iload_n 4 C dX6_lettersOf_4 rfl (lv_at hl 3 rfl) ?_
  refine v_aload_n 5 C dX6_lettersOf_5 rfl (lv_at hl 0 rfl) ?_
  refine v_geti 6 C dX6_lettersOf_6 fl_X6_28 rfl kC_24 h (fun v1 h => ?_)
  refine v_icmp_ge 9 39 C dX6_lettersOf_9 (by decide) h (fun h => ?_) (fun h => ?_)
  · refine v_iload_n 39 C dX6_lettersOf_39 rfl (lv_at hl 2 rfl) ?_
    exact v_ireturn 40 C dX6_lettersOf_40 h
  · refine v_iload_n 12 C dX6_lettersOf_12 rfl (lv_at hl 2 rfl) ?_
    refine v_aload_n 13 C dX6_lettersOf_13 rfl (lv_at hl 0 rfl) ?_
    refine v_getr 14 (26) C dX6_lettersOf_14 fl_X6_15 rfl kC_24 rfl ?_
    refine v_iload_n 17 C dX6_lettersOf_17 rfl (lv_at hl 3 rfl) ?_
    refine v_iald 18 C dX6_lettersOf_18 kC_26 rfl h (fun v2 h => ?_)
    refine v_iload_n 19 C dX6_lettersOf_19 rfl (lv_at hl 1 rfl) ?_
    obtain ⟨v3, S, hc, h⟩ := zb_e h
    refine v_callSi 20 C [.int x2] dX6_lettersOf_20 ml_X6_43 hy_X1_isOf (c_X1_isOf  hc) (by decide) rfl hl.1 (Nat.le_of_ble_eq_true rfl) rfl ?_
    refine v_if_eq 23 30 C dX6_lettersOf_23 (by decide) h (fun h => ?_) (fun h => ?_)
    · refine v_iconst 30 C (v := (0 : Int32)) dX6_lettersOf_30 (by decide) ?_
      exact w_X6_lettersOf_b31 C hc4 (lv_sub hl [0, 1, 3] rfl) h
    · refine v_iconst 26 C (v := (1 : Int32)) dX6_lettersOf_26 (by decide) ?_
      refine v_goto 27 31 C dX6_lettersOf_27 (by decide) ?_
      exact w_X6_lettersOf_b31 C hc4 (lv_sub hl [0, 1, 3] rfl) h
theorem w_X6_lettersOf_l4 {w : zWd} {X : zX} {l0 : Launch} {r : Int32} {S1 : zMem} (C : zC LC w X l0 cX6_lettersOf RX6 4 2 (some .int)) : ∀ (n : Nat) (x1 : Int32) (x2 : Int32) (x3 : Int32) (S : zMem) (ls : Array Slot), lv_has ls 4 [(0, .ref (w.2.2.1 24)), (1, .int x1), (2, .int x2), (3, .int x3)] → X6_lettersOf_l4 n x1 x2 x3 S = some (r, S1) → zV LC w X (some (.int r)) S1 S 4 ls [] := by
  intro n
  induction n with
  | zero =>
    intro x1 x2 x3 S ls hl h
    cases (show (none : Option (Int32 × zMem)) = some _ from h)
  | succ n ih =>
    intro x1 x2 x3 S ls hl h
    exact w_X6_lettersOf_b4 C ih hl h
set_option maxRecDepth 20000 in
theorem w_X6_lettersOf_b0 {w : zWd} {X : zX} {l0 : Launch} {r : Int32} {S1 : zMem} (C : zC LC w X l0 cX6_lettersOf RX6 4 2 (some .int)) {x1 : Int32} {S : zMem} {ls : Array Slot} (hl : lv_has ls 4 [(0, .ref (w.2.2.1 24)), (1, .int x1)]) (h : X6_lettersOf_b0 x1 S = some (r, S1)) : zV LC w X (some (.int r)) S1 S 0 ls [] := by
  unfold X6_lettersOf_b0 at h
  refine v_iconst 0 C (v := (0 : Int32)) dX6_lettersOf_0 (by decide) ?_
  refine v_istore_n 1 C [(2, .int (0 : Int32)), (0, .ref (w.2.2.1 24)), (1, .int x1)] dX6_lettersOf_1 rfl hl (by decide) rfl (fun ls hl => ?_)
  refine v_iconst 2 C (v := (0 : Int32)) dX6_lettersOf_2 (by decide) ?_
  refine v_istore_n 3 C [(3, .int (0 : Int32)), (2, .int (0 : Int32)), (0, .ref (w.2.2.1 24)), (1, .int x1)] dX6_lettersOf_3 rfl hl (by decide) rfl (fun ls hl => ?_)
  exact w_X6_lettersOf_l4 C zF _ _ _ _ _ (lv_sub hl [2, 3, 1, 0] rfl) h
theorem c_X6_lettersOf {w : zWd} {l0 : Launch} {x1 : Int32} {S S1 : zMem} {r : Int32} (h : f_X6_lettersOf x1 S = some (r, S1)) : zMet LC w l0 yX6_lettersOf cX6_lettersOf 4 (some .int) 2 [.ref (w.2.2.1 24), .int x1] S (some (.int r)) S1 :=
  zMet_of (by decide +kernel) (Nat.le_of_ble_eq_true rfl) (fun X ls C hl => w_X6_lettersOf_b0 C hl h)
theorem dX8_howManyThere_0 : decode cX8_howManyThere 0 = .ok (.iconst 0, 1) := by decide +kernel
theorem dX8_howManyThere_1 : decode cX8_howManyThere 1 = .ok (.istore_n 1, 1) := by decide +kernel
theorem dX8_howManyThere_2 : decode cX8_howManyThere 2 = .ok (.aload_n 0, 1) := by decide +kernel
theorem dX8_howManyThere_3 : decode cX8_howManyThere 3 = .ok (.astore_n 2, 1) := by decide +kernel
theorem dX8_howManyThere_4 : decode cX8_howManyThere 4 = .ok (.aload_n 2, 1) := by decide +kernel
theorem dX8_howManyThere_5 : decode cX8_howManyThere 5 = .ok (.arraylength, 1) := by decide +kernel
theorem dX8_howManyThere_6 : decode cX8_howManyThere 6 = .ok (.istore_n 3, 1) := by decide +kernel
theorem dX8_howManyThere_7 : decode cX8_howManyThere 7 = .ok (.iconst 0, 1) := by decide +kernel
theorem dX8_howManyThere_8 : decode cX8_howManyThere 8 = .ok (.istore 4, 2) := by decide +kernel
theorem dX8_howManyThere_10 : decode cX8_howManyThere 10 = .ok (.iload 4, 2) := by decide +kernel
theorem dX8_howManyThere_12 : decode cX8_howManyThere 12 = .ok (.iload_n 3, 1) := by decide +kernel
theorem dX8_howManyThere_13 : decode cX8_howManyThere 13 = .ok (.if_icmp .ge 31, 3) := by decide +kernel
theorem dX8_howManyThere_16 : decode cX8_howManyThere 16 = .ok (.aload_n 2, 1) := by decide +kernel
theorem dX8_howManyThere_17 : decode cX8_howManyThere 17 = .ok (.iload 4, 2) := by decide +kernel
theorem dX8_howManyThere_19 : decode cX8_howManyThere 19 = .ok (.aaload, 1) := by decide +kernel
theorem dX8_howManyThere_20 : decode cX8_howManyThere 20 = .ok (.astore 5, 2) := by decide +kernel
theorem dX8_howManyThere_22 : decode cX8_howManyThere 22 = .ok (.iload_n 1, 1) := by decide +kernel
theorem dX8_howManyThere_23 : decode cX8_howManyThere 23 = .ok (.aload 5, 2) := by decide +kernel
theorem dX8_howManyThere_25 : decode cX8_howManyThere 25 = .ok (.invokevirtual 92, 3) := by decide +kernel
theorem dX8_howManyThere_28 : decode cX8_howManyThere 28 = .ok (.ifCond .eq 7, 3) := by decide +kernel
theorem dX8_howManyThere_31 : decode cX8_howManyThere 31 = .ok (.iconst 1, 1) := by decide +kernel
theorem dX8_howManyThere_32 : decode cX8_howManyThere 32 = .ok (.goto 4, 3) := by decide +kernel
theorem dX8_howManyThere_35 : decode cX8_howManyThere 35 = .ok (.iconst 0, 1) := by decide +kernel
theorem dX8_howManyThere_36 : decode cX8_howManyThere 36 = .ok (.iadd, 1) := by decide +kernel
theorem dX8_howManyThere_37 : decode cX8_howManyThere 37 = .ok (.istore_n 1, 1) := by decide +kernel
theorem dX8_howManyThere_38 : decode cX8_howManyThere 38 = .ok (.iinc 4 1, 3) := by decide +kernel
theorem dX8_howManyThere_41 : decode cX8_howManyThere 41 = .ok (.goto (-31), 3) := by decide +kernel
theorem dX8_howManyThere_44 : decode cX8_howManyThere 44 = .ok (.iload_n 1, 1) := by decide +kernel
theorem dX8_howManyThere_45 : decode cX8_howManyThere 45 = .ok (.ireturn, 1) := by decide +kernel
set_option maxRecDepth 20000 in
theorem w_X8_howManyThere_b36 {w : zWd} {X : zX} {l0 : Launch} {r : Int32} {S1 : zMem} (C : zC LC w X l0 cX8_howManyThere RX8 6 2 (some .int)) {k10 : Int32 → Nat → Int32 → Int32 → zMem → Option (Int32 × zMem)} (hc10 : ∀ (x1 : Int32) (c2 : Nat) (x3 : Int32) (x4 : Int32) (S : zMem) (ls : Array Slot), lv_has ls 6 [(1, .int x1), (2, .ref (w.2.2.1 c2)), (3, .int x3), (4, .int x4)] → (c2 < LC.1 ∧ LC.2.1 c2 = 1) → k10 x1 c2 x3 x4 S = some (r, S1) → zV LC w X (some (.int r)) S1 S 10 ls []) {c2 : Nat} {x3 : Int32} {x4 : Int32} {s0 : Int32} {s1 : Int32} {S : zMem} {ls : Array Slot} (hl : lv_has ls 6 [(2, .ref (w.2.2.1 c2)), (3, .int x3), (4, .int x4)]) (hk_c2 : c2 < LC.1 ∧ LC.2.1 c2 = 1) (h : X8_howManyThere_b36 k10 c2 x3 x4 s0 s1 S = some (r, S1)) : zV LC w X (some (.int r)) S1 S 36 ls [.int s1, .int s0] := by
  unfold X8_howManyThere_b36 at h
  refine v_iadd 36 C dX8_howManyThere_36 h (fun v1 h => ?_)
  refine v_istore_n 37 C [(1, .int v1), (2, .ref (w.2.2.1 c2)), (3, .int x3), (4, .int x4)] dX8_howManyThere_37 rfl hl (by decide) rfl (fun ls hl => ?_)
  refine v_iinc 38 C (nn := (1 : Int32)) (fun v => [(4, .int v), (1, .int v1), (2, .ref (w.2.2.1 c2)), (3, .int x3)]) dX8_howManyThere_38 hl (k := 3) rfl (by decide) (by decide) (fun _ => rfl) h (fun v2 ls hl h => ?_)
  refine v_goto 41 10 C dX8_howManyThere_41 (by decide) ?_
  exact hc10 _ _ _ _ _ _ (lv_sub hl [1, 2, 3, 0] rfl) hk_c2 h
set_option maxRecDepth 20000 in
theorem w_X8_howManyThere_b10 {w : zWd} {X : zX} {l0 : Launch} {r : Int32} {S1 : zMem} (C : zC LC w X l0 cX8_howManyThere RX8 6 2 (some .int)) {k10 : Int32 → Nat → Int32 → Int32 → zMem → Option (Int32 × zMem)} (hc10 : ∀ (x1 : Int32) (c2 : Nat) (x3 : Int32) (x4 : Int32) (S : zMem) (ls : Array Slot), lv_has ls 6 [(1, .int x1), (2, .ref (w.2.2.1 c2)), (3, .int x3), (4, .int x4)] → (c2 < LC.1 ∧ LC.2.1 c2 = 1) → k10 x1 c2 x3 x4 S = some (r, S1) → zV LC w X (some (.int r)) S1 S 10 ls []) {x1 : Int32} {c2 : Nat} {x3 : Int32} {x4 : Int32} {S : zMem} {ls : Array Slot} (hl : lv_has ls 6 [(1, .int x1), (2, .ref (w.2.2.1 c2)), (3, .int x3), (4, .int x4)]) (hk_c2 : c2 < LC.1 ∧ LC.2.1 c2 = 1) (h : X8_howManyThere_b10 k10 x1 c2 x3 x4 S = some (r, S1)) : zV LC w X (some (.int r)) S1 S 10 ls [] := by
  unfold X8_howManyThere_b10 at h
  refine v_iload 10 C dX8_howManyThere_10 (lv_at hl 3 rfl) ?_
  refine v_iload_n 12 C dX8_howManyThere_12 rfl (lv_at hl 2 rfl) ?_
  refine v_icmp_ge 13 44 C dX8_howManyThere_13 (by decide) h (fun h => ?_) (fun h => ?_)
  · refine v_iload_n 44 C dX8_howManyThere_44 rfl (lv_at hl 0 rfl) ?_
    exact v_ireturn 45 C dX8_howManyThere_45 h
  · refine v_aload_n 16 C dX8_howManyThere_16 rfl (lv_at hl 1 rfl) ?_
    refine v_iload 17 C dX8_howManyThere_17 (lv_at hl 3 rfl) ?_
    refine v_aald 19 (rfC c2 (Int32.toNatClampNeg x4)) C dX8_howManyThere_19 hk_c2 (Or.inl rfl) rfl rfl h (fun hz1 h => ?_)
    refine v_astore 20 C [(5, .ref (w.2.2.1 (rfC c2 (Int32.toNatClampNeg x4)))), (1, .int x1), (2, .ref (w.2.2.1 c2)), (3, .int x3), (4, .int x4)] dX8_howManyThere_20 hl (by decide) rfl (fun ls hl => ?_)
    refine v_iload_n 22 C dX8_howManyThere_22 rfl (lv_at hl 1 rfl) ?_
    refine v_aload 23 C dX8_howManyThere_23 (lv_at hl 0 rfl) ?_
    obtain ⟨v2, S, hc, h⟩ := zb_e h
    refine v_callVi 25 C (ci := 6) [.int x1] dX8_howManyThere_25 ml_X8_92 hy_X7_isThere (c_X7_isThere (kEl hk_c2 hz1) hc) (by decide) rfl hl.1 (kEl hk_c2 hz1) rfl (Nat.le_of_ble_eq_true rfl) rfl ?_
    refine v_if_eq 28 35 C dX8_howManyThere_28 (by decide) h (fun h => ?_) (fun h => ?_)
    · refine v_iconst 35 C (v := (0 : Int32)) dX8_howManyThere_35 (by decide) ?_
      exact w_X8_howManyThere_b36 C hc10 (lv_sub hl [2, 3, 4] rfl) hk_c2 h
    · refine v_iconst 31 C (v := (1 : Int32)) dX8_howManyThere_31 (by decide) ?_
      refine v_goto 32 36 C dX8_howManyThere_32 (by decide) ?_
      exact w_X8_howManyThere_b36 C hc10 (lv_sub hl [2, 3, 4] rfl) hk_c2 h
theorem w_X8_howManyThere_l10 {w : zWd} {X : zX} {l0 : Launch} {r : Int32} {S1 : zMem} (C : zC LC w X l0 cX8_howManyThere RX8 6 2 (some .int)) : ∀ (n : Nat) (x1 : Int32) (c2 : Nat) (x3 : Int32) (x4 : Int32) (S : zMem) (ls : Array Slot), lv_has ls 6 [(1, .int x1), (2, .ref (w.2.2.1 c2)), (3, .int x3), (4, .int x4)] → (c2 < LC.1 ∧ LC.2.1 c2 = 1) → X8_howManyThere_l10 n x1 c2 x3 x4 S = some (r, S1) → zV LC w X (some (.int r)) S1 S 10 ls [] := by
  intro n
  induction n with
  | zero =>
    intro x1 c2 x3 x4 S ls hl hk_c2 h
    cases (show (none : Option (Int32 × zMem)) = some _ from h)
  | succ n ih =>
    intro x1 c2 x3 x4 S ls hl hk_c2 h
    exact w_X8_howManyThere_b10 C ih hl hk_c2 h
set_option maxRecDepth 20000 in
theorem w_X8_howManyThere_b0 {w : zWd} {X : zX} {l0 : Launch} {r : Int32} {S1 : zMem} (C : zC LC w X l0 cX8_howManyThere RX8 6 2 (some .int)) {c0 : Nat} {S : zMem} {ls : Array Slot} (hl : lv_has ls 6 [(0, .ref (w.2.2.1 c0))]) (hk_c0 : c0 < LC.1 ∧ LC.2.1 c0 = 1) (h : X8_howManyThere_b0 c0 S = some (r, S1)) : zV LC w X (some (.int r)) S1 S 0 ls [] := by
  unfold X8_howManyThere_b0 at h
  refine v_iconst 0 C (v := (0 : Int32)) dX8_howManyThere_0 (by decide) ?_
  refine v_istore_n 1 C [(1, .int (0 : Int32)), (0, .ref (w.2.2.1 c0))] dX8_howManyThere_1 rfl hl (by decide) rfl (fun ls hl => ?_)
  refine v_aload_n 2 C dX8_howManyThere_2 rfl (lv_at hl 1 rfl) ?_
  refine v_astore_n 3 C [(2, .ref (w.2.2.1 c0)), (1, .int (0 : Int32)), (0, .ref (w.2.2.1 c0))] dX8_howManyThere_3 rfl hl (by decide) rfl (fun ls hl => ?_)
  refine v_aload_n 4 C dX8_howManyThere_4 rfl (lv_at hl 0 rfl) ?_
  refine v_rlen 5 C (v := (Int32.ofNat (lnC (c0)))) dX8_howManyThere_5 hk_c0 (Or.inl rfl) rfl ?_
  refine v_istore_n 6 C [(3, .int (Int32.ofNat (lnC (c0)))), (2, .ref (w.2.2.1 c0)), (1, .int (0 : Int32)), (0, .ref (w.2.2.1 c0))] dX8_howManyThere_6 rfl hl (by decide) rfl (fun ls hl => ?_)
  refine v_iconst 7 C (v := (0 : Int32)) dX8_howManyThere_7 (by decide) ?_
  refine v_istore 8 C [(4, .int (0 : Int32)), (3, .int (Int32.ofNat (lnC (c0)))), (2, .ref (w.2.2.1 c0)), (1, .int (0 : Int32)), (0, .ref (w.2.2.1 c0))] dX8_howManyThere_8 hl (by decide) rfl (fun ls hl => ?_)
  exact w_X8_howManyThere_l10 C zF _ _ _ _ _ _ (lv_sub hl [3, 2, 1, 0] rfl) hk_c0 h
theorem c_X8_howManyThere {w : zWd} {l0 : Launch} {c0 : Nat} {S S1 : zMem} {r : Int32} (hk_c0 : c0 < LC.1 ∧ LC.2.1 c0 = 1) (h : f_X8_howManyThere c0 S = some (r, S1)) : zMet LC w l0 yX8_howManyThere cX8_howManyThere 6 (some .int) 2 [.ref (w.2.2.1 c0)] S (some (.int r)) S1 :=
  zMet_of (by decide +kernel) (Nat.le_of_ble_eq_true rfl) (fun X ls C hl => w_X8_howManyThere_b0 C hl hk_c0 h)
theorem dX8_howManyKept_0 : decode cX8_howManyKept 0 = .ok (.iconst 0, 1) := by decide +kernel
theorem dX8_howManyKept_1 : decode cX8_howManyKept 1 = .ok (.istore_n 1, 1) := by decide +kernel
theorem dX8_howManyKept_2 : decode cX8_howManyKept 2 = .ok (.aload_n 0, 1) := by decide +kernel
theorem dX8_howManyKept_3 : decode cX8_howManyKept 3 = .ok (.getfield 44, 3) := by decide +kernel
theorem dX8_howManyKept_6 : decode cX8_howManyKept 6 = .ok (.astore_n 2, 1) := by decide +kernel
theorem dX8_howManyKept_7 : decode cX8_howManyKept 7 = .ok (.aload_n 2, 1) := by decide +kernel
theorem dX8_howManyKept_8 : decode cX8_howManyKept 8 = .ok (.arraylength, 1) := by decide +kernel
theorem dX8_howManyKept_9 : decode cX8_howManyKept 9 = .ok (.istore_n 3, 1) := by decide +kernel
theorem dX8_howManyKept_10 : decode cX8_howManyKept 10 = .ok (.iconst 0, 1) := by decide +kernel
theorem dX8_howManyKept_11 : decode cX8_howManyKept 11 = .ok (.istore 4, 2) := by decide +kernel
theorem dX8_howManyKept_13 : decode cX8_howManyKept 13 = .ok (.iload 4, 2) := by decide +kernel
theorem dX8_howManyKept_15 : decode cX8_howManyKept 15 = .ok (.iload_n 3, 1) := by decide +kernel
theorem dX8_howManyKept_16 : decode cX8_howManyKept 16 = .ok (.if_icmp .ge 31, 3) := by decide +kernel
theorem dX8_howManyKept_19 : decode cX8_howManyKept 19 = .ok (.aload_n 2, 1) := by decide +kernel
theorem dX8_howManyKept_20 : decode cX8_howManyKept 20 = .ok (.iload 4, 2) := by decide +kernel
theorem dX8_howManyKept_22 : decode cX8_howManyKept 22 = .ok (.aaload, 1) := by decide +kernel
theorem dX8_howManyKept_23 : decode cX8_howManyKept 23 = .ok (.astore 5, 2) := by decide +kernel
theorem dX8_howManyKept_25 : decode cX8_howManyKept 25 = .ok (.iload_n 1, 1) := by decide +kernel
theorem dX8_howManyKept_26 : decode cX8_howManyKept 26 = .ok (.aload 5, 2) := by decide +kernel
theorem dX8_howManyKept_28 : decode cX8_howManyKept 28 = .ok (.getfield 142, 3) := by decide +kernel
theorem dX8_howManyKept_31 : decode cX8_howManyKept 31 = .ok (.ifCond .eq 7, 3) := by decide +kernel
theorem dX8_howManyKept_34 : decode cX8_howManyKept 34 = .ok (.iconst 1, 1) := by decide +kernel
theorem dX8_howManyKept_35 : decode cX8_howManyKept 35 = .ok (.goto 4, 3) := by decide +kernel
theorem dX8_howManyKept_38 : decode cX8_howManyKept 38 = .ok (.iconst 0, 1) := by decide +kernel
theorem dX8_howManyKept_39 : decode cX8_howManyKept 39 = .ok (.iadd, 1) := by decide +kernel
theorem dX8_howManyKept_40 : decode cX8_howManyKept 40 = .ok (.istore_n 1, 1) := by decide +kernel
theorem dX8_howManyKept_41 : decode cX8_howManyKept 41 = .ok (.iinc 4 1, 3) := by decide +kernel
theorem dX8_howManyKept_44 : decode cX8_howManyKept 44 = .ok (.goto (-31), 3) := by decide +kernel
theorem dX8_howManyKept_47 : decode cX8_howManyKept 47 = .ok (.iload_n 1, 1) := by decide +kernel
theorem dX8_howManyKept_48 : decode cX8_howManyKept 48 = .ok (.ireturn, 1) := by decide +kernel
set_option maxRecDepth 20000 in
theorem w_X8_howManyKept_b39 {w : zWd} {X : zX} {l0 : Launch} {r : Int32} {S1 : zMem} (C : zC LC w X l0 cX8_howManyKept RX8 6 1 (some .int)) {k13 : Int32 → Int32 → Int32 → zMem → Option (Int32 × zMem)} (hc13 : ∀ (x1 : Int32) (x3 : Int32) (x4 : Int32) (S : zMem) (ls : Array Slot), lv_has ls 6 [(1, .int x1), (2, .ref (w.2.2.1 3)), (3, .int x3), (4, .int x4)] → k13 x1 x3 x4 S = some (r, S1) → zV LC w X (some (.int r)) S1 S 13 ls []) {x3 : Int32} {x4 : Int32} {s0 : Int32} {s1 : Int32} {S : zMem} {ls : Array Slot} (hl : lv_has ls 6 [(2, .ref (w.2.2.1 3)), (3, .int x3), (4, .int x4)]) (h : X8_howManyKept_b39 k13 x3 x4 s0 s1 S = some (r, S1)) : zV LC w X (some (.int r)) S1 S 39 ls [.int s1, .int s0] := by
  unfold X8_howManyKept_b39 at h
  refine v_iadd 39 C dX8_howManyKept_39 h (fun v1 h => ?_)
  refine v_istore_n 40 C [(1, .int v1), (2, .ref (w.2.2.1 3)), (3, .int x3), (4, .int x4)] dX8_howManyKept_40 rfl hl (by decide) rfl (fun ls hl => ?_)
  refine v_iinc 41 C (nn := (1 : Int32)) (fun v => [(4, .int v), (1, .int v1), (2, .ref (w.2.2.1 3)), (3, .int x3)]) dX8_howManyKept_41 hl (k := 3) rfl (by decide) (by decide) (fun _ => rfl) h (fun v2 ls hl h => ?_)
  refine v_goto 44 13 C dX8_howManyKept_44 (by decide) ?_
  exact hc13 _ _ _ _ _ (lv_sub hl [1, 2, 3, 0] rfl) h
set_option maxRecDepth 20000 in
theorem w_X8_howManyKept_b13 {w : zWd} {X : zX} {l0 : Launch} {r : Int32} {S1 : zMem} (C : zC LC w X l0 cX8_howManyKept RX8 6 1 (some .int)) {k13 : Int32 → Int32 → Int32 → zMem → Option (Int32 × zMem)} (hc13 : ∀ (x1 : Int32) (x3 : Int32) (x4 : Int32) (S : zMem) (ls : Array Slot), lv_has ls 6 [(1, .int x1), (2, .ref (w.2.2.1 3)), (3, .int x3), (4, .int x4)] → k13 x1 x3 x4 S = some (r, S1) → zV LC w X (some (.int r)) S1 S 13 ls []) {x1 : Int32} {x3 : Int32} {x4 : Int32} {S : zMem} {ls : Array Slot} (hl : lv_has ls 6 [(1, .int x1), (2, .ref (w.2.2.1 3)), (3, .int x3), (4, .int x4)]) (h : X8_howManyKept_b13 k13 x1 x3 x4 S = some (r, S1)) : zV LC w X (some (.int r)) S1 S 13 ls [] := by
  unfold X8_howManyKept_b13 at h
  refine v_iload 13 C dX8_howManyKept_13 (lv_at hl 3 rfl) ?_
  refine v_iload_n 15 C dX8_howManyKept_15 rfl (lv_at hl 2 rfl) ?_
  refine v_icmp_ge 16 47 C dX8_howManyKept_16 (by decide) h (fun h => ?_) (fun h => ?_)
  · refine v_iload_n 47 C dX8_howManyKept_47 rfl (lv_at hl 0 rfl) ?_
    exact v_ireturn 48 C dX8_howManyKept_48 h
  · refine v_aload_n 19 C dX8_howManyKept_19 rfl (lv_at hl 1 rfl) ?_
    refine v_iload 20 C dX8_howManyKept_20 (lv_at hl 3 rfl) ?_
    refine v_aald 22 (45 + 5 * Int32.toNatClampNeg x4) C dX8_howManyKept_22 kC_3 (Or.inr rfl) rfl rfl h (fun hz1 h => ?_)
    refine v_astore 23 C [(5, .ref (w.2.2.1 (45 + 5 * Int32.toNatClampNeg x4))), (1, .int x1), (2, .ref (w.2.2.1 3)), (3, .int x3), (4, .int x4)] dX8_howManyKept_23 hl (by decide) rfl (fun ls hl => ?_)
    refine v_iload_n 25 C dX8_howManyKept_25 rfl (lv_at hl 1 rfl) ?_
    refine v_aload 26 C dX8_howManyKept_26 (lv_at hl 0 rfl) ?_
    refine v_geti 28 C dX8_howManyKept_28 fl_X8_142 rfl (kKpt hz1) h (fun v2 h => ?_)
    refine v_if_eq 31 38 C dX8_howManyKept_31 (by decide) h (fun h => ?_) (fun h => ?_)
    · refine v_iconst 38 C (v := (0 : Int32)) dX8_howManyKept_38 (by decide) ?_
      exact w_X8_howManyKept_b39 C hc13 (lv_sub hl [2, 3, 4] rfl) h
    · refine v_iconst 34 C (v := (1 : Int32)) dX8_howManyKept_34 (by decide) ?_
      refine v_goto 35 39 C dX8_howManyKept_35 (by decide) ?_
      exact w_X8_howManyKept_b39 C hc13 (lv_sub hl [2, 3, 4] rfl) h
theorem w_X8_howManyKept_l13 {w : zWd} {X : zX} {l0 : Launch} {r : Int32} {S1 : zMem} (C : zC LC w X l0 cX8_howManyKept RX8 6 1 (some .int)) : ∀ (n : Nat) (x1 : Int32) (x3 : Int32) (x4 : Int32) (S : zMem) (ls : Array Slot), lv_has ls 6 [(1, .int x1), (2, .ref (w.2.2.1 3)), (3, .int x3), (4, .int x4)] → X8_howManyKept_l13 n x1 x3 x4 S = some (r, S1) → zV LC w X (some (.int r)) S1 S 13 ls [] := by
  intro n
  induction n with
  | zero =>
    intro x1 x3 x4 S ls hl h
    cases (show (none : Option (Int32 × zMem)) = some _ from h)
  | succ n ih =>
    intro x1 x3 x4 S ls hl h
    exact w_X8_howManyKept_b13 C ih hl h
set_option maxRecDepth 20000 in
theorem w_X8_howManyKept_b0 {w : zWd} {X : zX} {l0 : Launch} {r : Int32} {S1 : zMem} (C : zC LC w X l0 cX8_howManyKept RX8 6 1 (some .int)) {S : zMem} {ls : Array Slot} (hl : lv_has ls 6 [(0, .ref (w.2.2.1 0))]) (h : X8_howManyKept_b0  S = some (r, S1)) : zV LC w X (some (.int r)) S1 S 0 ls [] := by
  unfold X8_howManyKept_b0 at h
  refine v_iconst 0 C (v := (0 : Int32)) dX8_howManyKept_0 (by decide) ?_
  refine v_istore_n 1 C [(1, .int (0 : Int32)), (0, .ref (w.2.2.1 0))] dX8_howManyKept_1 rfl hl (by decide) rfl (fun ls hl => ?_)
  refine v_aload_n 2 C dX8_howManyKept_2 rfl (lv_at hl 1 rfl) ?_
  refine v_getr 3 (3) C dX8_howManyKept_3 fl_X8_44 rfl kC_0 rfl ?_
  refine v_astore_n 6 C [(2, .ref (w.2.2.1 3)), (1, .int (0 : Int32)), (0, .ref (w.2.2.1 0))] dX8_howManyKept_6 rfl hl (by decide) rfl (fun ls hl => ?_)
  refine v_aload_n 7 C dX8_howManyKept_7 rfl (lv_at hl 0 rfl) ?_
  refine v_rlen 8 C (v := (3 : Int32)) dX8_howManyKept_8 kC_3 (Or.inr rfl) (by decide) ?_
  refine v_istore_n 9 C [(3, .int (3 : Int32)), (2, .ref (w.2.2.1 3)), (1, .int (0 : Int32)), (0, .ref (w.2.2.1 0))] dX8_howManyKept_9 rfl hl (by decide) rfl (fun ls hl => ?_)
  refine v_iconst 10 C (v := (0 : Int32)) dX8_howManyKept_10 (by decide) ?_
  refine v_istore 11 C [(4, .int (0 : Int32)), (3, .int (3 : Int32)), (2, .ref (w.2.2.1 3)), (1, .int (0 : Int32)), (0, .ref (w.2.2.1 0))] dX8_howManyKept_11 hl (by decide) rfl (fun ls hl => ?_)
  exact w_X8_howManyKept_l13 C zF _ _ _ _ _ (lv_sub hl [3, 2, 1, 0] rfl) h
theorem c_X8_howManyKept {w : zWd} {l0 : Launch} {S S1 : zMem} {r : Int32} (h : f_X8_howManyKept  S = some (r, S1)) : zMet LC w l0 yX8_howManyKept cX8_howManyKept 6 (some .int) 1 [.ref (w.2.2.1 0)] S (some (.int r)) S1 :=
  zMet_of (by decide +kernel) (Nat.le_of_ble_eq_true rfl) (fun X ls C hl => w_X8_howManyKept_b0 C hl h)
theorem fl_X8_366 : zFL RX8 366 3 7 := ⟨_, rfl, by decide, zT_of (List.mem_of_getElem? (i := 178) (by decide +kernel)) rfl⟩
theorem ml_X8_369 : Cond.methodLink RX8 369 yX6_lettersOf ∈ zT := zT_of (List.mem_of_getElem? (i := 833) (by decide +kernel)) rfl
theorem hy_X6_lettersOf : zYv yX6_lettersOf cX6_lettersOf 4 (some .int) 1 := ⟨⟨zT_of (List.mem_of_getElem? (i := 836) (by decide +kernel)) rfl, zT_of (List.mem_of_getElem? (i := 71) (by decide +kernel)) rfl, by decide, by decide +kernel, by decide +kernel, by decide +kernel⟩, zT_of (List.mem_of_getElem? (i := 834) (by decide +kernel)) rfl, zT_of (List.mem_of_getElem? (i := 835) (by decide +kernel)) rfl⟩
theorem ml_X8_372 : Cond.methodLink RX8 372 yX8_howManyThere ∈ zT := zT_of (List.mem_of_getElem? (i := 838) (by decide +kernel)) rfl
theorem hy_X8_howManyThere : zYs yX8_howManyThere cX8_howManyThere 6 (some .int) 1 := ⟨⟨zT_of (List.mem_of_getElem? (i := 840) (by decide +kernel)) rfl, zT_of (List.mem_of_getElem? (i := 70) (by decide +kernel)) rfl, by decide, by decide +kernel, by decide +kernel, by decide +kernel⟩, zT_of (List.mem_of_getElem? (i := 839) (by decide +kernel)) rfl⟩
theorem ml_X8_376 : Cond.methodLink RX8 376 yX8_howManyKept ∈ zT := zT_of (List.mem_of_getElem? (i := 841) (by decide +kernel)) rfl
theorem hy_X8_howManyKept : zYv yX8_howManyKept cX8_howManyKept 6 (some .int) 0 := ⟨⟨zT_of (List.mem_of_getElem? (i := 844) (by decide +kernel)) rfl, zT_of (List.mem_of_getElem? (i := 70) (by decide +kernel)) rfl, by decide, by decide +kernel, by decide +kernel, by decide +kernel⟩, zT_of (List.mem_of_getElem? (i := 843) (by decide +kernel)) rfl, zT_of (List.mem_of_getElem? (i := 20) (by decide +kernel)) rfl⟩
theorem dX8_countOf_0 : decode cX8_countOf 0 = .ok (.iload_n 1, 1) := by decide +kernel
theorem dX8_countOf_1 : decode cX8_countOf 1 = .ok (.tableswitch 173 0 12 #[67, 75, 83, 91, 99, 107, 115, 123, 131, 139, 148, 157, 165], 67) := by decide +kernel
theorem dX8_countOf_68 : decode cX8_countOf 68 = .ok (.aload_n 0, 1) := by decide +kernel
theorem dX8_countOf_69 : decode cX8_countOf 69 = .ok (.getfield 21, 3) := by decide +kernel
theorem dX8_countOf_72 : decode cX8_countOf 72 = .ok (.getfield 337, 3) := by decide +kernel
theorem dX8_countOf_75 : decode cX8_countOf 75 = .ok (.ireturn, 1) := by decide +kernel
theorem dX8_countOf_76 : decode cX8_countOf 76 = .ok (.aload_n 0, 1) := by decide +kernel
theorem dX8_countOf_77 : decode cX8_countOf 77 = .ok (.getfield 21, 3) := by decide +kernel
theorem dX8_countOf_80 : decode cX8_countOf 80 = .ok (.getfield 146, 3) := by decide +kernel
theorem dX8_countOf_83 : decode cX8_countOf 83 = .ok (.ireturn, 1) := by decide +kernel
theorem dX8_countOf_84 : decode cX8_countOf 84 = .ok (.aload_n 0, 1) := by decide +kernel
theorem dX8_countOf_85 : decode cX8_countOf 85 = .ok (.getfield 37, 3) := by decide +kernel
theorem dX8_countOf_88 : decode cX8_countOf 88 = .ok (.getfield 366, 3) := by decide +kernel
theorem dX8_countOf_91 : decode cX8_countOf 91 = .ok (.ireturn, 1) := by decide +kernel
theorem dX8_countOf_92 : decode cX8_countOf 92 = .ok (.aload_n 0, 1) := by decide +kernel
theorem dX8_countOf_93 : decode cX8_countOf 93 = .ok (.getfield 37, 3) := by decide +kernel
theorem dX8_countOf_96 : decode cX8_countOf 96 = .ok (.getfield 210, 3) := by decide +kernel
theorem dX8_countOf_99 : decode cX8_countOf 99 = .ok (.ireturn, 1) := by decide +kernel
theorem dX8_countOf_100 : decode cX8_countOf 100 = .ok (.aload_n 0, 1) := by decide +kernel
theorem dX8_countOf_101 : decode cX8_countOf 101 = .ok (.getfield 37, 3) := by decide +kernel
theorem dX8_countOf_104 : decode cX8_countOf 104 = .ok (.getfield 176, 3) := by decide +kernel
theorem dX8_countOf_107 : decode cX8_countOf 107 = .ok (.ireturn, 1) := by decide +kernel
theorem dX8_countOf_108 : decode cX8_countOf 108 = .ok (.aload_n 0, 1) := by decide +kernel
theorem dX8_countOf_109 : decode cX8_countOf 109 = .ok (.getfield 37, 3) := by decide +kernel
theorem dX8_countOf_112 : decode cX8_countOf 112 = .ok (.getfield 199, 3) := by decide +kernel
theorem dX8_countOf_115 : decode cX8_countOf 115 = .ok (.ireturn, 1) := by decide +kernel
theorem dX8_countOf_116 : decode cX8_countOf 116 = .ok (.aload_n 0, 1) := by decide +kernel
theorem dX8_countOf_117 : decode cX8_countOf 117 = .ok (.getfield 37, 3) := by decide +kernel
theorem dX8_countOf_120 : decode cX8_countOf 120 = .ok (.getfield 351, 3) := by decide +kernel
theorem dX8_countOf_123 : decode cX8_countOf 123 = .ok (.ireturn, 1) := by decide +kernel
theorem dX8_countOf_124 : decode cX8_countOf 124 = .ok (.aload_n 0, 1) := by decide +kernel
theorem dX8_countOf_125 : decode cX8_countOf 125 = .ok (.getfield 37, 3) := by decide +kernel
theorem dX8_countOf_128 : decode cX8_countOf 128 = .ok (.getfield 202, 3) := by decide +kernel
theorem dX8_countOf_131 : decode cX8_countOf 131 = .ok (.ireturn, 1) := by decide +kernel
theorem dX8_countOf_132 : decode cX8_countOf 132 = .ok (.aload_n 0, 1) := by decide +kernel
theorem dX8_countOf_133 : decode cX8_countOf 133 = .ok (.getfield 37, 3) := by decide +kernel
theorem dX8_countOf_136 : decode cX8_countOf 136 = .ok (.invokevirtual 318, 3) := by decide +kernel
theorem dX8_countOf_139 : decode cX8_countOf 139 = .ok (.ireturn, 1) := by decide +kernel
theorem dX8_countOf_140 : decode cX8_countOf 140 = .ok (.aload_n 0, 1) := by decide +kernel
theorem dX8_countOf_141 : decode cX8_countOf 141 = .ok (.getfield 21, 3) := by decide +kernel
theorem dX8_countOf_144 : decode cX8_countOf 144 = .ok (.iconst 1, 1) := by decide +kernel
theorem dX8_countOf_145 : decode cX8_countOf 145 = .ok (.invokevirtual 369, 3) := by decide +kernel
theorem dX8_countOf_148 : decode cX8_countOf 148 = .ok (.ireturn, 1) := by decide +kernel
theorem dX8_countOf_149 : decode cX8_countOf 149 = .ok (.aload_n 0, 1) := by decide +kernel
theorem dX8_countOf_150 : decode cX8_countOf 150 = .ok (.getfield 21, 3) := by decide +kernel
theorem dX8_countOf_153 : decode cX8_countOf 153 = .ok (.iconst 3, 1) := by decide +kernel
theorem dX8_countOf_154 : decode cX8_countOf 154 = .ok (.invokevirtual 369, 3) := by decide +kernel
theorem dX8_countOf_157 : decode cX8_countOf 157 = .ok (.ireturn, 1) := by decide +kernel
theorem dX8_countOf_158 : decode cX8_countOf 158 = .ok (.aload_n 0, 1) := by decide +kernel
theorem dX8_countOf_159 : decode cX8_countOf 159 = .ok (.getfield 11, 3) := by decide +kernel
theorem dX8_countOf_162 : decode cX8_countOf 162 = .ok (.invokestatic 372, 3) := by decide +kernel
theorem dX8_countOf_165 : decode cX8_countOf 165 = .ok (.ireturn, 1) := by decide +kernel
theorem dX8_countOf_166 : decode cX8_countOf 166 = .ok (.aload_n 0, 1) := by decide +kernel
theorem dX8_countOf_167 : decode cX8_countOf 167 = .ok (.getfield 15, 3) := by decide +kernel
theorem dX8_countOf_170 : decode cX8_countOf 170 = .ok (.invokestatic 372, 3) := by decide +kernel
theorem dX8_countOf_173 : decode cX8_countOf 173 = .ok (.ireturn, 1) := by decide +kernel
theorem dX8_countOf_174 : decode cX8_countOf 174 = .ok (.aload_n 0, 1) := by decide +kernel
theorem dX8_countOf_175 : decode cX8_countOf 175 = .ok (.invokevirtual 376, 3) := by decide +kernel
theorem dX8_countOf_178 : decode cX8_countOf 178 = .ok (.ireturn, 1) := by decide +kernel
set_option maxRecDepth 20000 in
theorem w_X8_countOf_b0 {w : zWd} {X : zX} {l0 : Launch} {r : Int32} {S1 : zMem} (C : zC LC w X l0 cX8_countOf RX8 2 3 (some .int)) {x1 : Int32} {S : zMem} {ls : Array Slot} (hl : lv_has ls 2 [(0, .ref (w.2.2.1 0)), (1, .int x1)]) (h : X8_countOf_b0 x1 S = some (r, S1)) : zV LC w X (some (.int r)) S1 S 0 ls [] := by
  unfold X8_countOf_b0 at h
  refine v_iload_n 0 C dX8_countOf_0 rfl (lv_at hl 1 rfl) ?_
  refine v_ite h (fun hq2 h => ?_) (fun hq2 h => ?_)
  · refine v_tab 1 68 C (x := x1) (off := 67) dX8_countOf_1 (by rw [hq2]; decide) (by rw [hq2]; decide) (by rw [hq2]; rfl) (by decide) ?_
    refine v_aload_n 68 C dX8_countOf_68 rfl (lv_at hl 0 rfl) ?_
    refine v_getr 69 (24) C dX8_countOf_69 fl_X8_21 rfl kC_0 rfl ?_
    refine v_geti 72 C dX8_countOf_72 fl_X8_337 rfl kC_24 h (fun v1 h => ?_)
    exact v_ireturn 75 C dX8_countOf_75 h
  · refine v_ite h (fun hq4 h => ?_) (fun hq4 h => ?_)
    · refine v_tab 1 76 C (x := x1) (off := 75) dX8_countOf_1 (by rw [hq4]; decide) (by rw [hq4]; decide) (by rw [hq4]; rfl) (by decide) ?_
      refine v_aload_n 76 C dX8_countOf_76 rfl (lv_at hl 0 rfl) ?_
      refine v_getr 77 (24) C dX8_countOf_77 fl_X8_21 rfl kC_0 rfl ?_
      refine v_geti 80 C dX8_countOf_80 fl_X8_146 rfl kC_24 h (fun v3 h => ?_)
      exact v_ireturn 83 C dX8_countOf_83 h
    · refine v_ite h (fun hq6 h => ?_) (fun hq6 h => ?_)
      · refine v_tab 1 84 C (x := x1) (off := 83) dX8_countOf_1 (by rw [hq6]; decide) (by rw [hq6]; decide) (by rw [hq6]; rfl) (by decide) ?_
        refine v_aload_n 84 C dX8_countOf_84 rfl (lv_at hl 0 rfl) ?_
        refine v_getr 85 (35) C dX8_countOf_85 fl_X8_37 rfl kC_0 rfl ?_
        refine v_geti 88 C dX8_countOf_88 fl_X8_366 rfl kC_35 h (fun v5 h => ?_)
        exact v_ireturn 91 C dX8_countOf_91 h
      · refine v_ite h (fun hq8 h => ?_) (fun hq8 h => ?_)
        · refine v_tab 1 92 C (x := x1) (off := 91) dX8_countOf_1 (by rw [hq8]; decide) (by rw [hq8]; decide) (by rw [hq8]; rfl) (by decide) ?_
          refine v_aload_n 92 C dX8_countOf_92 rfl (lv_at hl 0 rfl) ?_
          refine v_getr 93 (35) C dX8_countOf_93 fl_X8_37 rfl kC_0 rfl ?_
          refine v_geti 96 C dX8_countOf_96 fl_X8_210 rfl kC_35 h (fun v7 h => ?_)
          exact v_ireturn 99 C dX8_countOf_99 h
        · refine v_ite h (fun hq10 h => ?_) (fun hq10 h => ?_)
          · refine v_tab 1 100 C (x := x1) (off := 99) dX8_countOf_1 (by rw [hq10]; decide) (by rw [hq10]; decide) (by rw [hq10]; rfl) (by decide) ?_
            refine v_aload_n 100 C dX8_countOf_100 rfl (lv_at hl 0 rfl) ?_
            refine v_getr 101 (35) C dX8_countOf_101 fl_X8_37 rfl kC_0 rfl ?_
            refine v_geti 104 C dX8_countOf_104 fl_X8_176 rfl kC_35 h (fun v9 h => ?_)
            exact v_ireturn 107 C dX8_countOf_107 h
          · refine v_ite h (fun hq12 h => ?_) (fun hq12 h => ?_)
            · refine v_tab 1 108 C (x := x1) (off := 107) dX8_countOf_1 (by rw [hq12]; decide) (by rw [hq12]; decide) (by rw [hq12]; rfl) (by decide) ?_
              refine v_aload_n 108 C dX8_countOf_108 rfl (lv_at hl 0 rfl) ?_
              refine v_getr 109 (35) C dX8_countOf_109 fl_X8_37 rfl kC_0 rfl ?_
              refine v_geti 112 C dX8_countOf_112 fl_X8_199 rfl kC_35 h (fun v11 h => ?_)
              exact v_ireturn 115 C dX8_countOf_115 h
            · refine v_ite h (fun hq14 h => ?_) (fun hq14 h => ?_)
              · refine v_tab 1 116 C (x := x1) (off := 115) dX8_countOf_1 (by rw [hq14]; decide) (by rw [hq14]; decide) (by rw [hq14]; rfl) (by decide) ?_
                refine v_aload_n 116 C dX8_countOf_116 rfl (lv_at hl 0 rfl) ?_
                refine v_getr 117 (35) C dX8_countOf_117 fl_X8_37 rfl kC_0 rfl ?_
                refine v_geti 120 C dX8_countOf_120 fl_X8_351 rfl kC_35 h (fun v13 h => ?_)
                exact v_ireturn 123 C dX8_countOf_123 h
              · refine v_ite h (fun hq16 h => ?_) (fun hq16 h => ?_)
                · refine v_tab 1 124 C (x := x1) (off := 123) dX8_countOf_1 (by rw [hq16]; decide) (by rw [hq16]; decide) (by rw [hq16]; rfl) (by decide) ?_
                  refine v_aload_n 124 C dX8_countOf_124 rfl (lv_at hl 0 rfl) ?_
                  refine v_getr 125 (35) C dX8_countOf_125 fl_X8_37 rfl kC_0 rfl ?_
                  refine v_geti 128 C dX8_countOf_128 fl_X8_202 rfl kC_35 h (fun v15 h => ?_)
                  exact v_ireturn 131 C dX8_countOf_131 h
                · refine v_ite h (fun hq18 h => ?_) (fun hq18 h => ?_)
                  · refine v_tab 1 132 C (x := x1) (off := 131) dX8_countOf_1 (by rw [hq18]; decide) (by rw [hq18]; decide) (by rw [hq18]; rfl) (by decide) ?_
                    refine v_aload_n 132 C dX8_countOf_132 rfl (lv_at hl 0 rfl) ?_
                    refine v_getr 133 (35) C dX8_countOf_133 fl_X8_37 rfl kC_0 rfl ?_
                    obtain ⟨v17, S, hc, h⟩ := zb_e h
                    refine v_callVi 136 C (ci := 3) [] dX8_countOf_136 ml_X8_318 hy_X4_allBonds (c_X4_allBonds kC_35 hc) (by decide) rfl hl.1 kC_35 rfl (Nat.le_of_ble_eq_true rfl) rfl ?_
                    exact v_ireturn 139 C dX8_countOf_139 h
                  · refine v_ite h (fun hq20 h => ?_) (fun hq20 h => ?_)
                    · refine v_tab 1 140 C (x := x1) (off := 139) dX8_countOf_1 (by rw [hq20]; decide) (by rw [hq20]; decide) (by rw [hq20]; rfl) (by decide) ?_
                      refine v_aload_n 140 C dX8_countOf_140 rfl (lv_at hl 0 rfl) ?_
                      refine v_getr 141 (24) C dX8_countOf_141 fl_X8_21 rfl kC_0 rfl ?_
                      refine v_iconst 144 C (v := (1 : Int32)) dX8_countOf_144 (by decide) ?_
                      obtain ⟨v19, S, hc, h⟩ := zb_e h
                      refine v_callVi 145 C (ci := 5) [] dX8_countOf_145 ml_X8_369 hy_X6_lettersOf (c_X6_lettersOf  hc) (by decide) rfl hl.1 kC_24 rfl (Nat.le_of_ble_eq_true rfl) rfl ?_
                      exact v_ireturn 148 C dX8_countOf_148 h
                    · refine v_ite h (fun hq22 h => ?_) (fun hq22 h => ?_)
                      · refine v_tab 1 149 C (x := x1) (off := 148) dX8_countOf_1 (by rw [hq22]; decide) (by rw [hq22]; decide) (by rw [hq22]; rfl) (by decide) ?_
                        refine v_aload_n 149 C dX8_countOf_149 rfl (lv_at hl 0 rfl) ?_
                        refine v_getr 150 (24) C dX8_countOf_150 fl_X8_21 rfl kC_0 rfl ?_
                        refine v_iconst 153 C (v := (3 : Int32)) dX8_countOf_153 (by decide) ?_
                        obtain ⟨v21, S, hc, h⟩ := zb_e h
                        refine v_callVi 154 C (ci := 5) [] dX8_countOf_154 ml_X8_369 hy_X6_lettersOf (c_X6_lettersOf  hc) (by decide) rfl hl.1 kC_24 rfl (Nat.le_of_ble_eq_true rfl) rfl ?_
                        exact v_ireturn 157 C dX8_countOf_157 h
                      · refine v_ite h (fun hq24 h => ?_) (fun hq24 h => ?_)
                        · refine v_tab 1 158 C (x := x1) (off := 157) dX8_countOf_1 (by rw [hq24]; decide) (by rw [hq24]; decide) (by rw [hq24]; rfl) (by decide) ?_
                          refine v_aload_n 158 C dX8_countOf_158 rfl (lv_at hl 0 rfl) ?_
                          refine v_getr 159 (1) C dX8_countOf_159 fl_X8_11 rfl kC_0 rfl ?_
                          obtain ⟨v23, S, hc, h⟩ := zb_e h
                          refine v_callSi 162 C [] dX8_countOf_162 ml_X8_372 hy_X8_howManyThere (c_X8_howManyThere kC_1 hc) (by decide) rfl hl.1 (Nat.le_of_ble_eq_true rfl) rfl ?_
                          exact v_ireturn 165 C dX8_countOf_165 h
                        · refine v_ite h (fun hq26 h => ?_) (fun hq26 h => ?_)
                          · refine v_tab 1 166 C (x := x1) (off := 165) dX8_countOf_1 (by rw [hq26]; decide) (by rw [hq26]; decide) (by rw [hq26]; rfl) (by decide) ?_
                            refine v_aload_n 166 C dX8_countOf_166 rfl (lv_at hl 0 rfl) ?_
                            refine v_getr 167 (2) C dX8_countOf_167 fl_X8_15 rfl kC_0 rfl ?_
                            obtain ⟨v25, S, hc, h⟩ := zb_e h
                            refine v_callSi 170 C [] dX8_countOf_170 ml_X8_372 hy_X8_howManyThere (c_X8_howManyThere kC_2 hc) (by decide) rfl hl.1 (Nat.le_of_ble_eq_true rfl) rfl ?_
                            exact v_ireturn 173 C dX8_countOf_173 h
                          · refine v_tabo 1 174 C (x := x1) dX8_countOf_1 (by have hq2z := zne hq2 (show ((0 : Int32)).toInt = 0 by decide); have hq4z := zne hq4 (show ((1 : Int32)).toInt = 1 by decide); have hq6z := zne hq6 (show ((2 : Int32)).toInt = 2 by decide); have hq8z := zne hq8 (show ((3 : Int32)).toInt = 3 by decide); have hq10z := zne hq10 (show ((4 : Int32)).toInt = 4 by decide); have hq12z := zne hq12 (show ((5 : Int32)).toInt = 5 by decide); have hq14z := zne hq14 (show ((6 : Int32)).toInt = 6 by decide); have hq16z := zne hq16 (show ((7 : Int32)).toInt = 7 by decide); have hq18z := zne hq18 (show ((8 : Int32)).toInt = 8 by decide); have hq20z := zne hq20 (show ((9 : Int32)).toInt = 9 by decide); have hq22z := zne hq22 (show ((10 : Int32)).toInt = 10 by decide); have hq24z := zne hq24 (show ((11 : Int32)).toInt = 11 by decide); have hq26z := zne hq26 (show ((12 : Int32)).toInt = 12 by decide); omega) (by decide) ?_
                            refine v_aload_n 174 C dX8_countOf_174 rfl (lv_at hl 0 rfl) ?_
                            obtain ⟨v27, S, hc, h⟩ := zb_e h
                            refine v_callVi 175 C (ci := 7) [] dX8_countOf_175 ml_X8_376 hy_X8_howManyKept (c_X8_howManyKept  hc) (by decide) rfl hl.1 kC_0 rfl (Nat.le_of_ble_eq_true rfl) rfl ?_
                            exact v_ireturn 178 C dX8_countOf_178 h
theorem c_X8_countOf {w : zWd} {l0 : Launch} {x1 : Int32} {S S1 : zMem} {r : Int32} (h : f_X8_countOf x1 S = some (r, S1)) : zMet LC w l0 yX8_countOf cX8_countOf 2 (some .int) 3 [.ref (w.2.2.1 0), .int x1] S (some (.int r)) S1 :=
  zMet_of (by decide +kernel) (Nat.le_of_ble_eq_true rfl) (fun X ls C hl => w_X8_countOf_b0 C hl h)
theorem ml_X8_327 : Cond.methodLink RX8 327 yX8_countOf ∈ zT := zT_of (List.mem_of_getElem? (i := 829) (by decide +kernel)) rfl
theorem hy_X8_countOf : zYv yX8_countOf cX8_countOf 2 (some .int) 1 := ⟨⟨zT_of (List.mem_of_getElem? (i := 832) (by decide +kernel)) rfl, zT_of (List.mem_of_getElem? (i := 70) (by decide +kernel)) rfl, by decide, by decide +kernel, by decide +kernel, by decide +kernel⟩, zT_of (List.mem_of_getElem? (i := 831) (by decide +kernel)) rfl, zT_of (List.mem_of_getElem? (i := 19) (by decide +kernel)) rfl⟩
theorem dX8_count_0 : decode cX8_count 0 = .ok (.iload_n 1, 1) := by decide +kernel
theorem dX8_count_1 : decode cX8_count 1 = .ok (.bipush 13, 2) := by decide +kernel
theorem dX8_count_3 : decode cX8_count 3 = .ok (.invokestatic 152, 3) := by decide +kernel
theorem dX8_count_6 : decode cX8_count 6 = .ok (.ifCond .ne 5, 3) := by decide +kernel
theorem dX8_count_9 : decode cX8_count 9 = .ok (.iconst (-1), 1) := by decide +kernel
theorem dX8_count_10 : decode cX8_count 10 = .ok (.ireturn, 1) := by decide +kernel
theorem dX8_count_11 : decode cX8_count 11 = .ok (.aload_n 0, 1) := by decide +kernel
theorem dX8_count_12 : decode cX8_count 12 = .ok (.iload_n 1, 1) := by decide +kernel
theorem dX8_count_13 : decode cX8_count 13 = .ok (.invokevirtual 327, 3) := by decide +kernel
theorem dX8_count_16 : decode cX8_count 16 = .ok (.ireturn, 1) := by decide +kernel
set_option maxRecDepth 20000 in
theorem w_X8_count_b0 {w : zWd} {X : zX} {l0 : Launch} {r : Int32} {S1 : zMem} (C : zC LC w X l0 cX8_count RX8 2 4 (some .int)) {x1 : Int32} {S : zMem} {ls : Array Slot} (hl : lv_has ls 2 [(0, .ref (w.2.2.1 0)), (1, .int x1)]) (h : X8_count_b0 x1 S = some (r, S1)) : zV LC w X (some (.int r)) S1 S 0 ls [] := by
  unfold X8_count_b0 at h
  refine v_iload_n 0 C dX8_count_0 rfl (lv_at hl 1 rfl) ?_
  refine v_bipush 1 C (v := (13 : Int32)) dX8_count_1 (by decide) ?_
  obtain ⟨v1, S, hc, h⟩ := zb_e h
  refine v_callSi 3 C [] dX8_count_3 ml_X8_152 hy_X8_within (c_X8_within  hc) (by decide) rfl hl.1 (Nat.le_of_ble_eq_true rfl) rfl ?_
  refine v_if_ne 6 11 C dX8_count_6 (by decide) h (fun h => ?_) (fun h => ?_)
  · refine v_aload_n 11 C dX8_count_11 rfl (lv_at hl 0 rfl) ?_
    refine v_iload_n 12 C dX8_count_12 rfl (lv_at hl 1 rfl) ?_
    obtain ⟨v2, S, hc, h⟩ := zb_e h
    refine v_callVi 13 C (ci := 7) [] dX8_count_13 ml_X8_327 hy_X8_countOf (c_X8_countOf  hc) (by decide) rfl hl.1 kC_0 rfl (Nat.le_of_ble_eq_true rfl) rfl ?_
    exact v_ireturn 16 C dX8_count_16 h
  · refine v_iconst 9 C (v := (-1 : Int32)) dX8_count_9 (by decide) ?_
    exact v_ireturn 10 C dX8_count_10 h
theorem c_X8_count {w : zWd} {l0 : Launch} {x1 : Int32} {S S1 : zMem} {r : Int32} (h : f_X8_count x1 S = some (r, S1)) : zMet LC w l0 yX8_count cX8_count 2 (some .int) 4 [.ref (w.2.2.1 0), .int x1] S (some (.int r)) S1 :=
  zMet_of (by decide +kernel) (Nat.le_of_ble_eq_true rfl) (fun X ls C hl => w_X8_count_b0 C hl h)
theorem dX8_finding_0 : decode cX8_finding 0 = .ok (.aload_n 0, 1) := by decide +kernel
theorem dX8_finding_1 : decode cX8_finding 1 = .ok (.getfield 330, 3) := by decide +kernel
theorem dX8_finding_4 : decode cX8_finding 4 = .ok (.ireturn, 1) := by decide +kernel
set_option maxRecDepth 20000 in
theorem w_X8_finding_b0 {w : zWd} {X : zX} {l0 : Launch} {r : Int32} {S1 : zMem} (C : zC LC w X l0 cX8_finding RX8 1 1 (some .int)) {S : zMem} {ls : Array Slot} (hl : lv_has ls 1 [(0, .ref (w.2.2.1 0))]) (h : X8_finding_b0  S = some (r, S1)) : zV LC w X (some (.int r)) S1 S 0 ls [] := by
  unfold X8_finding_b0 at h
  refine v_aload_n 0 C dX8_finding_0 rfl (lv_at hl 0 rfl) ?_
  refine v_geti 1 C dX8_finding_1 fl_X8_330 rfl kC_0 h (fun v1 h => ?_)
  exact v_ireturn 4 C dX8_finding_4 h
theorem c_X8_finding {w : zWd} {l0 : Launch} {S S1 : zMem} {r : Int32} (h : f_X8_finding  S = some (r, S1)) : zMet LC w l0 yX8_finding cX8_finding 1 (some .int) 1 [.ref (w.2.2.1 0)] S (some (.int r)) S1 :=
  zMet_of (by decide +kernel) (Nat.le_of_ble_eq_true rfl) (fun X ls C hl => w_X8_finding_b0 C hl h)
theorem dX8_findings_0 : decode cX8_findings 0 = .ok (.iload_n 1, 1) := by decide +kernel
theorem dX8_findings_1 : decode cX8_findings 1 = .ok (.iconst 1, 1) := by decide +kernel
theorem dX8_findings_2 : decode cX8_findings 2 = .ok (.if_icmp .lt 8, 3) := by decide +kernel
theorem dX8_findings_5 : decode cX8_findings 5 = .ok (.iload_n 1, 1) := by decide +kernel
theorem dX8_findings_6 : decode cX8_findings 6 = .ok (.iconst 5, 1) := by decide +kernel
theorem dX8_findings_7 : decode cX8_findings 7 = .ok (.if_icmp .le 5, 3) := by decide +kernel
theorem dX8_findings_10 : decode cX8_findings 10 = .ok (.iconst (-1), 1) := by decide +kernel
theorem dX8_findings_11 : decode cX8_findings 11 = .ok (.ireturn, 1) := by decide +kernel
theorem dX8_findings_12 : decode cX8_findings 12 = .ok (.aload_n 0, 1) := by decide +kernel
theorem dX8_findings_13 : decode cX8_findings 13 = .ok (.getfield 69, 3) := by decide +kernel
theorem dX8_findings_16 : decode cX8_findings 16 = .ok (.iload_n 1, 1) := by decide +kernel
theorem dX8_findings_17 : decode cX8_findings 17 = .ok (.iaload, 1) := by decide +kernel
theorem dX8_findings_18 : decode cX8_findings 18 = .ok (.ireturn, 1) := by decide +kernel
set_option maxRecDepth 20000 in
theorem w_X8_findings_b10 {w : zWd} {X : zX} {l0 : Launch} {r : Int32} {S1 : zMem} (C : zC LC w X l0 cX8_findings RX8 2 1 (some .int)) {S : zMem} {ls : Array Slot} (hl : lv_has ls 2 []) (h : X8_findings_b10  S = some (r, S1)) : zV LC w X (some (.int r)) S1 S 10 ls [] := by
  unfold X8_findings_b10 at h
  refine v_iconst 10 C (v := (-1 : Int32)) dX8_findings_10 (by decide) ?_
  exact v_ireturn 11 C dX8_findings_11 h
set_option maxRecDepth 20000 in
theorem w_X8_findings_b0 {w : zWd} {X : zX} {l0 : Launch} {r : Int32} {S1 : zMem} (C : zC LC w X l0 cX8_findings RX8 2 1 (some .int)) {x1 : Int32} {S : zMem} {ls : Array Slot} (hl : lv_has ls 2 [(0, .ref (w.2.2.1 0)), (1, .int x1)]) (h : X8_findings_b0 x1 S = some (r, S1)) : zV LC w X (some (.int r)) S1 S 0 ls [] := by
  unfold X8_findings_b0 at h
  refine v_iload_n 0 C dX8_findings_0 rfl (lv_at hl 1 rfl) ?_
  refine v_iconst 1 C (v := (1 : Int32)) dX8_findings_1 (by decide) ?_
  refine v_icmp_lt 2 10 C dX8_findings_2 (by decide) h (fun h => ?_) (fun h => ?_)
  · exact w_X8_findings_b10 C (lv_sub hl [] rfl) h
  · refine v_iload_n 5 C dX8_findings_5 rfl (lv_at hl 1 rfl) ?_
    refine v_iconst 6 C (v := (5 : Int32)) dX8_findings_6 (by decide) ?_
    refine v_icmp_le 7 12 C dX8_findings_7 (by decide) h (fun h => ?_) (fun h => ?_)
    · refine v_aload_n 12 C dX8_findings_12 rfl (lv_at hl 0 rfl) ?_
      refine v_getr 13 (67) C dX8_findings_13 fl_X8_69 rfl kC_0 rfl ?_
      refine v_iload_n 16 C dX8_findings_16 rfl (lv_at hl 1 rfl) ?_
      refine v_iald 17 C dX8_findings_17 kC_67 rfl h (fun v1 h => ?_)
      exact v_ireturn 18 C dX8_findings_18 h
    · exact w_X8_findings_b10 C (lv_sub hl [] rfl) h
theorem c_X8_findings {w : zWd} {l0 : Launch} {x1 : Int32} {S S1 : zMem} {r : Int32} (h : f_X8_findings x1 S = some (r, S1)) : zMet LC w l0 yX8_findings cX8_findings 2 (some .int) 1 [.ref (w.2.2.1 0), .int x1] S (some (.int r)) S1 :=
  zMet_of (by decide +kernel) (Nat.le_of_ble_eq_true rfl) (fun X ls C hl => w_X8_findings_b0 C hl h)
theorem co_X7_23 : Cond.constantLong RX7 23 31 ∈ zT := zT_of (List.mem_of_getElem? (i := 863) (by decide +kernel)) rfl
theorem dX7_mixedInto_0 : decode cX7_mixedInto 0 = .ok (.ldc2_w 23, 3) := by decide +kernel
theorem dX7_mixedInto_3 : decode cX7_mixedInto 3 = .ok (.lload_n 1, 1) := by decide +kernel
theorem dX7_mixedInto_4 : decode cX7_mixedInto 4 = .ok (.lmul, 1) := by decide +kernel
theorem dX7_mixedInto_5 : decode cX7_mixedInto 5 = .ok (.aload_n 0, 1) := by decide +kernel
theorem dX7_mixedInto_6 : decode cX7_mixedInto 6 = .ok (.getfield 9, 3) := by decide +kernel
theorem dX7_mixedInto_9 : decode cX7_mixedInto 9 = .ok (.i2l, 1) := by decide +kernel
theorem dX7_mixedInto_10 : decode cX7_mixedInto 10 = .ok (.ladd, 1) := by decide +kernel
theorem dX7_mixedInto_11 : decode cX7_mixedInto 11 = .ok (.lstore_n 3, 1) := by decide +kernel
theorem dX7_mixedInto_12 : decode cX7_mixedInto 12 = .ok (.iconst 0, 1) := by decide +kernel
theorem dX7_mixedInto_13 : decode cX7_mixedInto 13 = .ok (.istore 5, 2) := by decide +kernel
theorem dX7_mixedInto_15 : decode cX7_mixedInto 15 = .ok (.iload 5, 2) := by decide +kernel
theorem dX7_mixedInto_17 : decode cX7_mixedInto 17 = .ok (.aload_n 0, 1) := by decide +kernel
theorem dX7_mixedInto_18 : decode cX7_mixedInto 18 = .ok (.getfield 9, 3) := by decide +kernel
theorem dX7_mixedInto_21 : decode cX7_mixedInto 21 = .ok (.if_icmp .ge 24, 3) := by decide +kernel
theorem dX7_mixedInto_24 : decode cX7_mixedInto 24 = .ok (.ldc2_w 23, 3) := by decide +kernel
theorem dX7_mixedInto_27 : decode cX7_mixedInto 27 = .ok (.lload_n 3, 1) := by decide +kernel
theorem dX7_mixedInto_28 : decode cX7_mixedInto 28 = .ok (.lmul, 1) := by decide +kernel
theorem dX7_mixedInto_29 : decode cX7_mixedInto 29 = .ok (.aload_n 0, 1) := by decide +kernel
theorem dX7_mixedInto_30 : decode cX7_mixedInto 30 = .ok (.getfield 13, 3) := by decide +kernel
theorem dX7_mixedInto_33 : decode cX7_mixedInto 33 = .ok (.iload 5, 2) := by decide +kernel
theorem dX7_mixedInto_35 : decode cX7_mixedInto 35 = .ok (.iaload, 1) := by decide +kernel
theorem dX7_mixedInto_36 : decode cX7_mixedInto 36 = .ok (.i2l, 1) := by decide +kernel
theorem dX7_mixedInto_37 : decode cX7_mixedInto 37 = .ok (.ladd, 1) := by decide +kernel
theorem dX7_mixedInto_38 : decode cX7_mixedInto 38 = .ok (.lstore_n 3, 1) := by decide +kernel
theorem dX7_mixedInto_39 : decode cX7_mixedInto 39 = .ok (.iinc 5 1, 3) := by decide +kernel
theorem dX7_mixedInto_42 : decode cX7_mixedInto 42 = .ok (.goto (-27), 3) := by decide +kernel
theorem dX7_mixedInto_45 : decode cX7_mixedInto 45 = .ok (.lload_n 3, 1) := by decide +kernel
theorem dX7_mixedInto_46 : decode cX7_mixedInto 46 = .ok (.lreturn, 1) := by decide +kernel
set_option maxRecDepth 20000 in
theorem w_X7_mixedInto_b15 {w : zWd} {X : zX} {l0 : Launch} {r : Int64} {S1 : zMem} (C : zC LC w X l0 cX7_mixedInto RX7 6 1 (some .long)) {k15 : Nat → Int64 → Int32 → zMem → Option (Int64 × zMem)} (hc15 : ∀ (c0 : Nat) (y3 : Int64) (x5 : Int32) (S : zMem) (ls : Array Slot), lv_has ls 6 [(0, .ref (w.2.2.1 c0)), (3, .long y3), (5, .int x5)] → (c0 < LC.1 ∧ LC.2.1 c0 = 9) → k15 c0 y3 x5 S = some (r, S1) → zV LC w X (some (.long r)) S1 S 15 ls []) {c0 : Nat} {y3 : Int64} {x5 : Int32} {S : zMem} {ls : Array Slot} (hl : lv_has ls 6 [(0, .ref (w.2.2.1 c0)), (3, .long y3), (5, .int x5)]) (hk_c0 : c0 < LC.1 ∧ LC.2.1 c0 = 9) (h : X7_mixedInto_b15 k15 c0 y3 x5 S = some (r, S1)) : zV LC w X (some (.long r)) S1 S 15 ls [] := by
  unfold X7_mixedInto_b15 at h
  refine v_iload 15 C dX7_mixedInto_15 (lv_at hl 2 rfl) ?_
  refine v_aload_n 17 C dX7_mixedInto_17 rfl (lv_at hl 0 rfl) ?_
  refine v_geti 18 C dX7_mixedInto_18 fl_X7_9 rfl hk_c0 h (fun v1 h => ?_)
  refine v_icmp_ge 21 45 C dX7_mixedInto_21 (by decide) h (fun h => ?_) (fun h => ?_)
  · refine v_lload_n 45 C dX7_mixedInto_45 rfl (lv_at hl 1 rfl) ?_
    exact v_lreturn 46 C dX7_mixedInto_46 h
  · refine v_ldc2 24 C (v := 31) dX7_mixedInto_24 co_X7_23 ?_
    refine v_lload_n 27 C dX7_mixedInto_27 rfl (lv_at hl 1 rfl) ?_
    refine v_lmul 28 C dX7_mixedInto_28 h (fun v2 h => ?_)
    refine v_aload_n 29 C dX7_mixedInto_29 rfl (lv_at hl 0 rfl) ?_
    refine v_getr 30 (c0 + 1) C dX7_mixedInto_30 fl_X7_13 rfl hk_c0 (rS1 hk_c0) ?_
    refine v_iload 33 C dX7_mixedInto_33 (lv_at hl 2 rfl) ?_
    refine v_iald 35 C dX7_mixedInto_35 (kS1 hk_c0) rfl h (fun v3 h => ?_)
    refine v_i2l 36 C dX7_mixedInto_36 h (fun v4 h => ?_)
    refine v_ladd 37 C dX7_mixedInto_37 h (fun v5 h => ?_)
    refine v_lstore_n 38 C [(3, .long v5), (0, .ref (w.2.2.1 c0)), (5, .int x5)] dX7_mixedInto_38 rfl hl (by decide) rfl (fun ls hl => ?_)
    refine v_iinc 39 C (nn := (1 : Int32)) (fun v => [(5, .int v), (3, .long v5), (0, .ref (w.2.2.1 c0))]) dX7_mixedInto_39 hl (k := 2) rfl (by decide) (by decide) (fun _ => rfl) h (fun v6 ls hl h => ?_)
    refine v_goto 42 15 C dX7_mixedInto_42 (by decide) ?_
    exact hc15 _ _ _ _ _ (lv_sub hl [2, 1, 0] rfl) hk_c0 h
theorem w_X7_mixedInto_l15 {w : zWd} {X : zX} {l0 : Launch} {r : Int64} {S1 : zMem} (C : zC LC w X l0 cX7_mixedInto RX7 6 1 (some .long)) : ∀ (n : Nat) (c0 : Nat) (y3 : Int64) (x5 : Int32) (S : zMem) (ls : Array Slot), lv_has ls 6 [(0, .ref (w.2.2.1 c0)), (3, .long y3), (5, .int x5)] → (c0 < LC.1 ∧ LC.2.1 c0 = 9) → X7_mixedInto_l15 n c0 y3 x5 S = some (r, S1) → zV LC w X (some (.long r)) S1 S 15 ls [] := by
  intro n
  induction n with
  | zero =>
    intro c0 y3 x5 S ls hl hk_c0 h
    cases (show (none : Option (Int64 × zMem)) = some _ from h)
  | succ n ih =>
    intro c0 y3 x5 S ls hl hk_c0 h
    exact w_X7_mixedInto_b15 C ih hl hk_c0 h
set_option maxRecDepth 20000 in
theorem w_X7_mixedInto_b0 {w : zWd} {X : zX} {l0 : Launch} {r : Int64} {S1 : zMem} (C : zC LC w X l0 cX7_mixedInto RX7 6 1 (some .long)) {c0 : Nat} {y1 : Int64} {S : zMem} {ls : Array Slot} (hl : lv_has ls 6 [(0, .ref (w.2.2.1 c0)), (1, .long y1)]) (hk_c0 : c0 < LC.1 ∧ LC.2.1 c0 = 9) (h : X7_mixedInto_b0 c0 y1 S = some (r, S1)) : zV LC w X (some (.long r)) S1 S 0 ls [] := by
  unfold X7_mixedInto_b0 at h
  refine v_ldc2 0 C (v := 31) dX7_mixedInto_0 co_X7_23 ?_
  refine v_lload_n 3 C dX7_mixedInto_3 rfl (lv_at hl 1 rfl) ?_
  refine v_lmul 4 C dX7_mixedInto_4 h (fun v1 h => ?_)
  refine v_aload_n 5 C dX7_mixedInto_5 rfl (lv_at hl 0 rfl) ?_
  refine v_geti 6 C dX7_mixedInto_6 fl_X7_9 rfl hk_c0 h (fun v2 h => ?_)
  refine v_i2l 9 C dX7_mixedInto_9 h (fun v3 h => ?_)
  refine v_ladd 10 C dX7_mixedInto_10 h (fun v4 h => ?_)
  refine v_lstore_n 11 C [(3, .long v4), (0, .ref (w.2.2.1 c0)), (1, .long y1)] dX7_mixedInto_11 rfl hl (by decide) rfl (fun ls hl => ?_)
  refine v_iconst 12 C (v := (0 : Int32)) dX7_mixedInto_12 (by decide) ?_
  refine v_istore 13 C [(5, .int (0 : Int32)), (3, .long v4), (0, .ref (w.2.2.1 c0)), (1, .long y1)] dX7_mixedInto_13 hl (by decide) rfl (fun ls hl => ?_)
  exact w_X7_mixedInto_l15 C zF _ _ _ _ _ (lv_sub hl [2, 1, 0] rfl) hk_c0 h
theorem c_X7_mixedInto {w : zWd} {l0 : Launch} {c0 : Nat} {y1 : Int64} {S S1 : zMem} {r : Int64} (hk_c0 : c0 < LC.1 ∧ LC.2.1 c0 = 9) (h : f_X7_mixedInto c0 y1 S = some (r, S1)) : zMet LC w l0 yX7_mixedInto cX7_mixedInto 6 (some .long) 1 [.ref (w.2.2.1 c0), .long y1] S (some (.long r)) S1 :=
  zMet_of (by decide +kernel) (Nat.le_of_ble_eq_true rfl) (fun X ls C hl => w_X7_mixedInto_b0 C hl hk_c0 h)
theorem co_X8_335 : Cond.constantLong RX8 335 31 ∈ zT := zT_of (List.mem_of_getElem? (i := 858) (by decide +kernel)) rfl
theorem ml_X8_340 : Cond.methodLink RX8 340 yX7_mixedInto ∈ zT := zT_of (List.mem_of_getElem? (i := 859) (by decide +kernel)) rfl
theorem hy_X7_mixedInto : zYv yX7_mixedInto cX7_mixedInto 6 (some .long) 1 := ⟨⟨zT_of (List.mem_of_getElem? (i := 862) (by decide +kernel)) rfl, zT_of (List.mem_of_getElem? (i := 77) (by decide +kernel)) rfl, by decide, by decide +kernel, by decide +kernel, by decide +kernel⟩, zT_of (List.mem_of_getElem? (i := 860) (by decide +kernel)) rfl, zT_of (List.mem_of_getElem? (i := 861) (by decide +kernel)) rfl⟩
theorem co_X8_333 : Cond.constantLong RX8 333 17 ∈ zT := zT_of (List.mem_of_getElem? (i := 857) (by decide +kernel)) rfl
theorem dX8_digest_0 : decode cX8_digest 0 = .ok (.ldc2_w 333, 3) := by decide +kernel
theorem dX8_digest_3 : decode cX8_digest 3 = .ok (.lstore_n 1, 1) := by decide +kernel
theorem dX8_digest_4 : decode cX8_digest 4 = .ok (.iconst 0, 1) := by decide +kernel
theorem dX8_digest_5 : decode cX8_digest 5 = .ok (.istore_n 3, 1) := by decide +kernel
theorem dX8_digest_6 : decode cX8_digest 6 = .ok (.iload_n 3, 1) := by decide +kernel
theorem dX8_digest_7 : decode cX8_digest 7 = .ok (.bipush 14, 2) := by decide +kernel
theorem dX8_digest_9 : decode cX8_digest 9 = .ok (.if_icmp .ge 22, 3) := by decide +kernel
theorem dX8_digest_12 : decode cX8_digest 12 = .ok (.ldc2_w 335, 3) := by decide +kernel
theorem dX8_digest_15 : decode cX8_digest 15 = .ok (.lload_n 1, 1) := by decide +kernel
theorem dX8_digest_16 : decode cX8_digest 16 = .ok (.lmul, 1) := by decide +kernel
theorem dX8_digest_17 : decode cX8_digest 17 = .ok (.aload_n 0, 1) := by decide +kernel
theorem dX8_digest_18 : decode cX8_digest 18 = .ok (.iload_n 3, 1) := by decide +kernel
theorem dX8_digest_19 : decode cX8_digest 19 = .ok (.invokevirtual 327, 3) := by decide +kernel
theorem dX8_digest_22 : decode cX8_digest 22 = .ok (.i2l, 1) := by decide +kernel
theorem dX8_digest_23 : decode cX8_digest 23 = .ok (.ladd, 1) := by decide +kernel
theorem dX8_digest_24 : decode cX8_digest 24 = .ok (.lstore_n 1, 1) := by decide +kernel
theorem dX8_digest_25 : decode cX8_digest 25 = .ok (.iinc 3 1, 3) := by decide +kernel
theorem dX8_digest_28 : decode cX8_digest 28 = .ok (.goto (-22), 3) := by decide +kernel
theorem dX8_digest_31 : decode cX8_digest 31 = .ok (.iconst 0, 1) := by decide +kernel
theorem dX8_digest_32 : decode cX8_digest 32 = .ok (.istore_n 3, 1) := by decide +kernel
theorem dX8_digest_33 : decode cX8_digest 33 = .ok (.iload_n 3, 1) := by decide +kernel
theorem dX8_digest_34 : decode cX8_digest 34 = .ok (.aload_n 0, 1) := by decide +kernel
theorem dX8_digest_35 : decode cX8_digest 35 = .ok (.getfield 21, 3) := by decide +kernel
theorem dX8_digest_38 : decode cX8_digest 38 = .ok (.getfield 337, 3) := by decide +kernel
theorem dX8_digest_41 : decode cX8_digest 41 = .ok (.if_icmp .ge 39, 3) := by decide +kernel
theorem dX8_digest_44 : decode cX8_digest 44 = .ok (.iconst 0, 1) := by decide +kernel
theorem dX8_digest_45 : decode cX8_digest 45 = .ok (.istore 4, 2) := by decide +kernel
theorem dX8_digest_47 : decode cX8_digest 47 = .ok (.iload 4, 2) := by decide +kernel
theorem dX8_digest_49 : decode cX8_digest 49 = .ok (.iconst 3, 1) := by decide +kernel
theorem dX8_digest_50 : decode cX8_digest 50 = .ok (.if_icmp .ge 24, 3) := by decide +kernel
theorem dX8_digest_53 : decode cX8_digest 53 = .ok (.ldc2_w 335, 3) := by decide +kernel
theorem dX8_digest_56 : decode cX8_digest 56 = .ok (.lload_n 1, 1) := by decide +kernel
theorem dX8_digest_57 : decode cX8_digest 57 = .ok (.lmul, 1) := by decide +kernel
theorem dX8_digest_58 : decode cX8_digest 58 = .ok (.aload_n 0, 1) := by decide +kernel
theorem dX8_digest_59 : decode cX8_digest 59 = .ok (.iload_n 3, 1) := by decide +kernel
theorem dX8_digest_60 : decode cX8_digest 60 = .ok (.iload 4, 2) := by decide +kernel
theorem dX8_digest_62 : decode cX8_digest 62 = .ok (.invokevirtual 155, 3) := by decide +kernel
theorem dX8_digest_65 : decode cX8_digest 65 = .ok (.i2l, 1) := by decide +kernel
theorem dX8_digest_66 : decode cX8_digest 66 = .ok (.ladd, 1) := by decide +kernel
theorem dX8_digest_67 : decode cX8_digest 67 = .ok (.lstore_n 1, 1) := by decide +kernel
theorem dX8_digest_68 : decode cX8_digest 68 = .ok (.iinc 4 1, 3) := by decide +kernel
theorem dX8_digest_71 : decode cX8_digest 71 = .ok (.goto (-24), 3) := by decide +kernel
theorem dX8_digest_74 : decode cX8_digest 74 = .ok (.iinc 3 1, 3) := by decide +kernel
theorem dX8_digest_77 : decode cX8_digest 77 = .ok (.goto (-44), 3) := by decide +kernel
theorem dX8_digest_80 : decode cX8_digest 80 = .ok (.iconst 0, 1) := by decide +kernel
theorem dX8_digest_81 : decode cX8_digest 81 = .ok (.istore_n 3, 1) := by decide +kernel
theorem dX8_digest_82 : decode cX8_digest 82 = .ok (.iload_n 3, 1) := by decide +kernel
theorem dX8_digest_83 : decode cX8_digest 83 = .ok (.aload_n 0, 1) := by decide +kernel
theorem dX8_digest_84 : decode cX8_digest 84 = .ok (.getfield 21, 3) := by decide +kernel
theorem dX8_digest_87 : decode cX8_digest 87 = .ok (.getfield 146, 3) := by decide +kernel
theorem dX8_digest_90 : decode cX8_digest 90 = .ok (.if_icmp .ge 39, 3) := by decide +kernel
theorem dX8_digest_93 : decode cX8_digest 93 = .ok (.iconst 0, 1) := by decide +kernel
theorem dX8_digest_94 : decode cX8_digest 94 = .ok (.istore 4, 2) := by decide +kernel
theorem dX8_digest_96 : decode cX8_digest 96 = .ok (.iload 4, 2) := by decide +kernel
theorem dX8_digest_98 : decode cX8_digest 98 = .ok (.iconst 5, 1) := by decide +kernel
theorem dX8_digest_99 : decode cX8_digest 99 = .ok (.if_icmp .ge 24, 3) := by decide +kernel
theorem dX8_digest_102 : decode cX8_digest 102 = .ok (.ldc2_w 335, 3) := by decide +kernel
theorem dX8_digest_105 : decode cX8_digest 105 = .ok (.lload_n 1, 1) := by decide +kernel
theorem dX8_digest_106 : decode cX8_digest 106 = .ok (.lmul, 1) := by decide +kernel
theorem dX8_digest_107 : decode cX8_digest 107 = .ok (.aload_n 0, 1) := by decide +kernel
theorem dX8_digest_108 : decode cX8_digest 108 = .ok (.iload_n 3, 1) := by decide +kernel
theorem dX8_digest_109 : decode cX8_digest 109 = .ok (.iload 4, 2) := by decide +kernel
theorem dX8_digest_111 : decode cX8_digest 111 = .ok (.invokevirtual 162, 3) := by decide +kernel
theorem dX8_digest_114 : decode cX8_digest 114 = .ok (.i2l, 1) := by decide +kernel
theorem dX8_digest_115 : decode cX8_digest 115 = .ok (.ladd, 1) := by decide +kernel
theorem dX8_digest_116 : decode cX8_digest 116 = .ok (.lstore_n 1, 1) := by decide +kernel
theorem dX8_digest_117 : decode cX8_digest 117 = .ok (.iinc 4 1, 3) := by decide +kernel
theorem dX8_digest_120 : decode cX8_digest 120 = .ok (.goto (-24), 3) := by decide +kernel
theorem dX8_digest_123 : decode cX8_digest 123 = .ok (.iinc 3 1, 3) := by decide +kernel
theorem dX8_digest_126 : decode cX8_digest 126 = .ok (.goto (-44), 3) := by decide +kernel
theorem dX8_digest_129 : decode cX8_digest 129 = .ok (.aload_n 0, 1) := by decide +kernel
theorem dX8_digest_130 : decode cX8_digest 130 = .ok (.getfield 44, 3) := by decide +kernel
theorem dX8_digest_133 : decode cX8_digest 133 = .ok (.astore_n 3, 1) := by decide +kernel
theorem dX8_digest_134 : decode cX8_digest 134 = .ok (.aload_n 3, 1) := by decide +kernel
theorem dX8_digest_135 : decode cX8_digest 135 = .ok (.arraylength, 1) := by decide +kernel
theorem dX8_digest_136 : decode cX8_digest 136 = .ok (.istore 4, 2) := by decide +kernel
theorem dX8_digest_138 : decode cX8_digest 138 = .ok (.iconst 0, 1) := by decide +kernel
theorem dX8_digest_139 : decode cX8_digest 139 = .ok (.istore 5, 2) := by decide +kernel
theorem dX8_digest_141 : decode cX8_digest 141 = .ok (.iload 5, 2) := by decide +kernel
theorem dX8_digest_143 : decode cX8_digest 143 = .ok (.iload 4, 2) := by decide +kernel
theorem dX8_digest_145 : decode cX8_digest 145 = .ok (.if_icmp .ge 40, 3) := by decide +kernel
theorem dX8_digest_148 : decode cX8_digest 148 = .ok (.aload_n 3, 1) := by decide +kernel
theorem dX8_digest_149 : decode cX8_digest 149 = .ok (.iload 5, 2) := by decide +kernel
theorem dX8_digest_151 : decode cX8_digest 151 = .ok (.aaload, 1) := by decide +kernel
theorem dX8_digest_152 : decode cX8_digest 152 = .ok (.astore 6, 2) := by decide +kernel
theorem dX8_digest_154 : decode cX8_digest 154 = .ok (.ldc2_w 335, 3) := by decide +kernel
theorem dX8_digest_157 : decode cX8_digest 157 = .ok (.lload_n 1, 1) := by decide +kernel
theorem dX8_digest_158 : decode cX8_digest 158 = .ok (.lmul, 1) := by decide +kernel
theorem dX8_digest_159 : decode cX8_digest 159 = .ok (.aload 6, 2) := by decide +kernel
theorem dX8_digest_161 : decode cX8_digest 161 = .ok (.getfield 142, 3) := by decide +kernel
theorem dX8_digest_164 : decode cX8_digest 164 = .ok (.ifCond .eq 11, 3) := by decide +kernel
theorem dX8_digest_167 : decode cX8_digest 167 = .ok (.aload 6, 2) := by decide +kernel
theorem dX8_digest_169 : decode cX8_digest 169 = .ok (.getfield 210, 3) := by decide +kernel
theorem dX8_digest_172 : decode cX8_digest 172 = .ok (.goto 4, 3) := by decide +kernel
theorem dX8_digest_175 : decode cX8_digest 175 = .ok (.iconst (-1), 1) := by decide +kernel
theorem dX8_digest_176 : decode cX8_digest 176 = .ok (.i2l, 1) := by decide +kernel
theorem dX8_digest_177 : decode cX8_digest 177 = .ok (.ladd, 1) := by decide +kernel
theorem dX8_digest_178 : decode cX8_digest 178 = .ok (.lstore_n 1, 1) := by decide +kernel
theorem dX8_digest_179 : decode cX8_digest 179 = .ok (.iinc 5 1, 3) := by decide +kernel
theorem dX8_digest_182 : decode cX8_digest 182 = .ok (.goto (-41), 3) := by decide +kernel
theorem dX8_digest_185 : decode cX8_digest 185 = .ok (.aload_n 0, 1) := by decide +kernel
theorem dX8_digest_186 : decode cX8_digest 186 = .ok (.getfield 11, 3) := by decide +kernel
theorem dX8_digest_189 : decode cX8_digest 189 = .ok (.astore_n 3, 1) := by decide +kernel
theorem dX8_digest_190 : decode cX8_digest 190 = .ok (.aload_n 3, 1) := by decide +kernel
theorem dX8_digest_191 : decode cX8_digest 191 = .ok (.arraylength, 1) := by decide +kernel
theorem dX8_digest_192 : decode cX8_digest 192 = .ok (.istore 4, 2) := by decide +kernel
theorem dX8_digest_194 : decode cX8_digest 194 = .ok (.iconst 0, 1) := by decide +kernel
theorem dX8_digest_195 : decode cX8_digest 195 = .ok (.istore 5, 2) := by decide +kernel
theorem dX8_digest_197 : decode cX8_digest 197 = .ok (.iload 5, 2) := by decide +kernel
theorem dX8_digest_199 : decode cX8_digest 199 = .ok (.iload 4, 2) := by decide +kernel
theorem dX8_digest_201 : decode cX8_digest 201 = .ok (.if_icmp .ge 22, 3) := by decide +kernel
theorem dX8_digest_204 : decode cX8_digest 204 = .ok (.aload_n 3, 1) := by decide +kernel
theorem dX8_digest_205 : decode cX8_digest 205 = .ok (.iload 5, 2) := by decide +kernel
theorem dX8_digest_207 : decode cX8_digest 207 = .ok (.aaload, 1) := by decide +kernel
theorem dX8_digest_208 : decode cX8_digest 208 = .ok (.astore 6, 2) := by decide +kernel
theorem dX8_digest_210 : decode cX8_digest 210 = .ok (.aload 6, 2) := by decide +kernel
theorem dX8_digest_212 : decode cX8_digest 212 = .ok (.lload_n 1, 1) := by decide +kernel
theorem dX8_digest_213 : decode cX8_digest 213 = .ok (.invokevirtual 340, 3) := by decide +kernel
theorem dX8_digest_216 : decode cX8_digest 216 = .ok (.lstore_n 1, 1) := by decide +kernel
theorem dX8_digest_217 : decode cX8_digest 217 = .ok (.iinc 5 1, 3) := by decide +kernel
theorem dX8_digest_220 : decode cX8_digest 220 = .ok (.goto (-23), 3) := by decide +kernel
theorem dX8_digest_223 : decode cX8_digest 223 = .ok (.aload_n 0, 1) := by decide +kernel
theorem dX8_digest_224 : decode cX8_digest 224 = .ok (.getfield 15, 3) := by decide +kernel
theorem dX8_digest_227 : decode cX8_digest 227 = .ok (.astore_n 3, 1) := by decide +kernel
theorem dX8_digest_228 : decode cX8_digest 228 = .ok (.aload_n 3, 1) := by decide +kernel
theorem dX8_digest_229 : decode cX8_digest 229 = .ok (.arraylength, 1) := by decide +kernel
theorem dX8_digest_230 : decode cX8_digest 230 = .ok (.istore 4, 2) := by decide +kernel
theorem dX8_digest_232 : decode cX8_digest 232 = .ok (.iconst 0, 1) := by decide +kernel
theorem dX8_digest_233 : decode cX8_digest 233 = .ok (.istore 5, 2) := by decide +kernel
theorem dX8_digest_235 : decode cX8_digest 235 = .ok (.iload 5, 2) := by decide +kernel
theorem dX8_digest_237 : decode cX8_digest 237 = .ok (.iload 4, 2) := by decide +kernel
theorem dX8_digest_239 : decode cX8_digest 239 = .ok (.if_icmp .ge 22, 3) := by decide +kernel
theorem dX8_digest_242 : decode cX8_digest 242 = .ok (.aload_n 3, 1) := by decide +kernel
theorem dX8_digest_243 : decode cX8_digest 243 = .ok (.iload 5, 2) := by decide +kernel
theorem dX8_digest_245 : decode cX8_digest 245 = .ok (.aaload, 1) := by decide +kernel
theorem dX8_digest_246 : decode cX8_digest 246 = .ok (.astore 6, 2) := by decide +kernel
theorem dX8_digest_248 : decode cX8_digest 248 = .ok (.aload 6, 2) := by decide +kernel
theorem dX8_digest_250 : decode cX8_digest 250 = .ok (.lload_n 1, 1) := by decide +kernel
theorem dX8_digest_251 : decode cX8_digest 251 = .ok (.invokevirtual 340, 3) := by decide +kernel
theorem dX8_digest_254 : decode cX8_digest 254 = .ok (.lstore_n 1, 1) := by decide +kernel
theorem dX8_digest_255 : decode cX8_digest 255 = .ok (.iinc 5 1, 3) := by decide +kernel
theorem dX8_digest_258 : decode cX8_digest 258 = .ok (.goto (-23), 3) := by decide +kernel
theorem dX8_digest_261 : decode cX8_digest 261 = .ok (.lload_n 1, 1) := by decide +kernel
theorem dX8_digest_262 : decode cX8_digest 262 = .ok (.lreturn, 1) := by decide +kernel
set_option maxRecDepth 20000 in
theorem w_X8_digest_b47 {w : zWd} {X : zX} {l0 : Launch} {r : Int64} {S1 : zMem} (C : zC LC w X l0 cX8_digest RX8 7 5 (some .long)) {k33 : Int64 → Int32 → zMem → Option (Int64 × zMem)} {k47 : Int64 → Int32 → Int32 → zMem → Option (Int64 × zMem)} (hc33 : ∀ (y1 : Int64) (x3 : Int32) (S : zMem) (ls : Array Slot), lv_has ls 7 [(0, .ref (w.2.2.1 0)), (1, .long y1), (3, .int x3)] → k33 y1 x3 S = some (r, S1) → zV LC w X (some (.long r)) S1 S 33 ls []) (hc47 : ∀ (y1 : Int64) (x3 : Int32) (x4 : Int32) (S : zMem) (ls : Array Slot), lv_has ls 7 [(0, .ref (w.2.2.1 0)), (1, .long y1), (3, .int x3), (4, .int x4)] → k47 y1 x3 x4 S = some (r, S1) → zV LC w X (some (.long r)) S1 S 47 ls []) {y1 : Int64} {x3 : Int32} {x4 : Int32} {S : zMem} {ls : Array Slot} (hl : lv_has ls 7 [(0, .ref (w.2.2.1 0)), (1, .long y1), (3, .int x3), (4, .int x4)]) (h : X8_digest_b47 k33 k47 y1 x3 x4 S = some (r, S1)) : zV LC w X (some (.long r)) S1 S 47 ls [] := by
  unfold X8_digest_b47 at h
  refine v_iload 47 C dX8_digest_47 (lv_at hl 3 rfl) ?_
  refine v_iconst 49 C (v := (3 : Int32)) dX8_digest_49 (by decide) ?_
  refine v_icmp_ge 50 74 C dX8_digest_50 (by decide) h (fun h => ?_) (fun h => ?_)
  · refine v_iinc 74 C (nn := (1 : Int32)) (fun v => [(3, .int v), (0, .ref (w.2.2.1 0)), (1, .long y1), (4, .int x4)]) dX8_digest_74 hl (k := 2) rfl (by decide) (by decide) (fun _ => rfl) h (fun v1 ls hl h => ?_)
    refine v_goto 77 33 C dX8_digest_77 (by decide) ?_
    exact hc33 _ _ _ _ (lv_sub hl [1, 2, 0] rfl) h
  · refine v_ldc2 53 C (v := 31) dX8_digest_53 co_X8_335 ?_
    refine v_lload_n 56 C dX8_digest_56 rfl (lv_at hl 1 rfl) ?_
    refine v_lmul 57 C dX8_digest_57 h (fun v2 h => ?_)
    refine v_aload_n 58 C dX8_digest_58 rfl (lv_at hl 0 rfl) ?_
    refine v_iload_n 59 C dX8_digest_59 rfl (lv_at hl 2 rfl) ?_
    refine v_iload 60 C dX8_digest_60 (lv_at hl 3 rfl) ?_
    obtain ⟨v3, S, hc, h⟩ := zb_e h
    refine v_callVi 62 C (ci := 7) [.long v2] dX8_digest_62 ml_X8_155 hy_X8_ofHouse (c_X8_ofHouse  hc) (by decide) rfl hl.1 kC_0 rfl (Nat.le_of_ble_eq_true rfl) rfl ?_
    refine v_i2l 65 C dX8_digest_65 h (fun v4 h => ?_)
    refine v_ladd 66 C dX8_digest_66 h (fun v5 h => ?_)
    refine v_lstore_n 67 C [(1, .long v5), (0, .ref (w.2.2.1 0)), (3, .int x3), (4, .int x4)] dX8_digest_67 rfl hl (by decide) rfl (fun ls hl => ?_)
    refine v_iinc 68 C (nn := (1 : Int32)) (fun v => [(4, .int v), (1, .long v5), (0, .ref (w.2.2.1 0)), (3, .int x3)]) dX8_digest_68 hl (k := 3) rfl (by decide) (by decide) (fun _ => rfl) h (fun v6 ls hl h => ?_)
    refine v_goto 71 47 C dX8_digest_71 (by decide) ?_
    exact hc47 _ _ _ _ _ (lv_sub hl [2, 1, 3, 0] rfl) h
theorem w_X8_digest_l47 {w : zWd} {X : zX} {l0 : Launch} {r : Int64} {S1 : zMem} (C : zC LC w X l0 cX8_digest RX8 7 5 (some .long)) {k33 : Int64 → Int32 → zMem → Option (Int64 × zMem)} (hc33 : ∀ (y1 : Int64) (x3 : Int32) (S : zMem) (ls : Array Slot), lv_has ls 7 [(0, .ref (w.2.2.1 0)), (1, .long y1), (3, .int x3)] → k33 y1 x3 S = some (r, S1) → zV LC w X (some (.long r)) S1 S 33 ls []) : ∀ (n : Nat) (y1 : Int64) (x3 : Int32) (x4 : Int32) (S : zMem) (ls : Array Slot), lv_has ls 7 [(0, .ref (w.2.2.1 0)), (1, .long y1), (3, .int x3), (4, .int x4)] → X8_digest_l47 k33 n y1 x3 x4 S = some (r, S1) → zV LC w X (some (.long r)) S1 S 47 ls [] := by
  intro n
  induction n with
  | zero =>
    intro y1 x3 x4 S ls hl h
    cases (show (none : Option (Int64 × zMem)) = some _ from h)
  | succ n ih =>
    intro y1 x3 x4 S ls hl h
    exact w_X8_digest_b47 C hc33 ih hl h
set_option maxRecDepth 20000 in
theorem w_X8_digest_b96 {w : zWd} {X : zX} {l0 : Launch} {r : Int64} {S1 : zMem} (C : zC LC w X l0 cX8_digest RX8 7 5 (some .long)) {k82 : Int64 → Int32 → zMem → Option (Int64 × zMem)} {k96 : Int64 → Int32 → Int32 → zMem → Option (Int64 × zMem)} (hc82 : ∀ (y1 : Int64) (x3 : Int32) (S : zMem) (ls : Array Slot), lv_has ls 7 [(0, .ref (w.2.2.1 0)), (1, .long y1), (3, .int x3)] → k82 y1 x3 S = some (r, S1) → zV LC w X (some (.long r)) S1 S 82 ls []) (hc96 : ∀ (y1 : Int64) (x3 : Int32) (x4 : Int32) (S : zMem) (ls : Array Slot), lv_has ls 7 [(0, .ref (w.2.2.1 0)), (1, .long y1), (3, .int x3), (4, .int x4)] → k96 y1 x3 x4 S = some (r, S1) → zV LC w X (some (.long r)) S1 S 96 ls []) {y1 : Int64} {x3 : Int32} {x4 : Int32} {S : zMem} {ls : Array Slot} (hl : lv_has ls 7 [(0, .ref (w.2.2.1 0)), (1, .long y1), (3, .int x3), (4, .int x4)]) (h : X8_digest_b96 k82 k96 y1 x3 x4 S = some (r, S1)) : zV LC w X (some (.long r)) S1 S 96 ls [] := by
  unfold X8_digest_b96 at h
  refine v_iload 96 C dX8_digest_96 (lv_at hl 3 rfl) ?_
  refine v_iconst 98 C (v := (5 : Int32)) dX8_digest_98 (by decide) ?_
  refine v_icmp_ge 99 123 C dX8_digest_99 (by decide) h (fun h => ?_) (fun h => ?_)
  · refine v_iinc 123 C (nn := (1 : Int32)) (fun v => [(3, .int v), (0, .ref (w.2.2.1 0)), (1, .long y1), (4, .int x4)]) dX8_digest_123 hl (k := 2) rfl (by decide) (by decide) (fun _ => rfl) h (fun v1 ls hl h => ?_)
    refine v_goto 126 82 C dX8_digest_126 (by decide) ?_
    exact hc82 _ _ _ _ (lv_sub hl [1, 2, 0] rfl) h
  · refine v_ldc2 102 C (v := 31) dX8_digest_102 co_X8_335 ?_
    refine v_lload_n 105 C dX8_digest_105 rfl (lv_at hl 1 rfl) ?_
    refine v_lmul 106 C dX8_digest_106 h (fun v2 h => ?_)
    refine v_aload_n 107 C dX8_digest_107 rfl (lv_at hl 0 rfl) ?_
    refine v_iload_n 108 C dX8_digest_108 rfl (lv_at hl 2 rfl) ?_
    refine v_iload 109 C dX8_digest_109 (lv_at hl 3 rfl) ?_
    obtain ⟨v3, S, hc, h⟩ := zb_e h
    refine v_callVi 111 C (ci := 7) [.long v2] dX8_digest_111 ml_X8_162 hy_X8_ofLetter (c_X8_ofLetter  hc) (by decide) rfl hl.1 kC_0 rfl (Nat.le_of_ble_eq_true rfl) rfl ?_
    refine v_i2l 114 C dX8_digest_114 h (fun v4 h => ?_)
    refine v_ladd 115 C dX8_digest_115 h (fun v5 h => ?_)
    refine v_lstore_n 116 C [(1, .long v5), (0, .ref (w.2.2.1 0)), (3, .int x3), (4, .int x4)] dX8_digest_116 rfl hl (by decide) rfl (fun ls hl => ?_)
    refine v_iinc 117 C (nn := (1 : Int32)) (fun v => [(4, .int v), (1, .long v5), (0, .ref (w.2.2.1 0)), (3, .int x3)]) dX8_digest_117 hl (k := 3) rfl (by decide) (by decide) (fun _ => rfl) h (fun v6 ls hl h => ?_)
    refine v_goto 120 96 C dX8_digest_120 (by decide) ?_
    exact hc96 _ _ _ _ _ (lv_sub hl [2, 1, 3, 0] rfl) h
theorem w_X8_digest_l96 {w : zWd} {X : zX} {l0 : Launch} {r : Int64} {S1 : zMem} (C : zC LC w X l0 cX8_digest RX8 7 5 (some .long)) {k82 : Int64 → Int32 → zMem → Option (Int64 × zMem)} (hc82 : ∀ (y1 : Int64) (x3 : Int32) (S : zMem) (ls : Array Slot), lv_has ls 7 [(0, .ref (w.2.2.1 0)), (1, .long y1), (3, .int x3)] → k82 y1 x3 S = some (r, S1) → zV LC w X (some (.long r)) S1 S 82 ls []) : ∀ (n : Nat) (y1 : Int64) (x3 : Int32) (x4 : Int32) (S : zMem) (ls : Array Slot), lv_has ls 7 [(0, .ref (w.2.2.1 0)), (1, .long y1), (3, .int x3), (4, .int x4)] → X8_digest_l96 k82 n y1 x3 x4 S = some (r, S1) → zV LC w X (some (.long r)) S1 S 96 ls [] := by
  intro n
  induction n with
  | zero =>
    intro y1 x3 x4 S ls hl h
    cases (show (none : Option (Int64 × zMem)) = some _ from h)
  | succ n ih =>
    intro y1 x3 x4 S ls hl h
    exact w_X8_digest_b96 C hc82 ih hl h
set_option maxRecDepth 20000 in
theorem w_X8_digest_b176 {w : zWd} {X : zX} {l0 : Launch} {r : Int64} {S1 : zMem} (C : zC LC w X l0 cX8_digest RX8 7 5 (some .long)) {k141 : Int64 → Int32 → Int32 → zMem → Option (Int64 × zMem)} (hc141 : ∀ (y1 : Int64) (x4 : Int32) (x5 : Int32) (S : zMem) (ls : Array Slot), lv_has ls 7 [(0, .ref (w.2.2.1 0)), (1, .long y1), (3, .ref (w.2.2.1 3)), (4, .int x4), (5, .int x5)] → k141 y1 x4 x5 S = some (r, S1) → zV LC w X (some (.long r)) S1 S 141 ls []) {x4 : Int32} {x5 : Int32} {s0 : Int64} {s1 : Int32} {S : zMem} {ls : Array Slot} (hl : lv_has ls 7 [(0, .ref (w.2.2.1 0)), (3, .ref (w.2.2.1 3)), (4, .int x4), (5, .int x5)]) (h : X8_digest_b176 k141 x4 x5 s0 s1 S = some (r, S1)) : zV LC w X (some (.long r)) S1 S 176 ls [.int s1, .long s0] := by
  unfold X8_digest_b176 at h
  refine v_i2l 176 C dX8_digest_176 h (fun v1 h => ?_)
  refine v_ladd 177 C dX8_digest_177 h (fun v2 h => ?_)
  refine v_lstore_n 178 C [(1, .long v2), (0, .ref (w.2.2.1 0)), (3, .ref (w.2.2.1 3)), (4, .int x4), (5, .int x5)] dX8_digest_178 rfl hl (by decide) rfl (fun ls hl => ?_)
  refine v_iinc 179 C (nn := (1 : Int32)) (fun v => [(5, .int v), (1, .long v2), (0, .ref (w.2.2.1 0)), (3, .ref (w.2.2.1 3)), (4, .int x4)]) dX8_digest_179 hl (k := 4) rfl (by decide) (by decide) (fun _ => rfl) h (fun v3 ls hl h => ?_)
  refine v_goto 182 141 C dX8_digest_182 (by decide) ?_
  exact hc141 _ _ _ _ _ (lv_sub hl [2, 1, 3, 4, 0] rfl) h
set_option maxRecDepth 20000 in
theorem w_X8_digest_b235 {w : zWd} {X : zX} {l0 : Launch} {r : Int64} {S1 : zMem} (C : zC LC w X l0 cX8_digest RX8 7 5 (some .long)) {k235 : Int64 → Int32 → Int32 → zMem → Option (Int64 × zMem)} (hc235 : ∀ (y1 : Int64) (x4 : Int32) (x5 : Int32) (S : zMem) (ls : Array Slot), lv_has ls 7 [(1, .long y1), (3, .ref (w.2.2.1 2)), (4, .int x4), (5, .int x5)] → k235 y1 x4 x5 S = some (r, S1) → zV LC w X (some (.long r)) S1 S 235 ls []) {y1 : Int64} {x4 : Int32} {x5 : Int32} {S : zMem} {ls : Array Slot} (hl : lv_has ls 7 [(1, .long y1), (3, .ref (w.2.2.1 2)), (4, .int x4), (5, .int x5)]) (h : X8_digest_b235 k235 y1 x4 x5 S = some (r, S1)) : zV LC w X (some (.long r)) S1 S 235 ls [] := by
  unfold X8_digest_b235 at h
  refine v_iload 235 C dX8_digest_235 (lv_at hl 3 rfl) ?_
  refine v_iload 237 C dX8_digest_237 (lv_at hl 2 rfl) ?_
  refine v_icmp_ge 239 261 C dX8_digest_239 (by decide) h (fun h => ?_) (fun h => ?_)
  · refine v_lload_n 261 C dX8_digest_261 rfl (lv_at hl 0 rfl) ?_
    exact v_lreturn 262 C dX8_digest_262 h
  · refine v_aload_n 242 C dX8_digest_242 rfl (lv_at hl 1 rfl) ?_
    refine v_iload 243 C dX8_digest_243 (lv_at hl 3 rfl) ?_
    refine v_aald 245 (16 + 2 * Int32.toNatClampNeg x5) C dX8_digest_245 kC_2 (Or.inl rfl) rfl rfl h (fun hz1 h => ?_)
    refine v_astore 246 C [(6, .ref (w.2.2.1 (16 + 2 * Int32.toNatClampNeg x5))), (1, .long y1), (3, .ref (w.2.2.1 2)), (4, .int x4), (5, .int x5)] dX8_digest_246 hl (by decide) rfl (fun ls hl => ?_)
    refine v_aload 248 C dX8_digest_248 (lv_at hl 0 rfl) ?_
    refine v_lload_n 250 C dX8_digest_250 rfl (lv_at hl 1 rfl) ?_
    obtain ⟨v2, S, hc, h⟩ := zb_e h
    refine v_callVl 251 C (ci := 6) [] dX8_digest_251 ml_X8_340 hy_X7_mixedInto (c_X7_mixedInto (kTxt hz1) hc) (by decide) rfl hl.1 (kTxt hz1) rfl (Nat.le_of_ble_eq_true rfl) rfl ?_
    refine v_lstore_n 254 C [(1, .long v2), (6, .ref (w.2.2.1 (16 + 2 * Int32.toNatClampNeg x5))), (3, .ref (w.2.2.1 2)), (4, .int x4), (5, .int x5)] dX8_digest_254 rfl hl (by decide) rfl (fun ls hl => ?_)
    refine v_iinc 255 C (nn := (1 : Int32)) (fun v => [(5, .int v), (1, .long v2), (6, .ref (w.2.2.1 (16 + 2 * Int32.toNatClampNeg x5))), (3, .ref (w.2.2.1 2)), (4, .int x4)]) dX8_digest_255 hl (k := 4) rfl (by decide) (by decide) (fun _ => rfl) h (fun v3 ls hl h => ?_)
    refine v_goto 258 235 C dX8_digest_258 (by decide) ?_
    exact hc235 _ _ _ _ _ (lv_sub hl [1, 3, 4, 0] rfl) h
theorem w_X8_digest_l235 {w : zWd} {X : zX} {l0 : Launch} {r : Int64} {S1 : zMem} (C : zC LC w X l0 cX8_digest RX8 7 5 (some .long)) : ∀ (n : Nat) (y1 : Int64) (x4 : Int32) (x5 : Int32) (S : zMem) (ls : Array Slot), lv_has ls 7 [(1, .long y1), (3, .ref (w.2.2.1 2)), (4, .int x4), (5, .int x5)] → X8_digest_l235 n y1 x4 x5 S = some (r, S1) → zV LC w X (some (.long r)) S1 S 235 ls [] := by
  intro n
  induction n with
  | zero =>
    intro y1 x4 x5 S ls hl h
    cases (show (none : Option (Int64 × zMem)) = some _ from h)
  | succ n ih =>
    intro y1 x4 x5 S ls hl h
    exact w_X8_digest_b235 C ih hl h
set_option maxRecDepth 20000 in
theorem w_X8_digest_b197 {w : zWd} {X : zX} {l0 : Launch} {r : Int64} {S1 : zMem} (C : zC LC w X l0 cX8_digest RX8 7 5 (some .long)) {k197 : Int64 → Int32 → Int32 → zMem → Option (Int64 × zMem)} (hc197 : ∀ (y1 : Int64) (x4 : Int32) (x5 : Int32) (S : zMem) (ls : Array Slot), lv_has ls 7 [(0, .ref (w.2.2.1 0)), (1, .long y1), (3, .ref (w.2.2.1 1)), (4, .int x4), (5, .int x5)] → k197 y1 x4 x5 S = some (r, S1) → zV LC w X (some (.long r)) S1 S 197 ls []) {y1 : Int64} {x4 : Int32} {x5 : Int32} {S : zMem} {ls : Array Slot} (hl : lv_has ls 7 [(0, .ref (w.2.2.1 0)), (1, .long y1), (3, .ref (w.2.2.1 1)), (4, .int x4), (5, .int x5)]) (h : X8_digest_b197 k197 y1 x4 x5 S = some (r, S1)) : zV LC w X (some (.long r)) S1 S 197 ls [] := by
  unfold X8_digest_b197 at h
  refine v_iload 197 C dX8_digest_197 (lv_at hl 4 rfl) ?_
  refine v_iload 199 C dX8_digest_199 (lv_at hl 3 rfl) ?_
  refine v_icmp_ge 201 223 C dX8_digest_201 (by decide) h (fun h => ?_) (fun h => ?_)
  · refine v_aload_n 223 C dX8_digest_223 rfl (lv_at hl 0 rfl) ?_
    refine v_getr 224 (2) C dX8_digest_224 fl_X8_15 rfl kC_0 rfl ?_
    refine v_astore_n 227 C [(3, .ref (w.2.2.1 2)), (0, .ref (w.2.2.1 0)), (1, .long y1), (4, .int x4), (5, .int x5)] dX8_digest_227 rfl hl (by decide) rfl (fun ls hl => ?_)
    refine v_aload_n 228 C dX8_digest_228 rfl (lv_at hl 0 rfl) ?_
    refine v_rlen 229 C (v := (4 : Int32)) dX8_digest_229 kC_2 (Or.inl rfl) (by decide) ?_
    refine v_istore 230 C [(4, .int (4 : Int32)), (3, .ref (w.2.2.1 2)), (0, .ref (w.2.2.1 0)), (1, .long y1), (5, .int x5)] dX8_digest_230 hl (by decide) rfl (fun ls hl => ?_)
    refine v_iconst 232 C (v := (0 : Int32)) dX8_digest_232 (by decide) ?_
    refine v_istore 233 C [(5, .int (0 : Int32)), (4, .int (4 : Int32)), (3, .ref (w.2.2.1 2)), (0, .ref (w.2.2.1 0)), (1, .long y1)] dX8_digest_233 hl (by decide) rfl (fun ls hl => ?_)
    exact w_X8_digest_l235 C zF _ _ _ _ _ (lv_sub hl [4, 2, 1, 0] rfl) h
  · refine v_aload_n 204 C dX8_digest_204 rfl (lv_at hl 2 rfl) ?_
    refine v_iload 205 C dX8_digest_205 (lv_at hl 4 rfl) ?_
    refine v_aald 207 (4 + 2 * Int32.toNatClampNeg x5) C dX8_digest_207 kC_1 (Or.inl rfl) rfl rfl h (fun hz1 h => ?_)
    refine v_astore 208 C [(6, .ref (w.2.2.1 (4 + 2 * Int32.toNatClampNeg x5))), (0, .ref (w.2.2.1 0)), (1, .long y1), (3, .ref (w.2.2.1 1)), (4, .int x4), (5, .int x5)] dX8_digest_208 hl (by decide) rfl (fun ls hl => ?_)
    refine v_aload 210 C dX8_digest_210 (lv_at hl 0 rfl) ?_
    refine v_lload_n 212 C dX8_digest_212 rfl (lv_at hl 2 rfl) ?_
    obtain ⟨v2, S, hc, h⟩ := zb_e h
    refine v_callVl 213 C (ci := 6) [] dX8_digest_213 ml_X8_340 hy_X7_mixedInto (c_X7_mixedInto (kRow hz1) hc) (by decide) rfl hl.1 (kRow hz1) rfl (Nat.le_of_ble_eq_true rfl) rfl ?_
    refine v_lstore_n 216 C [(1, .long v2), (6, .ref (w.2.2.1 (4 + 2 * Int32.toNatClampNeg x5))), (0, .ref (w.2.2.1 0)), (3, .ref (w.2.2.1 1)), (4, .int x4), (5, .int x5)] dX8_digest_216 rfl hl (by decide) rfl (fun ls hl => ?_)
    refine v_iinc 217 C (nn := (1 : Int32)) (fun v => [(5, .int v), (1, .long v2), (6, .ref (w.2.2.1 (4 + 2 * Int32.toNatClampNeg x5))), (0, .ref (w.2.2.1 0)), (3, .ref (w.2.2.1 1)), (4, .int x4)]) dX8_digest_217 hl (k := 5) rfl (by decide) (by decide) (fun _ => rfl) h (fun v3 ls hl h => ?_)
    refine v_goto 220 197 C dX8_digest_220 (by decide) ?_
    exact hc197 _ _ _ _ _ (lv_sub hl [3, 1, 4, 5, 0] rfl) h
theorem w_X8_digest_l197 {w : zWd} {X : zX} {l0 : Launch} {r : Int64} {S1 : zMem} (C : zC LC w X l0 cX8_digest RX8 7 5 (some .long)) : ∀ (n : Nat) (y1 : Int64) (x4 : Int32) (x5 : Int32) (S : zMem) (ls : Array Slot), lv_has ls 7 [(0, .ref (w.2.2.1 0)), (1, .long y1), (3, .ref (w.2.2.1 1)), (4, .int x4), (5, .int x5)] → X8_digest_l197 n y1 x4 x5 S = some (r, S1) → zV LC w X (some (.long r)) S1 S 197 ls [] := by
  intro n
  induction n with
  | zero =>
    intro y1 x4 x5 S ls hl h
    cases (show (none : Option (Int64 × zMem)) = some _ from h)
  | succ n ih =>
    intro y1 x4 x5 S ls hl h
    exact w_X8_digest_b197 C ih hl h
set_option maxRecDepth 20000 in
theorem w_X8_digest_b141 {w : zWd} {X : zX} {l0 : Launch} {r : Int64} {S1 : zMem} (C : zC LC w X l0 cX8_digest RX8 7 5 (some .long)) {k141 : Int64 → Int32 → Int32 → zMem → Option (Int64 × zMem)} (hc141 : ∀ (y1 : Int64) (x4 : Int32) (x5 : Int32) (S : zMem) (ls : Array Slot), lv_has ls 7 [(0, .ref (w.2.2.1 0)), (1, .long y1), (3, .ref (w.2.2.1 3)), (4, .int x4), (5, .int x5)] → k141 y1 x4 x5 S = some (r, S1) → zV LC w X (some (.long r)) S1 S 141 ls []) {y1 : Int64} {x4 : Int32} {x5 : Int32} {S : zMem} {ls : Array Slot} (hl : lv_has ls 7 [(0, .ref (w.2.2.1 0)), (1, .long y1), (3, .ref (w.2.2.1 3)), (4, .int x4), (5, .int x5)]) (h : X8_digest_b141 k141 y1 x4 x5 S = some (r, S1)) : zV LC w X (some (.long r)) S1 S 141 ls [] := by
  unfold X8_digest_b141 at h
  refine v_iload 141 C dX8_digest_141 (lv_at hl 4 rfl) ?_
  refine v_iload 143 C dX8_digest_143 (lv_at hl 3 rfl) ?_
  refine v_icmp_ge 145 185 C dX8_digest_145 (by decide) h (fun h => ?_) (fun h => ?_)
  · refine v_aload_n 185 C dX8_digest_185 rfl (lv_at hl 0 rfl) ?_
    refine v_getr 186 (1) C dX8_digest_186 fl_X8_11 rfl kC_0 rfl ?_
    refine v_astore_n 189 C [(3, .ref (w.2.2.1 1)), (0, .ref (w.2.2.1 0)), (1, .long y1), (4, .int x4), (5, .int x5)] dX8_digest_189 rfl hl (by decide) rfl (fun ls hl => ?_)
    refine v_aload_n 190 C dX8_digest_190 rfl (lv_at hl 0 rfl) ?_
    refine v_rlen 191 C (v := (6 : Int32)) dX8_digest_191 kC_1 (Or.inl rfl) (by decide) ?_
    refine v_istore 192 C [(4, .int (6 : Int32)), (3, .ref (w.2.2.1 1)), (0, .ref (w.2.2.1 0)), (1, .long y1), (5, .int x5)] dX8_digest_192 hl (by decide) rfl (fun ls hl => ?_)
    refine v_iconst 194 C (v := (0 : Int32)) dX8_digest_194 (by decide) ?_
    refine v_istore 195 C [(5, .int (0 : Int32)), (4, .int (6 : Int32)), (3, .ref (w.2.2.1 1)), (0, .ref (w.2.2.1 0)), (1, .long y1)] dX8_digest_195 hl (by decide) rfl (fun ls hl => ?_)
    exact w_X8_digest_l197 C zF _ _ _ _ _ (lv_sub hl [3, 4, 2, 1, 0] rfl) h
  · refine v_aload_n 148 C dX8_digest_148 rfl (lv_at hl 2 rfl) ?_
    refine v_iload 149 C dX8_digest_149 (lv_at hl 4 rfl) ?_
    refine v_aald 151 (45 + 5 * Int32.toNatClampNeg x5) C dX8_digest_151 kC_3 (Or.inr rfl) rfl rfl h (fun hz1 h => ?_)
    refine v_astore 152 C [(6, .ref (w.2.2.1 (45 + 5 * Int32.toNatClampNeg x5))), (0, .ref (w.2.2.1 0)), (1, .long y1), (3, .ref (w.2.2.1 3)), (4, .int x4), (5, .int x5)] dX8_digest_152 hl (by decide) rfl (fun ls hl => ?_)
    refine v_ldc2 154 C (v := 31) dX8_digest_154 co_X8_335 ?_
    refine v_lload_n 157 C dX8_digest_157 rfl (lv_at hl 2 rfl) ?_
    refine v_lmul 158 C dX8_digest_158 h (fun v2 h => ?_)
    refine v_aload 159 C dX8_digest_159 (lv_at hl 0 rfl) ?_
    refine v_geti 161 C dX8_digest_161 fl_X8_142 rfl (kKpt hz1) h (fun v3 h => ?_)
    refine v_if_eq 164 175 C dX8_digest_164 (by decide) h (fun h => ?_) (fun h => ?_)
    · refine v_iconst 175 C (v := (-1 : Int32)) dX8_digest_175 (by decide) ?_
      exact w_X8_digest_b176 C hc141 (lv_sub hl [1, 3, 4, 5] rfl) h
    · refine v_aload 167 C dX8_digest_167 (lv_at hl 0 rfl) ?_
      refine v_geti 169 C dX8_digest_169 fl_X8_210 rfl (kKpt hz1) h (fun v4 h => ?_)
      refine v_goto 172 176 C dX8_digest_172 (by decide) ?_
      exact w_X8_digest_b176 C hc141 (lv_sub hl [1, 3, 4, 5] rfl) h
theorem w_X8_digest_l141 {w : zWd} {X : zX} {l0 : Launch} {r : Int64} {S1 : zMem} (C : zC LC w X l0 cX8_digest RX8 7 5 (some .long)) : ∀ (n : Nat) (y1 : Int64) (x4 : Int32) (x5 : Int32) (S : zMem) (ls : Array Slot), lv_has ls 7 [(0, .ref (w.2.2.1 0)), (1, .long y1), (3, .ref (w.2.2.1 3)), (4, .int x4), (5, .int x5)] → X8_digest_l141 n y1 x4 x5 S = some (r, S1) → zV LC w X (some (.long r)) S1 S 141 ls [] := by
  intro n
  induction n with
  | zero =>
    intro y1 x4 x5 S ls hl h
    cases (show (none : Option (Int64 × zMem)) = some _ from h)
  | succ n ih =>
    intro y1 x4 x5 S ls hl h
    exact w_X8_digest_b141 C ih hl h
set_option maxRecDepth 20000 in
theorem w_X8_digest_b82 {w : zWd} {X : zX} {l0 : Launch} {r : Int64} {S1 : zMem} (C : zC LC w X l0 cX8_digest RX8 7 5 (some .long)) {k82 : Int64 → Int32 → zMem → Option (Int64 × zMem)} (hc82 : ∀ (y1 : Int64) (x3 : Int32) (S : zMem) (ls : Array Slot), lv_has ls 7 [(0, .ref (w.2.2.1 0)), (1, .long y1), (3, .int x3)] → k82 y1 x3 S = some (r, S1) → zV LC w X (some (.long r)) S1 S 82 ls []) {y1 : Int64} {x3 : Int32} {S : zMem} {ls : Array Slot} (hl : lv_has ls 7 [(0, .ref (w.2.2.1 0)), (1, .long y1), (3, .int x3)]) (h : X8_digest_b82 k82 y1 x3 S = some (r, S1)) : zV LC w X (some (.long r)) S1 S 82 ls [] := by
  unfold X8_digest_b82 at h
  refine v_iload_n 82 C dX8_digest_82 rfl (lv_at hl 2 rfl) ?_
  refine v_aload_n 83 C dX8_digest_83 rfl (lv_at hl 0 rfl) ?_
  refine v_getr 84 (24) C dX8_digest_84 fl_X8_21 rfl kC_0 rfl ?_
  refine v_geti 87 C dX8_digest_87 fl_X8_146 rfl kC_24 h (fun v1 h => ?_)
  refine v_icmp_ge 90 129 C dX8_digest_90 (by decide) h (fun h => ?_) (fun h => ?_)
  · refine v_aload_n 129 C dX8_digest_129 rfl (lv_at hl 0 rfl) ?_
    refine v_getr 130 (3) C dX8_digest_130 fl_X8_44 rfl kC_0 rfl ?_
    refine v_astore_n 133 C [(3, .ref (w.2.2.1 3)), (0, .ref (w.2.2.1 0)), (1, .long y1)] dX8_digest_133 rfl hl (by decide) rfl (fun ls hl => ?_)
    refine v_aload_n 134 C dX8_digest_134 rfl (lv_at hl 0 rfl) ?_
    refine v_rlen 135 C (v := (3 : Int32)) dX8_digest_135 kC_3 (Or.inr rfl) (by decide) ?_
    refine v_istore 136 C [(4, .int (3 : Int32)), (3, .ref (w.2.2.1 3)), (0, .ref (w.2.2.1 0)), (1, .long y1)] dX8_digest_136 hl (by decide) rfl (fun ls hl => ?_)
    refine v_iconst 138 C (v := (0 : Int32)) dX8_digest_138 (by decide) ?_
    refine v_istore 139 C [(5, .int (0 : Int32)), (4, .int (3 : Int32)), (3, .ref (w.2.2.1 3)), (0, .ref (w.2.2.1 0)), (1, .long y1)] dX8_digest_139 hl (by decide) rfl (fun ls hl => ?_)
    exact w_X8_digest_l141 C zF _ _ _ _ _ (lv_sub hl [3, 4, 2, 1, 0] rfl) h
  · refine v_iconst 93 C (v := (0 : Int32)) dX8_digest_93 (by decide) ?_
    refine v_istore 94 C [(4, .int (0 : Int32)), (0, .ref (w.2.2.1 0)), (1, .long y1), (3, .int x3)] dX8_digest_94 hl (by decide) rfl (fun ls hl => ?_)
    exact w_X8_digest_l96 C hc82 zF _ _ _ _ _ (lv_sub hl [1, 2, 3, 0] rfl) h
theorem w_X8_digest_l82 {w : zWd} {X : zX} {l0 : Launch} {r : Int64} {S1 : zMem} (C : zC LC w X l0 cX8_digest RX8 7 5 (some .long)) : ∀ (n : Nat) (y1 : Int64) (x3 : Int32) (S : zMem) (ls : Array Slot), lv_has ls 7 [(0, .ref (w.2.2.1 0)), (1, .long y1), (3, .int x3)] → X8_digest_l82 n y1 x3 S = some (r, S1) → zV LC w X (some (.long r)) S1 S 82 ls [] := by
  intro n
  induction n with
  | zero =>
    intro y1 x3 S ls hl h
    cases (show (none : Option (Int64 × zMem)) = some _ from h)
  | succ n ih =>
    intro y1 x3 S ls hl h
    exact w_X8_digest_b82 C ih hl h
set_option maxRecDepth 20000 in
theorem w_X8_digest_b33 {w : zWd} {X : zX} {l0 : Launch} {r : Int64} {S1 : zMem} (C : zC LC w X l0 cX8_digest RX8 7 5 (some .long)) {k33 : Int64 → Int32 → zMem → Option (Int64 × zMem)} (hc33 : ∀ (y1 : Int64) (x3 : Int32) (S : zMem) (ls : Array Slot), lv_has ls 7 [(0, .ref (w.2.2.1 0)), (1, .long y1), (3, .int x3)] → k33 y1 x3 S = some (r, S1) → zV LC w X (some (.long r)) S1 S 33 ls []) {y1 : Int64} {x3 : Int32} {S : zMem} {ls : Array Slot} (hl : lv_has ls 7 [(0, .ref (w.2.2.1 0)), (1, .long y1), (3, .int x3)]) (h : X8_digest_b33 k33 y1 x3 S = some (r, S1)) : zV LC w X (some (.long r)) S1 S 33 ls [] := by
  unfold X8_digest_b33 at h
  refine v_iload_n 33 C dX8_digest_33 rfl (lv_at hl 2 rfl) ?_
  refine v_aload_n 34 C dX8_digest_34 rfl (lv_at hl 0 rfl) ?_
  refine v_getr 35 (24) C dX8_digest_35 fl_X8_21 rfl kC_0 rfl ?_
  refine v_geti 38 C dX8_digest_38 fl_X8_337 rfl kC_24 h (fun v1 h => ?_)
  refine v_icmp_ge 41 80 C dX8_digest_41 (by decide) h (fun h => ?_) (fun h => ?_)
  · refine v_iconst 80 C (v := (0 : Int32)) dX8_digest_80 (by decide) ?_
    refine v_istore_n 81 C [(3, .int (0 : Int32)), (0, .ref (w.2.2.1 0)), (1, .long y1)] dX8_digest_81 rfl hl (by decide) rfl (fun ls hl => ?_)
    exact w_X8_digest_l82 C zF _ _ _ _ (lv_sub hl [1, 2, 0] rfl) h
  · refine v_iconst 44 C (v := (0 : Int32)) dX8_digest_44 (by decide) ?_
    refine v_istore 45 C [(4, .int (0 : Int32)), (0, .ref (w.2.2.1 0)), (1, .long y1), (3, .int x3)] dX8_digest_45 hl (by decide) rfl (fun ls hl => ?_)
    exact w_X8_digest_l47 C hc33 zF _ _ _ _ _ (lv_sub hl [1, 2, 3, 0] rfl) h
theorem w_X8_digest_l33 {w : zWd} {X : zX} {l0 : Launch} {r : Int64} {S1 : zMem} (C : zC LC w X l0 cX8_digest RX8 7 5 (some .long)) : ∀ (n : Nat) (y1 : Int64) (x3 : Int32) (S : zMem) (ls : Array Slot), lv_has ls 7 [(0, .ref (w.2.2.1 0)), (1, .long y1), (3, .int x3)] → X8_digest_l33 n y1 x3 S = some (r, S1) → zV LC w X (some (.long r)) S1 S 33 ls [] := by
  intro n
  induction n with
  | zero =>
    intro y1 x3 S ls hl h
    cases (show (none : Option (Int64 × zMem)) = some _ from h)
  | succ n ih =>
    intro y1 x3 S ls hl h
    exact w_X8_digest_b33 C ih hl h
set_option maxRecDepth 20000 in
theorem w_X8_digest_b6 {w : zWd} {X : zX} {l0 : Launch} {r : Int64} {S1 : zMem} (C : zC LC w X l0 cX8_digest RX8 7 5 (some .long)) {k6 : Int64 → Int32 → zMem → Option (Int64 × zMem)} (hc6 : ∀ (y1 : Int64) (x3 : Int32) (S : zMem) (ls : Array Slot), lv_has ls 7 [(0, .ref (w.2.2.1 0)), (1, .long y1), (3, .int x3)] → k6 y1 x3 S = some (r, S1) → zV LC w X (some (.long r)) S1 S 6 ls []) {y1 : Int64} {x3 : Int32} {S : zMem} {ls : Array Slot} (hl : lv_has ls 7 [(0, .ref (w.2.2.1 0)), (1, .long y1), (3, .int x3)]) (h : X8_digest_b6 k6 y1 x3 S = some (r, S1)) : zV LC w X (some (.long r)) S1 S 6 ls [] := by
  unfold X8_digest_b6 at h
  refine v_iload_n 6 C dX8_digest_6 rfl (lv_at hl 2 rfl) ?_
  refine v_bipush 7 C (v := (14 : Int32)) dX8_digest_7 (by decide) ?_
  refine v_icmp_ge 9 31 C dX8_digest_9 (by decide) h (fun h => ?_) (fun h => ?_)
  · refine v_iconst 31 C (v := (0 : Int32)) dX8_digest_31 (by decide) ?_
    refine v_istore_n 32 C [(3, .int (0 : Int32)), (0, .ref (w.2.2.1 0)), (1, .long y1)] dX8_digest_32 rfl hl (by decide) rfl (fun ls hl => ?_)
    exact w_X8_digest_l33 C zF _ _ _ _ (lv_sub hl [1, 2, 0] rfl) h
  · refine v_ldc2 12 C (v := 31) dX8_digest_12 co_X8_335 ?_
    refine v_lload_n 15 C dX8_digest_15 rfl (lv_at hl 1 rfl) ?_
    refine v_lmul 16 C dX8_digest_16 h (fun v1 h => ?_)
    refine v_aload_n 17 C dX8_digest_17 rfl (lv_at hl 0 rfl) ?_
    refine v_iload_n 18 C dX8_digest_18 rfl (lv_at hl 2 rfl) ?_
    obtain ⟨v2, S, hc, h⟩ := zb_e h
    refine v_callVi 19 C (ci := 7) [.long v1] dX8_digest_19 ml_X8_327 hy_X8_countOf (c_X8_countOf  hc) (by decide) rfl hl.1 kC_0 rfl (Nat.le_of_ble_eq_true rfl) rfl ?_
    refine v_i2l 22 C dX8_digest_22 h (fun v3 h => ?_)
    refine v_ladd 23 C dX8_digest_23 h (fun v4 h => ?_)
    refine v_lstore_n 24 C [(1, .long v4), (0, .ref (w.2.2.1 0)), (3, .int x3)] dX8_digest_24 rfl hl (by decide) rfl (fun ls hl => ?_)
    refine v_iinc 25 C (nn := (1 : Int32)) (fun v => [(3, .int v), (1, .long v4), (0, .ref (w.2.2.1 0))]) dX8_digest_25 hl (k := 2) rfl (by decide) (by decide) (fun _ => rfl) h (fun v5 ls hl h => ?_)
    refine v_goto 28 6 C dX8_digest_28 (by decide) ?_
    exact hc6 _ _ _ _ (lv_sub hl [2, 1, 0] rfl) h
theorem w_X8_digest_l6 {w : zWd} {X : zX} {l0 : Launch} {r : Int64} {S1 : zMem} (C : zC LC w X l0 cX8_digest RX8 7 5 (some .long)) : ∀ (n : Nat) (y1 : Int64) (x3 : Int32) (S : zMem) (ls : Array Slot), lv_has ls 7 [(0, .ref (w.2.2.1 0)), (1, .long y1), (3, .int x3)] → X8_digest_l6 n y1 x3 S = some (r, S1) → zV LC w X (some (.long r)) S1 S 6 ls [] := by
  intro n
  induction n with
  | zero =>
    intro y1 x3 S ls hl h
    cases (show (none : Option (Int64 × zMem)) = some _ from h)
  | succ n ih =>
    intro y1 x3 S ls hl h
    exact w_X8_digest_b6 C ih hl h
set_option maxRecDepth 20000 in
theorem w_X8_digest_b0 {w : zWd} {X : zX} {l0 : Launch} {r : Int64} {S1 : zMem} (C : zC LC w X l0 cX8_digest RX8 7 5 (some .long)) {S : zMem} {ls : Array Slot} (hl : lv_has ls 7 [(0, .ref (w.2.2.1 0))]) (h : X8_digest_b0  S = some (r, S1)) : zV LC w X (some (.long r)) S1 S 0 ls [] := by
  unfold X8_digest_b0 at h
  refine v_ldc2 0 C (v := 17) dX8_digest_0 co_X8_333 ?_
  refine v_lstore_n 3 C [(1, .long (17 : Int64)), (0, .ref (w.2.2.1 0))] dX8_digest_3 rfl hl (by decide) rfl (fun ls hl => ?_)
  refine v_iconst 4 C (v := (0 : Int32)) dX8_digest_4 (by decide) ?_
  refine v_istore_n 5 C [(3, .int (0 : Int32)), (1, .long (17 : Int64)), (0, .ref (w.2.2.1 0))] dX8_digest_5 rfl hl (by decide) rfl (fun ls hl => ?_)
  exact w_X8_digest_l6 C zF _ _ _ _ (lv_sub hl [2, 1, 0] rfl) h
theorem c_X8_digest {w : zWd} {l0 : Launch} {S S1 : zMem} {r : Int64} (h : f_X8_digest  S = some (r, S1)) : zMet LC w l0 yX8_digest cX8_digest 7 (some .long) 5 [.ref (w.2.2.1 0)] S (some (.long r)) S1 :=
  zMet_of (by decide +kernel) (Nat.le_of_ble_eq_true rfl) (fun X ls C hl => w_X8_digest_b0 C hl h)
theorem dX9_in_0 : decode cX9_in 0 = .ok (.lload_n 0, 1) := by decide +kernel
theorem dX9_in_1 : decode cX9_in 1 = .ok (.lload_n 2, 1) := by decide +kernel
theorem dX9_in_2 : decode cX9_in 2 = .ok (.lcmp, 1) := by decide +kernel
theorem dX9_in_3 : decode cX9_in 3 = .ok (.ifCond .lt 14, 3) := by decide +kernel
theorem dX9_in_6 : decode cX9_in 6 = .ok (.lload_n 0, 1) := by decide +kernel
theorem dX9_in_7 : decode cX9_in 7 = .ok (.lload 4, 2) := by decide +kernel
theorem dX9_in_9 : decode cX9_in 9 = .ok (.lcmp, 1) := by decide +kernel
theorem dX9_in_10 : decode cX9_in 10 = .ok (.ifCond .gt 7, 3) := by decide +kernel
theorem dX9_in_13 : decode cX9_in 13 = .ok (.iconst 1, 1) := by decide +kernel
theorem dX9_in_14 : decode cX9_in 14 = .ok (.goto 4, 3) := by decide +kernel
theorem dX9_in_17 : decode cX9_in 17 = .ok (.iconst 0, 1) := by decide +kernel
theorem dX9_in_18 : decode cX9_in 18 = .ok (.ireturn, 1) := by decide +kernel
set_option maxRecDepth 20000 in
theorem w_X9_in_b18 {w : zWd} {X : zX} {l0 : Launch} {r : Int32} {S1 : zMem} (C : zC LM w X l0 cX9_in RX9 6 1 (some .boolean)) {s0 : Int32} {S : zMem} {ls : Array Slot} (hl : lv_has ls 6 []) (h : X9_in_b18 s0 S = some (r, S1)) : zV LM w X (some (.int r)) S1 S 18 ls [.int s0] := by
  unfold X9_in_b18 at h
  exact v_zreturn 18 C dX9_in_18 h
set_option maxRecDepth 20000 in
theorem w_X9_in_b17 {w : zWd} {X : zX} {l0 : Launch} {r : Int32} {S1 : zMem} (C : zC LM w X l0 cX9_in RX9 6 1 (some .boolean)) {S : zMem} {ls : Array Slot} (hl : lv_has ls 6 []) (h : X9_in_b17  S = some (r, S1)) : zV LM w X (some (.int r)) S1 S 17 ls [] := by
  unfold X9_in_b17 at h
  refine v_iconst 17 C (v := (0 : Int32)) dX9_in_17 (by decide) ?_
  exact w_X9_in_b18 C (lv_sub hl [] rfl) h
set_option maxRecDepth 20000 in
theorem w_X9_in_b0 {w : zWd} {X : zX} {l0 : Launch} {r : Int32} {S1 : zMem} (C : zC LM w X l0 cX9_in RX9 6 1 (some .boolean)) {y0 : Int64} {y2 : Int64} {y4 : Int64} {S : zMem} {ls : Array Slot} (hl : lv_has ls 6 [(0, .long y0), (2, .long y2), (4, .long y4)]) (h : X9_in_b0 y0 y2 y4 S = some (r, S1)) : zV LM w X (some (.int r)) S1 S 0 ls [] := by
  unfold X9_in_b0 at h
  refine v_lload_n 0 C dX9_in_0 rfl (lv_at hl 0 rfl) ?_
  refine v_lload_n 1 C dX9_in_1 rfl (lv_at hl 1 rfl) ?_
  refine v_lcmp 2 C dX9_in_2 h (fun v1 h => ?_)
  refine v_if_lt 3 17 C dX9_in_3 (by decide) h (fun h => ?_) (fun h => ?_)
  · exact w_X9_in_b17 C (lv_sub hl [] rfl) h
  · refine v_lload_n 6 C dX9_in_6 rfl (lv_at hl 0 rfl) ?_
    refine v_lload 7 C dX9_in_7 (lv_at hl 2 rfl) ?_
    refine v_lcmp 9 C dX9_in_9 h (fun v2 h => ?_)
    refine v_if_gt 10 17 C dX9_in_10 (by decide) h (fun h => ?_) (fun h => ?_)
    · exact w_X9_in_b17 C (lv_sub hl [] rfl) h
    · refine v_iconst 13 C (v := (1 : Int32)) dX9_in_13 (by decide) ?_
      refine v_goto 14 18 C dX9_in_14 (by decide) ?_
      exact w_X9_in_b18 C (lv_sub hl [] rfl) h
theorem c_X9_in {w : zWd} {l0 : Launch} {y0 : Int64} {y2 : Int64} {y4 : Int64} {S S1 : zMem} {r : Int32} (h : f_X9_in y0 y2 y4 S = some (r, S1)) : zMet LM w l0 yX9_in cX9_in 6 (some .boolean) 1 [.long y0, .long y2, .long y4] S (some (.int r)) S1 :=
  zMet_of (by decide +kernel) (Nat.le_of_ble_eq_true rfl) (fun X ls C hl => w_X9_in_b0 C hl h)
theorem co_X9_63 : Cond.constantLong RX9 63 5 ∈ zT := zT_of (List.mem_of_getElem? (i := 959) (by decide +kernel)) rfl
theorem ml_X9_65 : Cond.methodLink RX9 65 yX9_in ∈ zT := zT_of (List.mem_of_getElem? (i := 960) (by decide +kernel)) rfl
theorem hy_X9_in : zYs yX9_in cX9_in 6 (some .boolean) 3 := ⟨⟨zT_of (List.mem_of_getElem? (i := 962) (by decide +kernel)) rfl, zT_of (List.mem_of_getElem? (i := 78) (by decide +kernel)) rfl, by decide, by decide +kernel, by decide +kernel, by decide +kernel⟩, zT_of (List.mem_of_getElem? (i := 961) (by decide +kernel)) rfl⟩
theorem dX9_isRow_0 : decode cX9_isRow 0 = .ok (.iload_n 0, 1) := by decide +kernel
theorem dX9_isRow_1 : decode cX9_isRow 1 = .ok (.i2l, 1) := by decide +kernel
theorem dX9_isRow_2 : decode cX9_isRow 2 = .ok (.lconst 0, 1) := by decide +kernel
theorem dX9_isRow_3 : decode cX9_isRow 3 = .ok (.ldc2_w 63, 3) := by decide +kernel
theorem dX9_isRow_6 : decode cX9_isRow 6 = .ok (.invokestatic 65, 3) := by decide +kernel
theorem dX9_isRow_9 : decode cX9_isRow 9 = .ok (.ireturn, 1) := by decide +kernel
set_option maxRecDepth 20000 in
theorem w_X9_isRow_b0 {w : zWd} {X : zX} {l0 : Launch} {r : Int32} {S1 : zMem} (C : zC LM w X l0 cX9_isRow RX9 1 2 (some .boolean)) {x0 : Int32} {S : zMem} {ls : Array Slot} (hl : lv_has ls 1 [(0, .int x0)]) (h : X9_isRow_b0 x0 S = some (r, S1)) : zV LM w X (some (.int r)) S1 S 0 ls [] := by
  unfold X9_isRow_b0 at h
  refine v_iload_n 0 C dX9_isRow_0 rfl (lv_at hl 0 rfl) ?_
  refine v_i2l 1 C dX9_isRow_1 h (fun v1 h => ?_)
  refine v_lconst 2 C (v := 0) dX9_isRow_2 (by decide) ?_
  refine v_ldc2 3 C (v := 5) dX9_isRow_3 co_X9_63 ?_
  obtain ⟨v2, S, hc, h⟩ := zb_e h
  refine v_callSi 6 C [] dX9_isRow_6 ml_X9_65 hy_X9_in (c_X9_in  hc) (by decide) rfl hl.1 (Nat.le_of_ble_eq_true rfl) rfl ?_
  exact v_zreturn 9 C dX9_isRow_9 h
theorem c_X9_isRow {w : zWd} {l0 : Launch} {x0 : Int32} {S S1 : zMem} {r : Int32} (h : f_X9_isRow x0 S = some (r, S1)) : zMet LM w l0 yX9_isRow cX9_isRow 1 (some .boolean) 2 [.int x0] S (some (.int r)) S1 :=
  zMet_of (by decide +kernel) (Nat.le_of_ble_eq_true rfl) (fun X ls C hl => w_X9_isRow_b0 C hl h)
theorem fl_X9_56 : zFL RX9 56 8 13 := ⟨_, rfl, by decide, zT_of (List.mem_of_getElem? (i := 883) (by decide +kernel)) rfl⟩
theorem fp_8_13 : zFP 8 13 .int := fun q h => by cases h; exact ⟨rfl, by decide +kernel⟩
theorem fl_X9_38 : zFL RX9 38 8 14 := ⟨_, rfl, by decide, zT_of (List.mem_of_getElem? (i := 884) (by decide +kernel)) rfl⟩
theorem dX9_find_0 : decode cX9_find 0 = .ok (.aload_n 0, 1) := by decide +kernel
theorem dX9_find_1 : decode cX9_find 1 = .ok (.iload_n 1, 1) := by decide +kernel
theorem dX9_find_2 : decode cX9_find 2 = .ok (.putfield 56, 3) := by decide +kernel
theorem dX9_find_5 : decode cX9_find 5 = .ok (.aload_n 0, 1) := by decide +kernel
theorem dX9_find_6 : decode cX9_find 6 = .ok (.getfield 38, 3) := by decide +kernel
theorem dX9_find_9 : decode cX9_find 9 = .ok (.iload_n 1, 1) := by decide +kernel
theorem dX9_find_10 : decode cX9_find 10 = .ok (.dup2, 1) := by decide +kernel
theorem dX9_find_11 : decode cX9_find 11 = .ok (.iaload, 1) := by decide +kernel
theorem dX9_find_12 : decode cX9_find 12 = .ok (.iconst 1, 1) := by decide +kernel
theorem dX9_find_13 : decode cX9_find 13 = .ok (.iadd, 1) := by decide +kernel
theorem dX9_find_14 : decode cX9_find 14 = .ok (.iastore, 1) := by decide +kernel
theorem dX9_find_15 : decode cX9_find 15 = .ok (.bipush (-3), 2) := by decide +kernel
theorem dX9_find_17 : decode cX9_find 17 = .ok (.ireturn, 1) := by decide +kernel
set_option maxRecDepth 20000 in
theorem w_X9_find_b0 {w : zWd} {X : zX} {l0 : Launch} {r : Int32} {S1 : zMem} (C : zC LM w X l0 cX9_find RX9 2 1 (some .int)) {x1 : Int32} {S : zMem} {ls : Array Slot} (hl : lv_has ls 2 [(0, .ref (w.2.2.1 0)), (1, .int x1)]) (h : X9_find_b0 x1 S = some (r, S1)) : zV LM w X (some (.int r)) S1 S 0 ls [] := by
  unfold X9_find_b0 at h
  refine v_aload_n 0 C dX9_find_0 rfl (lv_at hl 0 rfl) ?_
  refine v_iload_n 1 C dX9_find_1 rfl (lv_at hl 1 rfl) ?_
  refine v_puti 2 C dX9_find_2 fl_X9_56 fp_8_13 rfl kM_0 h (fun S h => ?_)
  refine v_aload_n 5 C dX9_find_5 rfl (lv_at hl 0 rfl) ?_
  refine v_getr 6 (9) C dX9_find_6 fl_X9_38 rfl kM_0 rfl ?_
  refine v_iload_n 9 C dX9_find_9 rfl (lv_at hl 1 rfl) ?_
  refine v_dup2 10 C dX9_find_10 rfl rfl ?_
  refine v_iald 11 C dX9_find_11 kM_9 rfl h (fun v1 h => ?_)
  refine v_iconst 12 C (v := (1 : Int32)) dX9_find_12 (by decide) ?_
  refine v_iadd 13 C dX9_find_13 h (fun v2 h => ?_)
  refine v_iast 14 C dX9_find_14 kM_9 rfl h (fun S h => ?_)
  refine v_bipush 15 C (v := (-3 : Int32)) dX9_find_15 (by decide) ?_
  exact v_ireturn 17 C dX9_find_17 h
theorem c_X9_find {w : zWd} {l0 : Launch} {x1 : Int32} {S S1 : zMem} {r : Int32} (h : f_X9_find x1 S = some (r, S1)) : zMet LM w l0 yX9_find cX9_find 2 (some .int) 1 [.ref (w.2.2.1 0), .int x1] S (some (.int r)) S1 :=
  zMet_of (by decide +kernel) (Nat.le_of_ble_eq_true rfl) (fun X ls C hl => w_X9_find_b0 C hl h)
theorem fl_X9_25 : zFL RX9 25 8 7 := ⟨_, rfl, by decide, zT_of (List.mem_of_getElem? (i := 877) (by decide +kernel)) rfl⟩
theorem fl_X9_22 : zFL RX9 22 8 6 := ⟨_, rfl, by decide, zT_of (List.mem_of_getElem? (i := 876) (by decide +kernel)) rfl⟩
theorem dX9_makeRow_0 : decode cX9_makeRow 0 = .ok (.aload_n 0, 1) := by decide +kernel
theorem dX9_makeRow_1 : decode cX9_makeRow 1 = .ok (.getfield 22, 3) := by decide +kernel
theorem dX9_makeRow_4 : decode cX9_makeRow 4 = .ok (.iload_n 1, 1) := by decide +kernel
theorem dX9_makeRow_5 : decode cX9_makeRow 5 = .ok (.iload_n 2, 1) := by decide +kernel
theorem dX9_makeRow_6 : decode cX9_makeRow 6 = .ok (.iastore, 1) := by decide +kernel
theorem dX9_makeRow_7 : decode cX9_makeRow 7 = .ok (.iconst 0, 1) := by decide +kernel
theorem dX9_makeRow_8 : decode cX9_makeRow 8 = .ok (.istore_n 3, 1) := by decide +kernel
theorem dX9_makeRow_9 : decode cX9_makeRow 9 = .ok (.iload_n 3, 1) := by decide +kernel
theorem dX9_makeRow_10 : decode cX9_makeRow 10 = .ok (.bipush 40, 2) := by decide +kernel
theorem dX9_makeRow_12 : decode cX9_makeRow 12 = .ok (.if_icmp .ge 21, 3) := by decide +kernel
theorem dX9_makeRow_15 : decode cX9_makeRow 15 = .ok (.aload_n 0, 1) := by decide +kernel
theorem dX9_makeRow_16 : decode cX9_makeRow 16 = .ok (.getfield 25, 3) := by decide +kernel
theorem dX9_makeRow_19 : decode cX9_makeRow 19 = .ok (.bipush 40, 2) := by decide +kernel
theorem dX9_makeRow_21 : decode cX9_makeRow 21 = .ok (.iload_n 1, 1) := by decide +kernel
theorem dX9_makeRow_22 : decode cX9_makeRow 22 = .ok (.imul, 1) := by decide +kernel
theorem dX9_makeRow_23 : decode cX9_makeRow 23 = .ok (.iload_n 3, 1) := by decide +kernel
theorem dX9_makeRow_24 : decode cX9_makeRow 24 = .ok (.iadd, 1) := by decide +kernel
theorem dX9_makeRow_25 : decode cX9_makeRow 25 = .ok (.iconst 0, 1) := by decide +kernel
theorem dX9_makeRow_26 : decode cX9_makeRow 26 = .ok (.iastore, 1) := by decide +kernel
theorem dX9_makeRow_27 : decode cX9_makeRow 27 = .ok (.iinc 3 1, 3) := by decide +kernel
theorem dX9_makeRow_30 : decode cX9_makeRow 30 = .ok (.goto (-21), 3) := by decide +kernel
theorem dX9_makeRow_33 : decode cX9_makeRow 33 = .ok (.return_, 1) := by decide +kernel
set_option maxRecDepth 20000 in
theorem w_X9_makeRow_b9 {w : zWd} {X : zX} {l0 : Launch} {r : Unit} {S1 : zMem} (C : zC LM w X l0 cX9_makeRow RX9 4 1 none) {k9 : Int32 → Int32 → zMem → Option (Unit × zMem)} (hc9 : ∀ (x1 : Int32) (x3 : Int32) (S : zMem) (ls : Array Slot), lv_has ls 4 [(0, .ref (w.2.2.1 0)), (1, .int x1), (3, .int x3)] → k9 x1 x3 S = some (r, S1) → zV LM w X none S1 S 9 ls []) {x1 : Int32} {x3 : Int32} {S : zMem} {ls : Array Slot} (hl : lv_has ls 4 [(0, .ref (w.2.2.1 0)), (1, .int x1), (3, .int x3)]) (h : X9_makeRow_b9 k9 x1 x3 S = some (r, S1)) : zV LM w X none S1 S 9 ls [] := by
  unfold X9_makeRow_b9 at h
  refine v_iload_n 9 C dX9_makeRow_9 rfl (lv_at hl 2 rfl) ?_
  refine v_bipush 10 C (v := (40 : Int32)) dX9_makeRow_10 (by decide) ?_
  refine v_icmp_ge 12 33 C dX9_makeRow_12 (by decide) h (fun h => ?_) (fun h => ?_)
  · exact v_return 33 C dX9_makeRow_33 h
  · refine v_aload_n 15 C dX9_makeRow_15 rfl (lv_at hl 0 rfl) ?_
    refine v_getr 16 (6) C dX9_makeRow_16 fl_X9_25 rfl kM_0 rfl ?_
    refine v_bipush 19 C (v := (40 : Int32)) dX9_makeRow_19 (by decide) ?_
    refine v_iload_n 21 C dX9_makeRow_21 rfl (lv_at hl 1 rfl) ?_
    refine v_imul 22 C dX9_makeRow_22 h (fun v1 h => ?_)
    refine v_iload_n 23 C dX9_makeRow_23 rfl (lv_at hl 2 rfl) ?_
    refine v_iadd 24 C dX9_makeRow_24 h (fun v2 h => ?_)
    refine v_iconst 25 C (v := (0 : Int32)) dX9_makeRow_25 (by decide) ?_
    refine v_iast 26 C dX9_makeRow_26 kM_6 rfl h (fun S h => ?_)
    refine v_iinc 27 C (nn := (1 : Int32)) (fun v => [(3, .int v), (0, .ref (w.2.2.1 0)), (1, .int x1)]) dX9_makeRow_27 hl (k := 2) rfl (by decide) (by decide) (fun _ => rfl) h (fun v3 ls hl h => ?_)
    refine v_goto 30 9 C dX9_makeRow_30 (by decide) ?_
    exact hc9 _ _ _ _ (lv_sub hl [1, 2, 0] rfl) h
theorem w_X9_makeRow_l9 {w : zWd} {X : zX} {l0 : Launch} {r : Unit} {S1 : zMem} (C : zC LM w X l0 cX9_makeRow RX9 4 1 none) : ∀ (n : Nat) (x1 : Int32) (x3 : Int32) (S : zMem) (ls : Array Slot), lv_has ls 4 [(0, .ref (w.2.2.1 0)), (1, .int x1), (3, .int x3)] → X9_makeRow_l9 n x1 x3 S = some (r, S1) → zV LM w X none S1 S 9 ls [] := by
  intro n
  induction n with
  | zero =>
    intro x1 x3 S ls hl h
    cases (show (none : Option (Unit × zMem)) = some _ from h)
  | succ n ih =>
    intro x1 x3 S ls hl h
    exact w_X9_makeRow_b9 C ih hl h
set_option maxRecDepth 20000 in
theorem w_X9_makeRow_b0 {w : zWd} {X : zX} {l0 : Launch} {r : Unit} {S1 : zMem} (C : zC LM w X l0 cX9_makeRow RX9 4 1 none) {x1 : Int32} {x2 : Int32} {S : zMem} {ls : Array Slot} (hl : lv_has ls 4 [(0, .ref (w.2.2.1 0)), (1, .int x1), (2, .int x2)]) (h : X9_makeRow_b0 x1 x2 S = some (r, S1)) : zV LM w X none S1 S 0 ls [] := by
  unfold X9_makeRow_b0 at h
  refine v_aload_n 0 C dX9_makeRow_0 rfl (lv_at hl 0 rfl) ?_
  refine v_getr 1 (5) C dX9_makeRow_1 fl_X9_22 rfl kM_0 rfl ?_
  refine v_iload_n 4 C dX9_makeRow_4 rfl (lv_at hl 1 rfl) ?_
  refine v_iload_n 5 C dX9_makeRow_5 rfl (lv_at hl 2 rfl) ?_
  refine v_iast 6 C dX9_makeRow_6 kM_5 rfl h (fun S h => ?_)
  refine v_iconst 7 C (v := (0 : Int32)) dX9_makeRow_7 (by decide) ?_
  refine v_istore_n 8 C [(3, .int (0 : Int32)), (0, .ref (w.2.2.1 0)), (1, .int x1), (2, .int x2)] dX9_makeRow_8 rfl hl (by decide) rfl (fun ls hl => ?_)
  exact w_X9_makeRow_l9 C zF _ _ _ _ (lv_sub hl [1, 2, 0] rfl) h
theorem c_X9_makeRow {w : zWd} {l0 : Launch} {x1 : Int32} {x2 : Int32} {S S1 : zMem} {r : Unit} (h : f_X9_makeRow x1 x2 S = some (r, S1)) : zMet LM w l0 yX9_makeRow cX9_makeRow 4 none 1 [.ref (w.2.2.1 0), .int x1, .int x2] S none S1 :=
  zMet_of (by decide +kernel) (Nat.le_of_ble_eq_true rfl) (fun X ls C hl => w_X9_makeRow_b0 C hl h)
theorem ml_X9_71 : Cond.methodLink RX9 71 yX9_isRow ∈ zT := zT_of (List.mem_of_getElem? (i := 956) (by decide +kernel)) rfl
theorem hy_X9_isRow : zYs yX9_isRow cX9_isRow 1 (some .boolean) 1 := ⟨⟨zT_of (List.mem_of_getElem? (i := 958) (by decide +kernel)) rfl, zT_of (List.mem_of_getElem? (i := 78) (by decide +kernel)) rfl, by decide, by decide +kernel, by decide +kernel, by decide +kernel⟩, zT_of (List.mem_of_getElem? (i := 957) (by decide +kernel)) rfl⟩
theorem ml_X9_79 : Cond.methodLink RX9 79 yX9_makeRow ∈ zT := zT_of (List.mem_of_getElem? (i := 967) (by decide +kernel)) rfl
theorem hy_X9_makeRow : zYv yX9_makeRow cX9_makeRow 4 none 2 := ⟨⟨zT_of (List.mem_of_getElem? (i := 970) (by decide +kernel)) rfl, zT_of (List.mem_of_getElem? (i := 78) (by decide +kernel)) rfl, by decide, by decide +kernel, by decide +kernel, by decide +kernel⟩, zT_of (List.mem_of_getElem? (i := 969) (by decide +kernel)) rfl, zT_of (List.mem_of_getElem? (i := 22) (by decide +kernel)) rfl⟩
theorem ml_X9_75 : Cond.methodLink RX9 75 yX9_find ∈ zT := zT_of (List.mem_of_getElem? (i := 963) (by decide +kernel)) rfl
theorem hy_X9_find : zYv yX9_find cX9_find 2 (some .int) 1 := ⟨⟨zT_of (List.mem_of_getElem? (i := 966) (by decide +kernel)) rfl, zT_of (List.mem_of_getElem? (i := 78) (by decide +kernel)) rfl, by decide, by decide +kernel, by decide +kernel, by decide +kernel⟩, zT_of (List.mem_of_getElem? (i := 965) (by decide +kernel)) rfl, zT_of (List.mem_of_getElem? (i := 21) (by decide +kernel)) rfl⟩
theorem dX9_row_0 : decode cX9_row 0 = .ok (.iload_n 1, 1) := by decide +kernel
theorem dX9_row_1 : decode cX9_row 1 = .ok (.invokestatic 71, 3) := by decide +kernel
theorem dX9_row_4 : decode cX9_row 4 = .ok (.ifCond .eq 9, 3) := by decide +kernel
theorem dX9_row_7 : decode cX9_row 7 = .ok (.iload_n 2, 1) := by decide +kernel
theorem dX9_row_8 : decode cX9_row 8 = .ok (.bipush 40, 2) := by decide +kernel
theorem dX9_row_10 : decode cX9_row 10 = .ok (.if_icmp .le 5, 3) := by decide +kernel
theorem dX9_row_13 : decode cX9_row 13 = .ok (.iconst (-1), 1) := by decide +kernel
theorem dX9_row_14 : decode cX9_row 14 = .ok (.ireturn, 1) := by decide +kernel
theorem dX9_row_15 : decode cX9_row 15 = .ok (.iload_n 2, 1) := by decide +kernel
theorem dX9_row_16 : decode cX9_row 16 = .ok (.ifCond .ge 9, 3) := by decide +kernel
theorem dX9_row_19 : decode cX9_row 19 = .ok (.aload_n 0, 1) := by decide +kernel
theorem dX9_row_20 : decode cX9_row 20 = .ok (.iconst 5, 1) := by decide +kernel
theorem dX9_row_21 : decode cX9_row 21 = .ok (.invokevirtual 75, 3) := by decide +kernel
theorem dX9_row_24 : decode cX9_row 24 = .ok (.ireturn, 1) := by decide +kernel
theorem dX9_row_25 : decode cX9_row 25 = .ok (.aload_n 0, 1) := by decide +kernel
theorem dX9_row_26 : decode cX9_row 26 = .ok (.iload_n 1, 1) := by decide +kernel
theorem dX9_row_27 : decode cX9_row 27 = .ok (.iload_n 2, 1) := by decide +kernel
theorem dX9_row_28 : decode cX9_row 28 = .ok (.invokevirtual 79, 3) := by decide +kernel
theorem dX9_row_31 : decode cX9_row 31 = .ok (.iload_n 2, 1) := by decide +kernel
theorem dX9_row_32 : decode cX9_row 32 = .ok (.ireturn, 1) := by decide +kernel
set_option maxRecDepth 20000 in
theorem w_X9_row_b13 {w : zWd} {X : zX} {l0 : Launch} {r : Int32} {S1 : zMem} (C : zC LM w X l0 cX9_row RX9 3 3 (some .int)) {S : zMem} {ls : Array Slot} (hl : lv_has ls 3 []) (h : X9_row_b13  S = some (r, S1)) : zV LM w X (some (.int r)) S1 S 13 ls [] := by
  unfold X9_row_b13 at h
  refine v_iconst 13 C (v := (-1 : Int32)) dX9_row_13 (by decide) ?_
  exact v_ireturn 14 C dX9_row_14 h
set_option maxRecDepth 20000 in
theorem w_X9_row_b0 {w : zWd} {X : zX} {l0 : Launch} {r : Int32} {S1 : zMem} (C : zC LM w X l0 cX9_row RX9 3 3 (some .int)) {x1 : Int32} {x2 : Int32} {S : zMem} {ls : Array Slot} (hl : lv_has ls 3 [(0, .ref (w.2.2.1 0)), (1, .int x1), (2, .int x2)]) (h : X9_row_b0 x1 x2 S = some (r, S1)) : zV LM w X (some (.int r)) S1 S 0 ls [] := by
  unfold X9_row_b0 at h
  refine v_iload_n 0 C dX9_row_0 rfl (lv_at hl 1 rfl) ?_
  obtain ⟨v1, S, hc, h⟩ := zb_e h
  refine v_callSi 1 C [] dX9_row_1 ml_X9_71 hy_X9_isRow (c_X9_isRow  hc) (by decide) rfl hl.1 (Nat.le_of_ble_eq_true rfl) rfl ?_
  refine v_if_eq 4 13 C dX9_row_4 (by decide) h (fun h => ?_) (fun h => ?_)
  · exact w_X9_row_b13 C (lv_sub hl [] rfl) h
  · refine v_iload_n 7 C dX9_row_7 rfl (lv_at hl 2 rfl) ?_
    refine v_bipush 8 C (v := (40 : Int32)) dX9_row_8 (by decide) ?_
    refine v_icmp_le 10 15 C dX9_row_10 (by decide) h (fun h => ?_) (fun h => ?_)
    · refine v_iload_n 15 C dX9_row_15 rfl (lv_at hl 2 rfl) ?_
      refine v_if_ge 16 25 C dX9_row_16 (by decide) h (fun h => ?_) (fun h => ?_)
      · refine v_aload_n 25 C dX9_row_25 rfl (lv_at hl 0 rfl) ?_
        refine v_iload_n 26 C dX9_row_26 rfl (lv_at hl 1 rfl) ?_
        refine v_iload_n 27 C dX9_row_27 rfl (lv_at hl 2 rfl) ?_
        obtain ⟨v2, S, hc, h⟩ := zb_e h
        refine v_callVv 28 C (ci := 8) [] dX9_row_28 ml_X9_79 hy_X9_makeRow (c_X9_makeRow  hc) (by decide) rfl hl.1 kM_0 rfl (Nat.le_of_ble_eq_true rfl) rfl ?_
        refine v_iload_n 31 C dX9_row_31 rfl (lv_at hl 2 rfl) ?_
        exact v_ireturn 32 C dX9_row_32 h
      · refine v_aload_n 19 C dX9_row_19 rfl (lv_at hl 0 rfl) ?_
        refine v_iconst 20 C (v := (5 : Int32)) dX9_row_20 (by decide) ?_
        obtain ⟨v3, S, hc, h⟩ := zb_e h
        refine v_callVi 21 C (ci := 8) [] dX9_row_21 ml_X9_75 hy_X9_find (c_X9_find  hc) (by decide) rfl hl.1 kM_0 rfl (Nat.le_of_ble_eq_true rfl) rfl ?_
        exact v_ireturn 24 C dX9_row_24 h
    · exact w_X9_row_b13 C (lv_sub hl [] rfl) h
theorem c_X9_row {w : zWd} {l0 : Launch} {x1 : Int32} {x2 : Int32} {S S1 : zMem} {r : Int32} (h : f_X9_row x1 x2 S = some (r, S1)) : zMet LM w l0 yX9_row cX9_row 3 (some .int) 3 [.ref (w.2.2.1 0), .int x1, .int x2] S (some (.int r)) S1 :=
  zMet_of (by decide +kernel) (Nat.le_of_ble_eq_true rfl) (fun X ls C hl => w_X9_row_b0 C hl h)
theorem dX9_refused_0 : decode cX9_refused 0 = .ok (.iload_n 1, 1) := by decide +kernel
theorem dX9_refused_1 : decode cX9_refused 1 = .ok (.invokestatic 71, 3) := by decide +kernel
theorem dX9_refused_4 : decode cX9_refused 4 = .ok (.ifCond .ne 7, 3) := by decide +kernel
theorem dX9_refused_7 : decode cX9_refused 7 = .ok (.iconst (-1), 1) := by decide +kernel
theorem dX9_refused_8 : decode cX9_refused 8 = .ok (.goto 47, 3) := by decide +kernel
theorem dX9_refused_11 : decode cX9_refused 11 = .ok (.aload_n 0, 1) := by decide +kernel
theorem dX9_refused_12 : decode cX9_refused 12 = .ok (.getfield 22, 3) := by decide +kernel
theorem dX9_refused_15 : decode cX9_refused 15 = .ok (.iload_n 1, 1) := by decide +kernel
theorem dX9_refused_16 : decode cX9_refused 16 = .ok (.iaload, 1) := by decide +kernel
theorem dX9_refused_17 : decode cX9_refused 17 = .ok (.ifCond .ge 11, 3) := by decide +kernel
theorem dX9_refused_20 : decode cX9_refused 20 = .ok (.aload_n 0, 1) := by decide +kernel
theorem dX9_refused_21 : decode cX9_refused 21 = .ok (.iconst 1, 1) := by decide +kernel
theorem dX9_refused_22 : decode cX9_refused 22 = .ok (.invokevirtual 75, 3) := by decide +kernel
theorem dX9_refused_25 : decode cX9_refused 25 = .ok (.goto 30, 3) := by decide +kernel
theorem dX9_refused_28 : decode cX9_refused 28 = .ok (.iload_n 2, 1) := by decide +kernel
theorem dX9_refused_29 : decode cX9_refused 29 = .ok (.i2l, 1) := by decide +kernel
theorem dX9_refused_30 : decode cX9_refused 30 = .ok (.lconst 0, 1) := by decide +kernel
theorem dX9_refused_31 : decode cX9_refused 31 = .ok (.aload_n 0, 1) := by decide +kernel
theorem dX9_refused_32 : decode cX9_refused 32 = .ok (.getfield 22, 3) := by decide +kernel
theorem dX9_refused_35 : decode cX9_refused 35 = .ok (.iload_n 1, 1) := by decide +kernel
theorem dX9_refused_36 : decode cX9_refused 36 = .ok (.iaload, 1) := by decide +kernel
theorem dX9_refused_37 : decode cX9_refused 37 = .ok (.iconst 1, 1) := by decide +kernel
theorem dX9_refused_38 : decode cX9_refused 38 = .ok (.isub, 1) := by decide +kernel
theorem dX9_refused_39 : decode cX9_refused 39 = .ok (.i2l, 1) := by decide +kernel
theorem dX9_refused_40 : decode cX9_refused 40 = .ok (.invokestatic 65, 3) := by decide +kernel
theorem dX9_refused_43 : decode cX9_refused 43 = .ok (.ifCond .eq 7, 3) := by decide +kernel
theorem dX9_refused_46 : decode cX9_refused 46 = .ok (.iconst 0, 1) := by decide +kernel
theorem dX9_refused_47 : decode cX9_refused 47 = .ok (.goto 8, 3) := by decide +kernel
theorem dX9_refused_50 : decode cX9_refused 50 = .ok (.aload_n 0, 1) := by decide +kernel
theorem dX9_refused_51 : decode cX9_refused 51 = .ok (.iconst 2, 1) := by decide +kernel
theorem dX9_refused_52 : decode cX9_refused 52 = .ok (.invokevirtual 75, 3) := by decide +kernel
theorem dX9_refused_55 : decode cX9_refused 55 = .ok (.ireturn, 1) := by decide +kernel
set_option maxRecDepth 20000 in
theorem w_X9_refused_b55 {w : zWd} {X : zX} {l0 : Launch} {r : Int32} {S1 : zMem} (C : zC LM w X l0 cX9_refused RX9 3 3 (some .int)) {s0 : Int32} {S : zMem} {ls : Array Slot} (hl : lv_has ls 3 []) (h : X9_refused_b55 s0 S = some (r, S1)) : zV LM w X (some (.int r)) S1 S 55 ls [.int s0] := by
  unfold X9_refused_b55 at h
  exact v_ireturn 55 C dX9_refused_55 h
set_option maxRecDepth 20000 in
theorem w_X9_refused_b0 {w : zWd} {X : zX} {l0 : Launch} {r : Int32} {S1 : zMem} (C : zC LM w X l0 cX9_refused RX9 3 3 (some .int)) {x1 : Int32} {x2 : Int32} {S : zMem} {ls : Array Slot} (hl : lv_has ls 3 [(0, .ref (w.2.2.1 0)), (1, .int x1), (2, .int x2)]) (h : X9_refused_b0 x1 x2 S = some (r, S1)) : zV LM w X (some (.int r)) S1 S 0 ls [] := by
  unfold X9_refused_b0 at h
  refine v_iload_n 0 C dX9_refused_0 rfl (lv_at hl 1 rfl) ?_
  obtain ⟨v1, S, hc, h⟩ := zb_e h
  refine v_callSi 1 C [] dX9_refused_1 ml_X9_71 hy_X9_isRow (c_X9_isRow  hc) (by decide) rfl hl.1 (Nat.le_of_ble_eq_true rfl) rfl ?_
  refine v_if_ne 4 11 C dX9_refused_4 (by decide) h (fun h => ?_) (fun h => ?_)
  · refine v_aload_n 11 C dX9_refused_11 rfl (lv_at hl 0 rfl) ?_
    refine v_getr 12 (5) C dX9_refused_12 fl_X9_22 rfl kM_0 rfl ?_
    refine v_iload_n 15 C dX9_refused_15 rfl (lv_at hl 1 rfl) ?_
    refine v_iald 16 C dX9_refused_16 kM_5 rfl h (fun v2 h => ?_)
    refine v_if_ge 17 28 C dX9_refused_17 (by decide) h (fun h => ?_) (fun h => ?_)
    · refine v_iload_n 28 C dX9_refused_28 rfl (lv_at hl 2 rfl) ?_
      refine v_i2l 29 C dX9_refused_29 h (fun v3 h => ?_)
      refine v_lconst 30 C (v := 0) dX9_refused_30 (by decide) ?_
      refine v_aload_n 31 C dX9_refused_31 rfl (lv_at hl 0 rfl) ?_
      refine v_getr 32 (5) C dX9_refused_32 fl_X9_22 rfl kM_0 rfl ?_
      refine v_iload_n 35 C dX9_refused_35 rfl (lv_at hl 1 rfl) ?_
      refine v_iald 36 C dX9_refused_36 kM_5 rfl h (fun v4 h => ?_)
      refine v_iconst 37 C (v := (1 : Int32)) dX9_refused_37 (by decide) ?_
      refine v_isub 38 C dX9_refused_38 h (fun v5 h => ?_)
      refine v_i2l 39 C dX9_refused_39 h (fun v6 h => ?_)
      obtain ⟨v7, S, hc, h⟩ := zb_e h
      refine v_callSi 40 C [] dX9_refused_40 ml_X9_65 hy_X9_in (c_X9_in  hc) (by decide) rfl hl.1 (Nat.le_of_ble_eq_true rfl) rfl ?_
      refine v_if_eq 43 50 C dX9_refused_43 (by decide) h (fun h => ?_) (fun h => ?_)
      · refine v_aload_n 50 C dX9_refused_50 rfl (lv_at hl 0 rfl) ?_
        refine v_iconst 51 C (v := (2 : Int32)) dX9_refused_51 (by decide) ?_
        obtain ⟨v8, S, hc, h⟩ := zb_e h
        refine v_callVi 52 C (ci := 8) [] dX9_refused_52 ml_X9_75 hy_X9_find (c_X9_find  hc) (by decide) rfl hl.1 kM_0 rfl (Nat.le_of_ble_eq_true rfl) rfl ?_
        exact w_X9_refused_b55 C (lv_sub hl [] rfl) h
      · refine v_iconst 46 C (v := (0 : Int32)) dX9_refused_46 (by decide) ?_
        refine v_goto 47 55 C dX9_refused_47 (by decide) ?_
        exact w_X9_refused_b55 C (lv_sub hl [] rfl) h
    · refine v_aload_n 20 C dX9_refused_20 rfl (lv_at hl 0 rfl) ?_
      refine v_iconst 21 C (v := (1 : Int32)) dX9_refused_21 (by decide) ?_
      obtain ⟨v9, S, hc, h⟩ := zb_e h
      refine v_callVi 22 C (ci := 8) [] dX9_refused_22 ml_X9_75 hy_X9_find (c_X9_find  hc) (by decide) rfl hl.1 kM_0 rfl (Nat.le_of_ble_eq_true rfl) rfl ?_
      refine v_goto 25 55 C dX9_refused_25 (by decide) ?_
      exact w_X9_refused_b55 C (lv_sub hl [] rfl) h
  · refine v_iconst 7 C (v := (-1 : Int32)) dX9_refused_7 (by decide) ?_
    refine v_goto 8 55 C dX9_refused_8 (by decide) ?_
    exact w_X9_refused_b55 C (lv_sub hl [] rfl) h
theorem c_X9_refused {w : zWd} {l0 : Launch} {x1 : Int32} {x2 : Int32} {S S1 : zMem} {r : Int32} (h : f_X9_refused x1 x2 S = some (r, S1)) : zMet LM w l0 yX9_refused cX9_refused 3 (some .int) 3 [.ref (w.2.2.1 0), .int x1, .int x2] S (some (.int r)) S1 :=
  zMet_of (by decide +kernel) (Nat.le_of_ble_eq_true rfl) (fun X ls C hl => w_X9_refused_b0 C hl h)
theorem fl_X9_60 : zFL RX9 60 8 10 := ⟨_, rfl, by decide, zT_of (List.mem_of_getElem? (i := 880) (by decide +kernel)) rfl⟩
theorem fp_8_10 : zFP 8 10 .int := fun q h => by cases h; exact ⟨rfl, by decide +kernel⟩
theorem dX9_tell_0 : decode cX9_tell 0 = .ok (.aload_n 0, 1) := by decide +kernel
theorem dX9_tell_1 : decode cX9_tell 1 = .ok (.iload_n 1, 1) := by decide +kernel
theorem dX9_tell_2 : decode cX9_tell 2 = .ok (.putfield 60, 3) := by decide +kernel
theorem dX9_tell_5 : decode cX9_tell 5 = .ok (.iconst 1, 1) := by decide +kernel
theorem dX9_tell_6 : decode cX9_tell 6 = .ok (.ireturn, 1) := by decide +kernel
set_option maxRecDepth 20000 in
theorem w_X9_tell_b0 {w : zWd} {X : zX} {l0 : Launch} {r : Int32} {S1 : zMem} (C : zC LM w X l0 cX9_tell RX9 2 1 (some .int)) {x1 : Int32} {S : zMem} {ls : Array Slot} (hl : lv_has ls 2 [(0, .ref (w.2.2.1 0)), (1, .int x1)]) (h : X9_tell_b0 x1 S = some (r, S1)) : zV LM w X (some (.int r)) S1 S 0 ls [] := by
  unfold X9_tell_b0 at h
  refine v_aload_n 0 C dX9_tell_0 rfl (lv_at hl 0 rfl) ?_
  refine v_iload_n 1 C dX9_tell_1 rfl (lv_at hl 1 rfl) ?_
  refine v_puti 2 C dX9_tell_2 fl_X9_60 fp_8_10 rfl kM_0 h (fun S h => ?_)
  refine v_iconst 5 C (v := (1 : Int32)) dX9_tell_5 (by decide) ?_
  exact v_ireturn 6 C dX9_tell_6 h
theorem c_X9_tell {w : zWd} {l0 : Launch} {x1 : Int32} {S S1 : zMem} {r : Int32} (h : f_X9_tell x1 S = some (r, S1)) : zMet LM w l0 yX9_tell cX9_tell 2 (some .int) 1 [.ref (w.2.2.1 0), .int x1] S (some (.int r)) S1 :=
  zMet_of (by decide +kernel) (Nat.le_of_ble_eq_true rfl) (fun X ls C hl => w_X9_tell_b0 C hl h)
theorem ml_X9_83 : Cond.methodLink RX9 83 yX9_refused ∈ zT := zT_of (List.mem_of_getElem? (i := 975) (by decide +kernel)) rfl
theorem hy_X9_refused : zYv yX9_refused cX9_refused 3 (some .int) 2 := ⟨⟨zT_of (List.mem_of_getElem? (i := 978) (by decide +kernel)) rfl, zT_of (List.mem_of_getElem? (i := 78) (by decide +kernel)) rfl, by decide, by decide +kernel, by decide +kernel, by decide +kernel⟩, zT_of (List.mem_of_getElem? (i := 977) (by decide +kernel)) rfl, zT_of (List.mem_of_getElem? (i := 23) (by decide +kernel)) rfl⟩
theorem ml_X9_87 : Cond.methodLink RX9 87 yX9_tell ∈ zT := zT_of (List.mem_of_getElem? (i := 979) (by decide +kernel)) rfl
theorem hy_X9_tell : zYv yX9_tell cX9_tell 2 (some .int) 1 := ⟨⟨zT_of (List.mem_of_getElem? (i := 982) (by decide +kernel)) rfl, zT_of (List.mem_of_getElem? (i := 78) (by decide +kernel)) rfl, by decide, by decide +kernel, by decide +kernel, by decide +kernel⟩, zT_of (List.mem_of_getElem? (i := 981) (by decide +kernel)) rfl, zT_of (List.mem_of_getElem? (i := 24) (by decide +kernel)) rfl⟩
theorem dX9_lay_0 : decode cX9_lay 0 = .ok (.aload_n 0, 1) := by decide +kernel
theorem dX9_lay_1 : decode cX9_lay 1 = .ok (.iload_n 1, 1) := by decide +kernel
theorem dX9_lay_2 : decode cX9_lay 2 = .ok (.iload_n 2, 1) := by decide +kernel
theorem dX9_lay_3 : decode cX9_lay 3 = .ok (.invokevirtual 83, 3) := by decide +kernel
theorem dX9_lay_6 : decode cX9_lay 6 = .ok (.istore 4, 2) := by decide +kernel
theorem dX9_lay_8 : decode cX9_lay 8 = .ok (.iload 4, 2) := by decide +kernel
theorem dX9_lay_10 : decode cX9_lay 10 = .ok (.ifCond .eq 6, 3) := by decide +kernel
theorem dX9_lay_13 : decode cX9_lay 13 = .ok (.iload 4, 2) := by decide +kernel
theorem dX9_lay_15 : decode cX9_lay 15 = .ok (.ireturn, 1) := by decide +kernel
theorem dX9_lay_16 : decode cX9_lay 16 = .ok (.aload_n 0, 1) := by decide +kernel
theorem dX9_lay_17 : decode cX9_lay 17 = .ok (.getfield 25, 3) := by decide +kernel
theorem dX9_lay_20 : decode cX9_lay 20 = .ok (.bipush 40, 2) := by decide +kernel
theorem dX9_lay_22 : decode cX9_lay 22 = .ok (.iload_n 1, 1) := by decide +kernel
theorem dX9_lay_23 : decode cX9_lay 23 = .ok (.imul, 1) := by decide +kernel
theorem dX9_lay_24 : decode cX9_lay 24 = .ok (.iload_n 2, 1) := by decide +kernel
theorem dX9_lay_25 : decode cX9_lay 25 = .ok (.iadd, 1) := by decide +kernel
theorem dX9_lay_26 : decode cX9_lay 26 = .ok (.iaload, 1) := by decide +kernel
theorem dX9_lay_27 : decode cX9_lay 27 = .ok (.istore 5, 2) := by decide +kernel
theorem dX9_lay_29 : decode cX9_lay 29 = .ok (.aload_n 0, 1) := by decide +kernel
theorem dX9_lay_30 : decode cX9_lay 30 = .ok (.getfield 25, 3) := by decide +kernel
theorem dX9_lay_33 : decode cX9_lay 33 = .ok (.bipush 40, 2) := by decide +kernel
theorem dX9_lay_35 : decode cX9_lay 35 = .ok (.iload_n 1, 1) := by decide +kernel
theorem dX9_lay_36 : decode cX9_lay 36 = .ok (.imul, 1) := by decide +kernel
theorem dX9_lay_37 : decode cX9_lay 37 = .ok (.iload_n 2, 1) := by decide +kernel
theorem dX9_lay_38 : decode cX9_lay 38 = .ok (.iadd, 1) := by decide +kernel
theorem dX9_lay_39 : decode cX9_lay 39 = .ok (.iload_n 3, 1) := by decide +kernel
theorem dX9_lay_40 : decode cX9_lay 40 = .ok (.iastore, 1) := by decide +kernel
theorem dX9_lay_41 : decode cX9_lay 41 = .ok (.aload_n 0, 1) := by decide +kernel
theorem dX9_lay_42 : decode cX9_lay 42 = .ok (.iload 5, 2) := by decide +kernel
theorem dX9_lay_44 : decode cX9_lay 44 = .ok (.invokevirtual 87, 3) := by decide +kernel
theorem dX9_lay_47 : decode cX9_lay 47 = .ok (.ireturn, 1) := by decide +kernel
set_option maxRecDepth 20000 in
theorem w_X9_lay_b0 {w : zWd} {X : zX} {l0 : Launch} {r : Int32} {S1 : zMem} (C : zC LM w X l0 cX9_lay RX9 6 4 (some .int)) {x1 : Int32} {x2 : Int32} {x3 : Int32} {S : zMem} {ls : Array Slot} (hl : lv_has ls 6 [(0, .ref (w.2.2.1 0)), (1, .int x1), (2, .int x2), (3, .int x3)]) (h : X9_lay_b0 x1 x2 x3 S = some (r, S1)) : zV LM w X (some (.int r)) S1 S 0 ls [] := by
  unfold X9_lay_b0 at h
  refine v_aload_n 0 C dX9_lay_0 rfl (lv_at hl 0 rfl) ?_
  refine v_iload_n 1 C dX9_lay_1 rfl (lv_at hl 1 rfl) ?_
  refine v_iload_n 2 C dX9_lay_2 rfl (lv_at hl 2 rfl) ?_
  obtain ⟨v1, S, hc, h⟩ := zb_e h
  refine v_callVi 3 C (ci := 8) [] dX9_lay_3 ml_X9_83 hy_X9_refused (c_X9_refused  hc) (by decide) rfl hl.1 kM_0 rfl (Nat.le_of_ble_eq_true rfl) rfl ?_
  refine v_istore 6 C [(4, .int v1), (0, .ref (w.2.2.1 0)), (1, .int x1), (2, .int x2), (3, .int x3)] dX9_lay_6 hl (by decide) rfl (fun ls hl => ?_)
  refine v_iload 8 C dX9_lay_8 (lv_at hl 0 rfl) ?_
  refine v_if_eq 10 16 C dX9_lay_10 (by decide) h (fun h => ?_) (fun h => ?_)
  · refine v_aload_n 16 C dX9_lay_16 rfl (lv_at hl 1 rfl) ?_
    refine v_getr 17 (6) C dX9_lay_17 fl_X9_25 rfl kM_0 rfl ?_
    refine v_bipush 20 C (v := (40 : Int32)) dX9_lay_20 (by decide) ?_
    refine v_iload_n 22 C dX9_lay_22 rfl (lv_at hl 2 rfl) ?_
    refine v_imul 23 C dX9_lay_23 h (fun v2 h => ?_)
    refine v_iload_n 24 C dX9_lay_24 rfl (lv_at hl 3 rfl) ?_
    refine v_iadd 25 C dX9_lay_25 h (fun v3 h => ?_)
    refine v_iald 26 C dX9_lay_26 kM_6 rfl h (fun v4 h => ?_)
    refine v_istore 27 C [(5, .int v4), (4, .int v1), (0, .ref (w.2.2.1 0)), (1, .int x1), (2, .int x2), (3, .int x3)] dX9_lay_27 hl (by decide) rfl (fun ls hl => ?_)
    refine v_aload_n 29 C dX9_lay_29 rfl (lv_at hl 2 rfl) ?_
    refine v_getr 30 (6) C dX9_lay_30 fl_X9_25 rfl kM_0 rfl ?_
    refine v_bipush 33 C (v := (40 : Int32)) dX9_lay_33 (by decide) ?_
    refine v_iload_n 35 C dX9_lay_35 rfl (lv_at hl 3 rfl) ?_
    refine v_imul 36 C dX9_lay_36 h (fun v5 h => ?_)
    refine v_iload_n 37 C dX9_lay_37 rfl (lv_at hl 4 rfl) ?_
    refine v_iadd 38 C dX9_lay_38 h (fun v6 h => ?_)
    refine v_iload_n 39 C dX9_lay_39 rfl (lv_at hl 5 rfl) ?_
    refine v_iast 40 C dX9_lay_40 kM_6 rfl h (fun S h => ?_)
    refine v_aload_n 41 C dX9_lay_41 rfl (lv_at hl 2 rfl) ?_
    refine v_iload 42 C dX9_lay_42 (lv_at hl 0 rfl) ?_
    obtain ⟨v7, S, hc, h⟩ := zb_e h
    refine v_callVi 44 C (ci := 8) [] dX9_lay_44 ml_X9_87 hy_X9_tell (c_X9_tell  hc) (by decide) rfl hl.1 kM_0 rfl (Nat.le_of_ble_eq_true rfl) rfl ?_
    exact v_ireturn 47 C dX9_lay_47 h
  · refine v_iload 13 C dX9_lay_13 (lv_at hl 0 rfl) ?_
    exact v_ireturn 15 C dX9_lay_15 h
theorem c_X9_lay {w : zWd} {l0 : Launch} {x1 : Int32} {x2 : Int32} {x3 : Int32} {S S1 : zMem} {r : Int32} (h : f_X9_lay x1 x2 x3 S = some (r, S1)) : zMet LM w l0 yX9_lay cX9_lay 6 (some .int) 4 [.ref (w.2.2.1 0), .int x1, .int x2, .int x3] S (some (.int r)) S1 :=
  zMet_of (by decide +kernel) (Nat.le_of_ble_eq_true rfl) (fun X ls C hl => w_X9_lay_b0 C hl h)
