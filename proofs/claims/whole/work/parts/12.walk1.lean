-- X8_house X8_isLetter X4_wasCarried X6_moodWithin X6_moodAtDoor X8_arrivingWith X1_warmth X6_warmth X8_ofLetter X8_letter X1_isOf X1_markOf X8_mark X4_spareDeeds X6_bondBehind X1_turnBy X6_moodBehind X4_deliver X4_beginDay X4_perform X8_carry X8_isPosted X8_bribe X8_weather J6_bitCount_0f7a4 X8_day X4_goBackTo X8_undo X8_isPlace X4_become X8_keep X8_on X8_ends X8_bond X8_least X6_allLetters X3_tryWarmer
theorem ml_X8_149 : Cond.methodLink RX8 149 yX8_isHouse ∈ zT := zT_of (List.mem_of_getElem? (i := 490) (by decide +kernel)) rfl
theorem hy_X8_isHouse : zYv yX8_isHouse cX8_isHouse 2 (some .boolean) 1 := ⟨⟨zT_of (List.mem_of_getElem? (i := 493) (by decide +kernel)) rfl, zT_of (List.mem_of_getElem? (i := 70) (by decide +kernel)) rfl, by decide, by decide +kernel, by decide +kernel, by decide +kernel⟩, zT_of (List.mem_of_getElem? (i := 492) (by decide +kernel)) rfl, zT_of (List.mem_of_getElem? (i := 6) (by decide +kernel)) rfl⟩
theorem ml_X8_155 : Cond.methodLink RX8 155 yX8_ofHouse ∈ zT := zT_of (List.mem_of_getElem? (i := 494) (by decide +kernel)) rfl
theorem hy_X8_ofHouse : zYv yX8_ofHouse cX8_ofHouse 3 (some .int) 2 := ⟨⟨zT_of (List.mem_of_getElem? (i := 497) (by decide +kernel)) rfl, zT_of (List.mem_of_getElem? (i := 70) (by decide +kernel)) rfl, by decide, by decide +kernel, by decide +kernel, by decide +kernel⟩, zT_of (List.mem_of_getElem? (i := 496) (by decide +kernel)) rfl, zT_of (List.mem_of_getElem? (i := 7) (by decide +kernel)) rfl⟩
theorem dX8_house_0 : decode cX8_house 0 = .ok (.aload_n 0, 1) := by decide +kernel
theorem dX8_house_1 : decode cX8_house 1 = .ok (.iload_n 1, 1) := by decide +kernel
theorem dX8_house_2 : decode cX8_house 2 = .ok (.invokevirtual 149, 3) := by decide +kernel
theorem dX8_house_5 : decode cX8_house 5 = .ok (.ifCond .eq 11, 3) := by decide +kernel
theorem dX8_house_8 : decode cX8_house 8 = .ok (.iload_n 2, 1) := by decide +kernel
theorem dX8_house_9 : decode cX8_house 9 = .ok (.iconst 2, 1) := by decide +kernel
theorem dX8_house_10 : decode cX8_house 10 = .ok (.invokestatic 152, 3) := by decide +kernel
theorem dX8_house_13 : decode cX8_house 13 = .ok (.ifCond .ne 5, 3) := by decide +kernel
theorem dX8_house_16 : decode cX8_house 16 = .ok (.iconst (-1), 1) := by decide +kernel
theorem dX8_house_17 : decode cX8_house 17 = .ok (.ireturn, 1) := by decide +kernel
theorem dX8_house_18 : decode cX8_house 18 = .ok (.aload_n 0, 1) := by decide +kernel
theorem dX8_house_19 : decode cX8_house 19 = .ok (.aload_n 0, 1) := by decide +kernel
theorem dX8_house_20 : decode cX8_house 20 = .ok (.iload_n 1, 1) := by decide +kernel
theorem dX8_house_21 : decode cX8_house 21 = .ok (.iload_n 2, 1) := by decide +kernel
theorem dX8_house_22 : decode cX8_house 22 = .ok (.invokevirtual 155, 3) := by decide +kernel
theorem dX8_house_25 : decode cX8_house 25 = .ok (.invokevirtual 102, 3) := by decide +kernel
theorem dX8_house_28 : decode cX8_house 28 = .ok (.ireturn, 1) := by decide +kernel
set_option maxRecDepth 20000 in
theorem w_X8_house_b16 {w : zWd} {X : zX} {l0 : Launch} {r : Int32} {S1 : zMem} (C : zC LC w X l0 cX8_house RX8 3 3 (some .int)) {S : zMem} {ls : Array Slot} (hl : lv_has ls 3 []) (h : X8_house_b16  S = some (r, S1)) : zV LC w X (some (.int r)) S1 S 16 ls [] := by
  unfold X8_house_b16 at h
  refine v_iconst 16 C (v := (-1 : Int32)) dX8_house_16 (by decide) ?_
  exact v_ireturn 17 C dX8_house_17 h
set_option maxRecDepth 20000 in
theorem w_X8_house_b0 {w : zWd} {X : zX} {l0 : Launch} {r : Int32} {S1 : zMem} (C : zC LC w X l0 cX8_house RX8 3 3 (some .int)) {x1 : Int32} {x2 : Int32} {S : zMem} {ls : Array Slot} (hl : lv_has ls 3 [(0, .ref (w.2.2.1 0)), (1, .int x1), (2, .int x2)]) (h : X8_house_b0 x1 x2 S = some (r, S1)) : zV LC w X (some (.int r)) S1 S 0 ls [] := by
  unfold X8_house_b0 at h
  refine v_aload_n 0 C dX8_house_0 rfl (lv_at hl 0 rfl) ?_
  refine v_iload_n 1 C dX8_house_1 rfl (lv_at hl 1 rfl) ?_
  obtain ⟨v1, S, hc, h⟩ := zb_e h
  refine v_callVi 2 C (ci := 7) [] dX8_house_2 ml_X8_149 hy_X8_isHouse (c_X8_isHouse  hc) (by decide) rfl hl.1 kC_0 rfl (Nat.le_of_ble_eq_true rfl) rfl ?_
  refine v_if_eq 5 16 C dX8_house_5 (by decide) h (fun h => ?_) (fun h => ?_)
  · exact w_X8_house_b16 C (lv_sub hl [] rfl) h
  · refine v_iload_n 8 C dX8_house_8 rfl (lv_at hl 2 rfl) ?_
    refine v_iconst 9 C (v := (2 : Int32)) dX8_house_9 (by decide) ?_
    obtain ⟨v2, S, hc, h⟩ := zb_e h
    refine v_callSi 10 C [] dX8_house_10 ml_X8_152 hy_X8_within (c_X8_within  hc) (by decide) rfl hl.1 (Nat.le_of_ble_eq_true rfl) rfl ?_
    refine v_if_ne 13 18 C dX8_house_13 (by decide) h (fun h => ?_) (fun h => ?_)
    · refine v_aload_n 18 C dX8_house_18 rfl (lv_at hl 0 rfl) ?_
      refine v_aload_n 19 C dX8_house_19 rfl (lv_at hl 0 rfl) ?_
      refine v_iload_n 20 C dX8_house_20 rfl (lv_at hl 1 rfl) ?_
      refine v_iload_n 21 C dX8_house_21 rfl (lv_at hl 2 rfl) ?_
      obtain ⟨v3, S, hc, h⟩ := zb_e h
      refine v_callVi 22 C (ci := 7) [.ref (w.2.2.1 0)] dX8_house_22 ml_X8_155 hy_X8_ofHouse (c_X8_ofHouse  hc) (by decide) rfl hl.1 kC_0 rfl (Nat.le_of_ble_eq_true rfl) rfl ?_
      obtain ⟨v4, S, hc, h⟩ := zb_e h
      refine v_callVi 25 C (ci := 7) [] dX8_house_25 ml_X8_102 hy_X8_tell (c_X8_tell  hc) (by decide) rfl hl.1 kC_0 rfl (Nat.le_of_ble_eq_true rfl) rfl ?_
      exact v_ireturn 28 C dX8_house_28 h
    · exact w_X8_house_b16 C (lv_sub hl [] rfl) h
theorem c_X8_house {w : zWd} {l0 : Launch} {x1 : Int32} {x2 : Int32} {S S1 : zMem} {r : Int32} (h : f_X8_house x1 x2 S = some (r, S1)) : zMet LC w l0 yX8_house cX8_house 3 (some .int) 3 [.ref (w.2.2.1 0), .int x1, .int x2] S (some (.int r)) S1 :=
  zMet_of (by decide +kernel) (Nat.le_of_ble_eq_true rfl) (fun X ls C hl => w_X8_house_b0 C hl h)
theorem dX8_isLetter_0 : decode cX8_isLetter 0 = .ok (.iload_n 1, 1) := by decide +kernel
theorem dX8_isLetter_1 : decode cX8_isLetter 1 = .ok (.aload_n 0, 1) := by decide +kernel
theorem dX8_isLetter_2 : decode cX8_isLetter 2 = .ok (.getfield 21, 3) := by decide +kernel
theorem dX8_isLetter_5 : decode cX8_isLetter 5 = .ok (.getfield 146, 3) := by decide +kernel
theorem dX8_isLetter_8 : decode cX8_isLetter 8 = .ok (.iconst 1, 1) := by decide +kernel
theorem dX8_isLetter_9 : decode cX8_isLetter 9 = .ok (.isub, 1) := by decide +kernel
theorem dX8_isLetter_10 : decode cX8_isLetter 10 = .ok (.invokestatic 152, 3) := by decide +kernel
theorem dX8_isLetter_13 : decode cX8_isLetter 13 = .ok (.ireturn, 1) := by decide +kernel
set_option maxRecDepth 20000 in
theorem w_X8_isLetter_b0 {w : zWd} {X : zX} {l0 : Launch} {r : Int32} {S1 : zMem} (C : zC LC w X l0 cX8_isLetter RX8 2 2 (some .boolean)) {x1 : Int32} {S : zMem} {ls : Array Slot} (hl : lv_has ls 2 [(0, .ref (w.2.2.1 0)), (1, .int x1)]) (h : X8_isLetter_b0 x1 S = some (r, S1)) : zV LC w X (some (.int r)) S1 S 0 ls [] := by
  unfold X8_isLetter_b0 at h
  refine v_iload_n 0 C dX8_isLetter_0 rfl (lv_at hl 1 rfl) ?_
  refine v_aload_n 1 C dX8_isLetter_1 rfl (lv_at hl 0 rfl) ?_
  refine v_getr 2 (24) C dX8_isLetter_2 fl_X8_21 rfl kC_0 rfl ?_
  refine v_geti 5 C dX8_isLetter_5 fl_X8_146 rfl kC_24 h (fun v1 h => ?_)
  refine v_iconst 8 C (v := (1 : Int32)) dX8_isLetter_8 (by decide) ?_
  refine v_isub 9 C dX8_isLetter_9 h (fun v2 h => ?_)
  obtain ⟨v3, S, hc, h⟩ := zb_e h
  refine v_callSi 10 C [] dX8_isLetter_10 ml_X8_152 hy_X8_within (c_X8_within  hc) (by decide) rfl hl.1 (Nat.le_of_ble_eq_true rfl) rfl ?_
  exact v_zreturn 13 C dX8_isLetter_13 h
theorem c_X8_isLetter {w : zWd} {l0 : Launch} {x1 : Int32} {S S1 : zMem} {r : Int32} (h : f_X8_isLetter x1 S = some (r, S1)) : zMet LC w l0 yX8_isLetter cX8_isLetter 2 (some .boolean) 2 [.ref (w.2.2.1 0), .int x1] S (some (.int r)) S1 :=
  zMet_of (by decide +kernel) (Nat.le_of_ble_eq_true rfl) (fun X ls C hl => w_X8_isLetter_b0 C hl h)
theorem dX4_wasCarried_0 : decode cX4_wasCarried 0 = .ok (.aload_n 0, 1) := by decide +kernel
theorem dX4_wasCarried_1 : decode cX4_wasCarried 1 = .ok (.getfield 56, 3) := by decide +kernel
theorem dX4_wasCarried_4 : decode cX4_wasCarried 4 = .ok (.iload_n 1, 1) := by decide +kernel
theorem dX4_wasCarried_5 : decode cX4_wasCarried 5 = .ok (.ishr, 1) := by decide +kernel
theorem dX4_wasCarried_6 : decode cX4_wasCarried 6 = .ok (.iconst 1, 1) := by decide +kernel
theorem dX4_wasCarried_7 : decode cX4_wasCarried 7 = .ok (.iand, 1) := by decide +kernel
theorem dX4_wasCarried_8 : decode cX4_wasCarried 8 = .ok (.ifCond .eq 7, 3) := by decide +kernel
theorem dX4_wasCarried_11 : decode cX4_wasCarried 11 = .ok (.iconst 1, 1) := by decide +kernel
theorem dX4_wasCarried_12 : decode cX4_wasCarried 12 = .ok (.goto 4, 3) := by decide +kernel
theorem dX4_wasCarried_15 : decode cX4_wasCarried 15 = .ok (.iconst 0, 1) := by decide +kernel
theorem dX4_wasCarried_16 : decode cX4_wasCarried 16 = .ok (.ireturn, 1) := by decide +kernel
set_option maxRecDepth 20000 in
theorem w_X4_wasCarried_b16 {w : zWd} {X : zX} {l0 : Launch} {r : Int32} {S1 : zMem} (C : zC LC w X l0 cX4_wasCarried RX4 2 1 (some .boolean)) {s0 : Int32} {S : zMem} {ls : Array Slot} (hl : lv_has ls 2 []) (h : X4_wasCarried_b16 s0 S = some (r, S1)) : zV LC w X (some (.int r)) S1 S 16 ls [.int s0] := by
  unfold X4_wasCarried_b16 at h
  exact v_zreturn 16 C dX4_wasCarried_16 h
set_option maxRecDepth 20000 in
theorem w_X4_wasCarried_b0 {w : zWd} {X : zX} {l0 : Launch} {r : Int32} {S1 : zMem} (C : zC LC w X l0 cX4_wasCarried RX4 2 1 (some .boolean)) {c0 : Nat} {x1 : Int32} {S : zMem} {ls : Array Slot} (hl : lv_has ls 2 [(0, .ref (w.2.2.1 c0)), (1, .int x1)]) (hk_c0 : c0 < LC.1 ∧ LC.2.1 c0 = 6) (h : X4_wasCarried_b0 c0 x1 S = some (r, S1)) : zV LC w X (some (.int r)) S1 S 0 ls [] := by
  unfold X4_wasCarried_b0 at h
  refine v_aload_n 0 C dX4_wasCarried_0 rfl (lv_at hl 0 rfl) ?_
  refine v_geti 1 C dX4_wasCarried_1 fl_X4_56 rfl hk_c0 h (fun v1 h => ?_)
  refine v_iload_n 4 C dX4_wasCarried_4 rfl (lv_at hl 1 rfl) ?_
  refine v_ishr 5 C dX4_wasCarried_5 h (fun v2 h => ?_)
  refine v_iconst 6 C (v := (1 : Int32)) dX4_wasCarried_6 (by decide) ?_
  refine v_iand 7 C dX4_wasCarried_7 h (fun v3 h => ?_)
  refine v_if_eq 8 15 C dX4_wasCarried_8 (by decide) h (fun h => ?_) (fun h => ?_)
  · refine v_iconst 15 C (v := (0 : Int32)) dX4_wasCarried_15 (by decide) ?_
    exact w_X4_wasCarried_b16 C (lv_sub hl [] rfl) h
  · refine v_iconst 11 C (v := (1 : Int32)) dX4_wasCarried_11 (by decide) ?_
    refine v_goto 12 16 C dX4_wasCarried_12 (by decide) ?_
    exact w_X4_wasCarried_b16 C (lv_sub hl [] rfl) h
theorem c_X4_wasCarried {w : zWd} {l0 : Launch} {c0 : Nat} {x1 : Int32} {S S1 : zMem} {r : Int32} (hk_c0 : c0 < LC.1 ∧ LC.2.1 c0 = 6) (h : f_X4_wasCarried c0 x1 S = some (r, S1)) : zMet LC w l0 yX4_wasCarried cX4_wasCarried 2 (some .boolean) 1 [.ref (w.2.2.1 c0), .int x1] S (some (.int r)) S1 :=
  zMet_of (by decide +kernel) (Nat.le_of_ble_eq_true rfl) (fun X ls C hl => w_X4_wasCarried_b0 C hl hk_c0 h)
theorem ml_X6_66 : Cond.methodLink RX6 66 Lib.Math.min.name ∈ zT := zT_of (List.mem_of_getElem? (i := 528) (by decide +kernel)) rfl
theorem ml_X6_69 : Cond.methodLink RX6 69 Lib.Math.max.name ∈ zT := zT_of (List.mem_of_getElem? (i := 531) (by decide +kernel)) rfl
theorem dX6_moodWithin_0 : decode cX6_moodWithin 0 = .ok (.iconst 0, 1) := by decide +kernel
theorem dX6_moodWithin_1 : decode cX6_moodWithin 1 = .ok (.bipush 9, 2) := by decide +kernel
theorem dX6_moodWithin_3 : decode cX6_moodWithin 3 = .ok (.iload_n 0, 1) := by decide +kernel
theorem dX6_moodWithin_4 : decode cX6_moodWithin 4 = .ok (.invokestatic 66, 3) := by decide +kernel
theorem dX6_moodWithin_7 : decode cX6_moodWithin 7 = .ok (.invokestatic 69, 3) := by decide +kernel
theorem dX6_moodWithin_10 : decode cX6_moodWithin 10 = .ok (.ireturn, 1) := by decide +kernel
set_option maxRecDepth 20000 in
theorem w_X6_moodWithin_b0 {w : zWd} {X : zX} {l0 : Launch} {r : Int32} {S1 : zMem} (C : zC LC w X l0 cX6_moodWithin RX6 1 1 (some .int)) {x0 : Int32} {S : zMem} {ls : Array Slot} (hl : lv_has ls 1 [(0, .int x0)]) (h : X6_moodWithin_b0 x0 S = some (r, S1)) : zV LC w X (some (.int r)) S1 S 0 ls [] := by
  unfold X6_moodWithin_b0 at h
  refine v_iconst 0 C (v := (0 : Int32)) dX6_moodWithin_0 (by decide) ?_
  refine v_bipush 1 C (v := (9 : Int32)) dX6_moodWithin_1 (by decide) ?_
  refine v_iload_n 3 C dX6_moodWithin_3 rfl (lv_at hl 0 rfl) ?_
  refine v_mmin 4 C dX6_moodWithin_4 ml_X6_66 hl.1 (by decide) (Nat.le_of_ble_eq_true rfl) h (fun v1 h => ?_)
  refine v_mmax 7 C dX6_moodWithin_7 ml_X6_69 hl.1 (by decide) (Nat.le_of_ble_eq_true rfl) h (fun v2 h => ?_)
  exact v_ireturn 10 C dX6_moodWithin_10 h
theorem c_X6_moodWithin {w : zWd} {l0 : Launch} {x0 : Int32} {S S1 : zMem} {r : Int32} (h : f_X6_moodWithin x0 S = some (r, S1)) : zMet LC w l0 yX6_moodWithin cX6_moodWithin 1 (some .int) 1 [.int x0] S (some (.int r)) S1 :=
  zMet_of (by decide +kernel) (Nat.le_of_ble_eq_true rfl) (fun X ls C hl => w_X6_moodWithin_b0 C hl h)
theorem ml_X6_49 : Cond.methodLink RX6 49 Lib.Math.abs.name ∈ zT := zT_of (List.mem_of_getElem? (i := 538) (by decide +kernel)) rfl
theorem ml_X6_55 : Cond.methodLink RX6 55 yX6_moodWithin ∈ zT := zT_of (List.mem_of_getElem? (i := 539) (by decide +kernel)) rfl
theorem hy_X6_moodWithin : zYs yX6_moodWithin cX6_moodWithin 1 (some .int) 1 := ⟨⟨zT_of (List.mem_of_getElem? (i := 527) (by decide +kernel)) rfl, zT_of (List.mem_of_getElem? (i := 71) (by decide +kernel)) rfl, by decide, by decide +kernel, by decide +kernel, by decide +kernel⟩, zT_of (List.mem_of_getElem? (i := 526) (by decide +kernel)) rfl⟩
theorem dX6_moodAtDoor_0 : decode cX6_moodAtDoor 0 = .ok (.iload_n 2, 1) := by decide +kernel
theorem dX6_moodAtDoor_1 : decode cX6_moodAtDoor 1 = .ok (.aload_n 0, 1) := by decide +kernel
theorem dX6_moodAtDoor_2 : decode cX6_moodAtDoor 2 = .ok (.getfield 18, 3) := by decide +kernel
theorem dX6_moodAtDoor_5 : decode cX6_moodAtDoor 5 = .ok (.iload_n 1, 1) := by decide +kernel
theorem dX6_moodAtDoor_6 : decode cX6_moodAtDoor 6 = .ok (.iaload, 1) := by decide +kernel
theorem dX6_moodAtDoor_7 : decode cX6_moodAtDoor 7 = .ok (.iload_n 3, 1) := by decide +kernel
theorem dX6_moodAtDoor_8 : decode cX6_moodAtDoor 8 = .ok (.isub, 1) := by decide +kernel
theorem dX6_moodAtDoor_9 : decode cX6_moodAtDoor 9 = .ok (.invokestatic 49, 3) := by decide +kernel
theorem dX6_moodAtDoor_12 : decode cX6_moodAtDoor 12 = .ok (.iload 4, 2) := by decide +kernel
theorem dX6_moodAtDoor_14 : decode cX6_moodAtDoor 14 = .ok (.iconst 1, 1) := by decide +kernel
theorem dX6_moodAtDoor_15 : decode cX6_moodAtDoor 15 = .ok (.isub, 1) := by decide +kernel
theorem dX6_moodAtDoor_16 : decode cX6_moodAtDoor 16 = .ok (.imul, 1) := by decide +kernel
theorem dX6_moodAtDoor_17 : decode cX6_moodAtDoor 17 = .ok (.iadd, 1) := by decide +kernel
theorem dX6_moodAtDoor_18 : decode cX6_moodAtDoor 18 = .ok (.invokestatic 55, 3) := by decide +kernel
theorem dX6_moodAtDoor_21 : decode cX6_moodAtDoor 21 = .ok (.ireturn, 1) := by decide +kernel
set_option maxRecDepth 20000 in
theorem w_X6_moodAtDoor_b0 {w : zWd} {X : zX} {l0 : Launch} {r : Int32} {S1 : zMem} (C : zC LC w X l0 cX6_moodAtDoor RX6 5 2 (some .int)) {x1 : Int32} {x2 : Int32} {x3 : Int32} {x4 : Int32} {S : zMem} {ls : Array Slot} (hl : lv_has ls 5 [(0, .ref (w.2.2.1 24)), (1, .int x1), (2, .int x2), (3, .int x3), (4, .int x4)]) (h : X6_moodAtDoor_b0 x1 x2 x3 x4 S = some (r, S1)) : zV LC w X (some (.int r)) S1 S 0 ls [] := by
  unfold X6_moodAtDoor_b0 at h
  refine v_iload_n 0 C dX6_moodAtDoor_0 rfl (lv_at hl 2 rfl) ?_
  refine v_aload_n 1 C dX6_moodAtDoor_1 rfl (lv_at hl 0 rfl) ?_
  refine v_getr 2 (27) C dX6_moodAtDoor_2 fl_X6_18 rfl kC_24 rfl ?_
  refine v_iload_n 5 C dX6_moodAtDoor_5 rfl (lv_at hl 1 rfl) ?_
  refine v_iald 6 C dX6_moodAtDoor_6 kC_27 rfl h (fun v1 h => ?_)
  refine v_iload_n 7 C dX6_moodAtDoor_7 rfl (lv_at hl 3 rfl) ?_
  refine v_isub 8 C dX6_moodAtDoor_8 h (fun v2 h => ?_)
  refine v_mabs 9 C dX6_moodAtDoor_9 ml_X6_49 hl.1 (by decide) (Nat.le_of_ble_eq_true rfl) h (fun v3 h => ?_)
  refine v_iload 12 C dX6_moodAtDoor_12 (lv_at hl 4 rfl) ?_
  refine v_iconst 14 C (v := (1 : Int32)) dX6_moodAtDoor_14 (by decide) ?_
  refine v_isub 15 C dX6_moodAtDoor_15 h (fun v4 h => ?_)
  refine v_imul 16 C dX6_moodAtDoor_16 h (fun v5 h => ?_)
  refine v_iadd 17 C dX6_moodAtDoor_17 h (fun v6 h => ?_)
  obtain ⟨v7, S, hc, h⟩ := zb_e h
  refine v_callSi 18 C [] dX6_moodAtDoor_18 ml_X6_55 hy_X6_moodWithin (c_X6_moodWithin  hc) (by decide) rfl hl.1 (Nat.le_of_ble_eq_true rfl) rfl ?_
  exact v_ireturn 21 C dX6_moodAtDoor_21 h
theorem c_X6_moodAtDoor {w : zWd} {l0 : Launch} {x1 : Int32} {x2 : Int32} {x3 : Int32} {x4 : Int32} {S S1 : zMem} {r : Int32} (h : f_X6_moodAtDoor x1 x2 x3 x4 S = some (r, S1)) : zMet LC w l0 yX6_moodAtDoor cX6_moodAtDoor 5 (some .int) 2 [.ref (w.2.2.1 24), .int x1, .int x2, .int x3, .int x4] S (some (.int r)) S1 :=
  zMet_of (by decide +kernel) (Nat.le_of_ble_eq_true rfl) (fun X ls C hl => w_X6_moodAtDoor_b0 C hl h)
theorem fl_X8_176 : zFL RX8 176 3 8 := ⟨_, rfl, by decide, zT_of (List.mem_of_getElem? (i := 182) (by decide +kernel)) rfl⟩
theorem ml_X8_348 : Cond.methodLink RX8 348 yX6_moodWithin ∈ zT := zT_of (List.mem_of_getElem? (i := 525) (by decide +kernel)) rfl
theorem fl_X8_199 : zFL RX8 199 3 9 := ⟨_, rfl, by decide, zT_of (List.mem_of_getElem? (i := 186) (by decide +kernel)) rfl⟩
theorem ml_X8_354 : Cond.methodLink RX8 354 yX6_moodAtDoor ∈ zT := zT_of (List.mem_of_getElem? (i := 534) (by decide +kernel)) rfl
theorem hy_X6_moodAtDoor : zYv yX6_moodAtDoor cX6_moodAtDoor 5 (some .int) 4 := ⟨⟨zT_of (List.mem_of_getElem? (i := 537) (by decide +kernel)) rfl, zT_of (List.mem_of_getElem? (i := 71) (by decide +kernel)) rfl, by decide, by decide +kernel, by decide +kernel, by decide +kernel⟩, zT_of (List.mem_of_getElem? (i := 535) (by decide +kernel)) rfl, zT_of (List.mem_of_getElem? (i := 536) (by decide +kernel)) rfl⟩
theorem dX8_arrivingWith_0 : decode cX8_arrivingWith 0 = .ok (.aload_n 0, 1) := by decide +kernel
theorem dX8_arrivingWith_1 : decode cX8_arrivingWith 1 = .ok (.getfield 21, 3) := by decide +kernel
theorem dX8_arrivingWith_4 : decode cX8_arrivingWith 4 = .ok (.iload_n 1, 1) := by decide +kernel
theorem dX8_arrivingWith_5 : decode cX8_arrivingWith 5 = .ok (.aload_n 0, 1) := by decide +kernel
theorem dX8_arrivingWith_6 : decode cX8_arrivingWith 6 = .ok (.getfield 37, 3) := by decide +kernel
theorem dX8_arrivingWith_9 : decode cX8_arrivingWith 9 = .ok (.getfield 176, 3) := by decide +kernel
theorem dX8_arrivingWith_12 : decode cX8_arrivingWith 12 = .ok (.iload_n 2, 1) := by decide +kernel
theorem dX8_arrivingWith_13 : decode cX8_arrivingWith 13 = .ok (.iadd, 1) := by decide +kernel
theorem dX8_arrivingWith_14 : decode cX8_arrivingWith 14 = .ok (.invokestatic 348, 3) := by decide +kernel
theorem dX8_arrivingWith_17 : decode cX8_arrivingWith 17 = .ok (.aload_n 0, 1) := by decide +kernel
theorem dX8_arrivingWith_18 : decode cX8_arrivingWith 18 = .ok (.getfield 37, 3) := by decide +kernel
theorem dX8_arrivingWith_21 : decode cX8_arrivingWith 21 = .ok (.getfield 351, 3) := by decide +kernel
theorem dX8_arrivingWith_24 : decode cX8_arrivingWith 24 = .ok (.aload_n 0, 1) := by decide +kernel
theorem dX8_arrivingWith_25 : decode cX8_arrivingWith 25 = .ok (.getfield 37, 3) := by decide +kernel
theorem dX8_arrivingWith_28 : decode cX8_arrivingWith 28 = .ok (.getfield 199, 3) := by decide +kernel
theorem dX8_arrivingWith_31 : decode cX8_arrivingWith 31 = .ok (.invokevirtual 354, 3) := by decide +kernel
theorem dX8_arrivingWith_34 : decode cX8_arrivingWith 34 = .ok (.ireturn, 1) := by decide +kernel
set_option maxRecDepth 20000 in
theorem w_X8_arrivingWith_b0 {w : zWd} {X : zX} {l0 : Launch} {r : Int32} {S1 : zMem} (C : zC LC w X l0 cX8_arrivingWith RX8 3 3 (some .int)) {x1 : Int32} {x2 : Int32} {S : zMem} {ls : Array Slot} (hl : lv_has ls 3 [(0, .ref (w.2.2.1 0)), (1, .int x1), (2, .int x2)]) (h : X8_arrivingWith_b0 x1 x2 S = some (r, S1)) : zV LC w X (some (.int r)) S1 S 0 ls [] := by
  unfold X8_arrivingWith_b0 at h
  refine v_aload_n 0 C dX8_arrivingWith_0 rfl (lv_at hl 0 rfl) ?_
  refine v_getr 1 (24) C dX8_arrivingWith_1 fl_X8_21 rfl kC_0 rfl ?_
  refine v_iload_n 4 C dX8_arrivingWith_4 rfl (lv_at hl 1 rfl) ?_
  refine v_aload_n 5 C dX8_arrivingWith_5 rfl (lv_at hl 0 rfl) ?_
  refine v_getr 6 (35) C dX8_arrivingWith_6 fl_X8_37 rfl kC_0 rfl ?_
  refine v_geti 9 C dX8_arrivingWith_9 fl_X8_176 rfl kC_35 h (fun v1 h => ?_)
  refine v_iload_n 12 C dX8_arrivingWith_12 rfl (lv_at hl 2 rfl) ?_
  refine v_iadd 13 C dX8_arrivingWith_13 h (fun v2 h => ?_)
  obtain ⟨v3, S, hc, h⟩ := zb_e h
  refine v_callSi 14 C [.int x1, .ref (w.2.2.1 24)] dX8_arrivingWith_14 ml_X8_348 hy_X6_moodWithin (c_X6_moodWithin  hc) (by decide) rfl hl.1 (Nat.le_of_ble_eq_true rfl) rfl ?_
  refine v_aload_n 17 C dX8_arrivingWith_17 rfl (lv_at hl 0 rfl) ?_
  refine v_getr 18 (35) C dX8_arrivingWith_18 fl_X8_37 rfl kC_0 rfl ?_
  refine v_geti 21 C dX8_arrivingWith_21 fl_X8_351 rfl kC_35 h (fun v4 h => ?_)
  refine v_aload_n 24 C dX8_arrivingWith_24 rfl (lv_at hl 0 rfl) ?_
  refine v_getr 25 (35) C dX8_arrivingWith_25 fl_X8_37 rfl kC_0 rfl ?_
  refine v_geti 28 C dX8_arrivingWith_28 fl_X8_199 rfl kC_35 h (fun v5 h => ?_)
  obtain ⟨v6, S, hc, h⟩ := zb_e h
  refine v_callVi 31 C (ci := 5) [] dX8_arrivingWith_31 ml_X8_354 hy_X6_moodAtDoor (c_X6_moodAtDoor  hc) (by decide) rfl hl.1 kC_24 rfl (Nat.le_of_ble_eq_true rfl) rfl ?_
  exact v_ireturn 34 C dX8_arrivingWith_34 h
theorem c_X8_arrivingWith {w : zWd} {l0 : Launch} {x1 : Int32} {x2 : Int32} {S S1 : zMem} {r : Int32} (h : f_X8_arrivingWith x1 x2 S = some (r, S1)) : zMet LC w l0 yX8_arrivingWith cX8_arrivingWith 3 (some .int) 3 [.ref (w.2.2.1 0), .int x1, .int x2] S (some (.int r)) S1 :=
  zMet_of (by decide +kernel) (Nat.le_of_ble_eq_true rfl) (fun X ls C hl => w_X8_arrivingWith_b0 C hl h)
theorem ml_X1_25 : Cond.methodLink RX1 25 Lib.Math.min.name ∈ zT := zT_of (List.mem_of_getElem? (i := 548) (by decide +kernel)) rfl
theorem ml_X1_19 : Cond.methodLink RX1 19 Lib.Math.max.name ∈ zT := zT_of (List.mem_of_getElem? (i := 547) (by decide +kernel)) rfl
theorem dX1_warmth_0 : decode cX1_warmth 0 = .ok (.iload_n 0, 1) := by decide +kernel
theorem dX1_warmth_1 : decode cX1_warmth 1 = .ok (.tableswitch 62 1 5 #[35, 37, 47, 56, 47], 35) := by decide +kernel
theorem dX1_warmth_36 : decode cX1_warmth 36 = .ok (.iload_n 1, 1) := by decide +kernel
theorem dX1_warmth_37 : decode cX1_warmth 37 = .ok (.ireturn, 1) := by decide +kernel
theorem dX1_warmth_38 : decode cX1_warmth 38 = .ok (.iconst 5, 1) := by decide +kernel
theorem dX1_warmth_39 : decode cX1_warmth 39 = .ok (.iload_n 1, 1) := by decide +kernel
theorem dX1_warmth_40 : decode cX1_warmth 40 = .ok (.iload_n 2, 1) := by decide +kernel
theorem dX1_warmth_41 : decode cX1_warmth 41 = .ok (.iadd, 1) := by decide +kernel
theorem dX1_warmth_42 : decode cX1_warmth 42 = .ok (.iconst 2, 1) := by decide +kernel
theorem dX1_warmth_43 : decode cX1_warmth 43 = .ok (.idiv, 1) := by decide +kernel
theorem dX1_warmth_44 : decode cX1_warmth 44 = .ok (.invokestatic 19, 3) := by decide +kernel
theorem dX1_warmth_47 : decode cX1_warmth 47 = .ok (.ireturn, 1) := by decide +kernel
theorem dX1_warmth_48 : decode cX1_warmth 48 = .ok (.bipush 9, 2) := by decide +kernel
theorem dX1_warmth_50 : decode cX1_warmth 50 = .ok (.iload_n 1, 1) := by decide +kernel
theorem dX1_warmth_51 : decode cX1_warmth 51 = .ok (.iload_n 2, 1) := by decide +kernel
theorem dX1_warmth_52 : decode cX1_warmth 52 = .ok (.iadd, 1) := by decide +kernel
theorem dX1_warmth_53 : decode cX1_warmth 53 = .ok (.invokestatic 25, 3) := by decide +kernel
theorem dX1_warmth_56 : decode cX1_warmth 56 = .ok (.ireturn, 1) := by decide +kernel
theorem dX1_warmth_57 : decode cX1_warmth 57 = .ok (.iconst 5, 1) := by decide +kernel
theorem dX1_warmth_58 : decode cX1_warmth 58 = .ok (.iload_n 1, 1) := by decide +kernel
theorem dX1_warmth_59 : decode cX1_warmth 59 = .ok (.invokestatic 19, 3) := by decide +kernel
theorem dX1_warmth_62 : decode cX1_warmth 62 = .ok (.ireturn, 1) := by decide +kernel
theorem dX1_warmth_63 : decode cX1_warmth 63 = .ok (.iload_n 1, 1) := by decide +kernel
theorem dX1_warmth_64 : decode cX1_warmth 64 = .ok (.iload_n 2, 1) := by decide +kernel
theorem dX1_warmth_65 : decode cX1_warmth 65 = .ok (.iadd, 1) := by decide +kernel
theorem dX1_warmth_66 : decode cX1_warmth 66 = .ok (.iconst 2, 1) := by decide +kernel
theorem dX1_warmth_67 : decode cX1_warmth 67 = .ok (.idiv, 1) := by decide +kernel
theorem dX1_warmth_68 : decode cX1_warmth 68 = .ok (.ireturn, 1) := by decide +kernel
set_option maxRecDepth 20000 in
theorem w_X1_warmth_b48 {w : zWd} {X : zX} {l0 : Launch} {r : Int32} {S1 : zMem} (C : zC LC w X l0 cX1_warmth RX1 3 1 (some .int)) {x1 : Int32} {x2 : Int32} {S : zMem} {ls : Array Slot} (hl : lv_has ls 3 [(1, .int x1), (2, .int x2)]) (h : X1_warmth_b48 x1 x2 S = some (r, S1)) : zV LC w X (some (.int r)) S1 S 48 ls [] := by
  unfold X1_warmth_b48 at h
  refine v_bipush 48 C (v := (9 : Int32)) dX1_warmth_48 (by decide) ?_
  refine v_iload_n 50 C dX1_warmth_50 rfl (lv_at hl 0 rfl) ?_
  refine v_iload_n 51 C dX1_warmth_51 rfl (lv_at hl 1 rfl) ?_
  refine v_iadd 52 C dX1_warmth_52 h (fun v1 h => ?_)
  refine v_mmin 53 C dX1_warmth_53 ml_X1_25 hl.1 (by decide) (Nat.le_of_ble_eq_true rfl) h (fun v2 h => ?_)
  exact v_ireturn 56 C dX1_warmth_56 h
set_option maxRecDepth 20000 in
theorem w_X1_warmth_b0 {w : zWd} {X : zX} {l0 : Launch} {r : Int32} {S1 : zMem} (C : zC LC w X l0 cX1_warmth RX1 3 1 (some .int)) {x0 : Int32} {x1 : Int32} {x2 : Int32} {S : zMem} {ls : Array Slot} (hl : lv_has ls 3 [(0, .int x0), (1, .int x1), (2, .int x2)]) (h : X1_warmth_b0 x0 x1 x2 S = some (r, S1)) : zV LC w X (some (.int r)) S1 S 0 ls [] := by
  unfold X1_warmth_b0 at h
  refine v_iload_n 0 C dX1_warmth_0 rfl (lv_at hl 0 rfl) ?_
  refine v_ite h (fun hq1 h => ?_) (fun hq1 h => ?_)
  · refine v_tab 1 36 C (x := x0) (off := 35) dX1_warmth_1 (by rw [hq1]; decide) (by rw [hq1]; decide) (by rw [hq1]; rfl) (by decide) ?_
    refine v_iload_n 36 C dX1_warmth_36 rfl (lv_at hl 1 rfl) ?_
    exact v_ireturn 37 C dX1_warmth_37 h
  · refine v_ite h (fun hq5 h => ?_) (fun hq5 h => ?_)
    · refine v_tab 1 38 C (x := x0) (off := 37) dX1_warmth_1 (by rw [hq5]; decide) (by rw [hq5]; decide) (by rw [hq5]; rfl) (by decide) ?_
      refine v_iconst 38 C (v := (5 : Int32)) dX1_warmth_38 (by decide) ?_
      refine v_iload_n 39 C dX1_warmth_39 rfl (lv_at hl 1 rfl) ?_
      refine v_iload_n 40 C dX1_warmth_40 rfl (lv_at hl 2 rfl) ?_
      refine v_iadd 41 C dX1_warmth_41 h (fun v2 h => ?_)
      refine v_iconst 42 C (v := (2 : Int32)) dX1_warmth_42 (by decide) ?_
      refine v_idiv 43 C dX1_warmth_43 (by decide) h (fun v3 h => ?_)
      refine v_mmax 44 C dX1_warmth_44 ml_X1_19 hl.1 (by decide) (Nat.le_of_ble_eq_true rfl) h (fun v4 h => ?_)
      exact v_ireturn 47 C dX1_warmth_47 h
    · refine v_ite h (fun hq6 h => ?_) (fun hq6 h => ?_)
      · refine v_tab 1 48 C (x := x0) (off := 47) dX1_warmth_1 (by rw [hq6]; decide) (by rw [hq6]; decide) (by rw [hq6]; rfl) (by decide) ?_
        exact w_X1_warmth_b48 C (lv_sub hl [1, 2] rfl) h
      · refine v_ite h (fun hq8 h => ?_) (fun hq8 h => ?_)
        · refine v_tab 1 57 C (x := x0) (off := 56) dX1_warmth_1 (by rw [hq8]; decide) (by rw [hq8]; decide) (by rw [hq8]; rfl) (by decide) ?_
          refine v_iconst 57 C (v := (5 : Int32)) dX1_warmth_57 (by decide) ?_
          refine v_iload_n 58 C dX1_warmth_58 rfl (lv_at hl 1 rfl) ?_
          refine v_mmax 59 C dX1_warmth_59 ml_X1_19 hl.1 (by decide) (Nat.le_of_ble_eq_true rfl) h (fun v7 h => ?_)
          exact v_ireturn 62 C dX1_warmth_62 h
        · refine v_ite h (fun hq9 h => ?_) (fun hq9 h => ?_)
          · refine v_tab 1 48 C (x := x0) (off := 47) dX1_warmth_1 (by rw [hq9]; decide) (by rw [hq9]; decide) (by rw [hq9]; rfl) (by decide) ?_
            exact w_X1_warmth_b48 C (lv_sub hl [1, 2] rfl) h
          · refine v_tabo 1 63 C (x := x0) dX1_warmth_1 (by have hq1z := zne hq1 (show ((1 : Int32)).toInt = 1 by decide); have hq5z := zne hq5 (show ((2 : Int32)).toInt = 2 by decide); have hq6z := zne hq6 (show ((3 : Int32)).toInt = 3 by decide); have hq8z := zne hq8 (show ((4 : Int32)).toInt = 4 by decide); have hq9z := zne hq9 (show ((5 : Int32)).toInt = 5 by decide); omega) (by decide) ?_
            refine v_iload_n 63 C dX1_warmth_63 rfl (lv_at hl 1 rfl) ?_
            refine v_iload_n 64 C dX1_warmth_64 rfl (lv_at hl 2 rfl) ?_
            refine v_iadd 65 C dX1_warmth_65 h (fun v10 h => ?_)
            refine v_iconst 66 C (v := (2 : Int32)) dX1_warmth_66 (by decide) ?_
            refine v_idiv 67 C dX1_warmth_67 (by decide) h (fun v11 h => ?_)
            exact v_ireturn 68 C dX1_warmth_68 h
theorem c_X1_warmth {w : zWd} {l0 : Launch} {x0 : Int32} {x1 : Int32} {x2 : Int32} {S S1 : zMem} {r : Int32} (h : f_X1_warmth x0 x1 x2 S = some (r, S1)) : zMet LC w l0 yX1_warmth cX1_warmth 3 (some .int) 1 [.int x0, .int x1, .int x2] S (some (.int r)) S1 :=
  zMet_of (by decide +kernel) (Nat.le_of_ble_eq_true rfl) (fun X ls C hl => w_X1_warmth_b0 C hl h)
theorem ml_X6_58 : Cond.methodLink RX6 58 yX1_warmth ∈ zT := zT_of (List.mem_of_getElem? (i := 544) (by decide +kernel)) rfl
theorem hy_X1_warmth : zYs yX1_warmth cX1_warmth 3 (some .int) 3 := ⟨⟨zT_of (List.mem_of_getElem? (i := 546) (by decide +kernel)) rfl, zT_of (List.mem_of_getElem? (i := 80) (by decide +kernel)) rfl, by decide, by decide +kernel, by decide +kernel, by decide +kernel⟩, zT_of (List.mem_of_getElem? (i := 545) (by decide +kernel)) rfl⟩
theorem dX6_warmth_0 : decode cX6_warmth 0 = .ok (.aload_n 0, 1) := by decide +kernel
theorem dX6_warmth_1 : decode cX6_warmth 1 = .ok (.getfield 15, 3) := by decide +kernel
theorem dX6_warmth_4 : decode cX6_warmth 4 = .ok (.iload_n 1, 1) := by decide +kernel
theorem dX6_warmth_5 : decode cX6_warmth 5 = .ok (.iaload, 1) := by decide +kernel
theorem dX6_warmth_6 : decode cX6_warmth 6 = .ok (.aload_n 0, 1) := by decide +kernel
theorem dX6_warmth_7 : decode cX6_warmth 7 = .ok (.getfield 21, 3) := by decide +kernel
theorem dX6_warmth_10 : decode cX6_warmth 10 = .ok (.iload_n 1, 1) := by decide +kernel
theorem dX6_warmth_11 : decode cX6_warmth 11 = .ok (.iaload, 1) := by decide +kernel
theorem dX6_warmth_12 : decode cX6_warmth 12 = .ok (.iload_n 2, 1) := by decide +kernel
theorem dX6_warmth_13 : decode cX6_warmth 13 = .ok (.invokestatic 58, 3) := by decide +kernel
theorem dX6_warmth_16 : decode cX6_warmth 16 = .ok (.ireturn, 1) := by decide +kernel
set_option maxRecDepth 20000 in
theorem w_X6_warmth_b0 {w : zWd} {X : zX} {l0 : Launch} {r : Int32} {S1 : zMem} (C : zC LC w X l0 cX6_warmth RX6 3 2 (some .int)) {x1 : Int32} {x2 : Int32} {S : zMem} {ls : Array Slot} (hl : lv_has ls 3 [(0, .ref (w.2.2.1 24)), (1, .int x1), (2, .int x2)]) (h : X6_warmth_b0 x1 x2 S = some (r, S1)) : zV LC w X (some (.int r)) S1 S 0 ls [] := by
  unfold X6_warmth_b0 at h
  refine v_aload_n 0 C dX6_warmth_0 rfl (lv_at hl 0 rfl) ?_
  refine v_getr 1 (26) C dX6_warmth_1 fl_X6_15 rfl kC_24 rfl ?_
  refine v_iload_n 4 C dX6_warmth_4 rfl (lv_at hl 1 rfl) ?_
  refine v_iald 5 C dX6_warmth_5 kC_26 rfl h (fun v1 h => ?_)
  refine v_aload_n 6 C dX6_warmth_6 rfl (lv_at hl 0 rfl) ?_
  refine v_getr 7 (28) C dX6_warmth_7 fl_X6_21 rfl kC_24 rfl ?_
  refine v_iload_n 10 C dX6_warmth_10 rfl (lv_at hl 1 rfl) ?_
  refine v_iald 11 C dX6_warmth_11 kC_28 rfl h (fun v2 h => ?_)
  refine v_iload_n 12 C dX6_warmth_12 rfl (lv_at hl 2 rfl) ?_
  obtain ⟨v3, S, hc, h⟩ := zb_e h
  refine v_callSi 13 C [] dX6_warmth_13 ml_X6_58 hy_X1_warmth (c_X1_warmth  hc) (by decide) rfl hl.1 (Nat.le_of_ble_eq_true rfl) rfl ?_
  exact v_ireturn 16 C dX6_warmth_16 h
theorem c_X6_warmth {w : zWd} {l0 : Launch} {x1 : Int32} {x2 : Int32} {S S1 : zMem} {r : Int32} (h : f_X6_warmth x1 x2 S = some (r, S1)) : zMet LC w l0 yX6_warmth cX6_warmth 3 (some .int) 2 [.ref (w.2.2.1 24), .int x1, .int x2] S (some (.int r)) S1 :=
  zMet_of (by decide +kernel) (Nat.le_of_ble_eq_true rfl) (fun X ls C hl => w_X6_warmth_b0 C hl h)
theorem fl_X8_167 : zFL RX8 167 5 1 := ⟨_, rfl, by decide, zT_of (List.mem_of_getElem? (i := 104) (by decide +kernel)) rfl⟩
theorem fl_X8_236 : zFL RX8 236 5 2 := ⟨_, rfl, by decide, zT_of (List.mem_of_getElem? (i := 110) (by decide +kernel)) rfl⟩
theorem fl_X8_173 : zFL RX8 173 5 3 := ⟨_, rfl, by decide, zT_of (List.mem_of_getElem? (i := 113) (by decide +kernel)) rfl⟩
theorem ml_X8_183 : Cond.methodLink RX8 183 yX4_wasCarried ∈ zT := zT_of (List.mem_of_getElem? (i := 517) (by decide +kernel)) rfl
theorem hy_X4_wasCarried : zYv yX4_wasCarried cX4_wasCarried 2 (some .boolean) 1 := ⟨⟨zT_of (List.mem_of_getElem? (i := 520) (by decide +kernel)) rfl, zT_of (List.mem_of_getElem? (i := 73) (by decide +kernel)) rfl, by decide, by decide +kernel, by decide +kernel, by decide +kernel⟩, zT_of (List.mem_of_getElem? (i := 518) (by decide +kernel)) rfl, zT_of (List.mem_of_getElem? (i := 519) (by decide +kernel)) rfl⟩
theorem fl_X8_193 : zFL RX8 193 3 2 := ⟨_, rfl, by decide, zT_of (List.mem_of_getElem? (i := 170) (by decide +kernel)) rfl⟩
theorem ml_X8_225 : Cond.methodLink RX8 225 yX8_arrivingWith ∈ zT := zT_of (List.mem_of_getElem? (i := 521) (by decide +kernel)) rfl
theorem hy_X8_arrivingWith : zYv yX8_arrivingWith cX8_arrivingWith 3 (some .int) 2 := ⟨⟨zT_of (List.mem_of_getElem? (i := 524) (by decide +kernel)) rfl, zT_of (List.mem_of_getElem? (i := 70) (by decide +kernel)) rfl, by decide, by decide +kernel, by decide +kernel, by decide +kernel⟩, zT_of (List.mem_of_getElem? (i := 523) (by decide +kernel)) rfl, zT_of (List.mem_of_getElem? (i := 10) (by decide +kernel)) rfl⟩
theorem ml_X8_228 : Cond.methodLink RX8 228 yX6_warmth ∈ zT := zT_of (List.mem_of_getElem? (i := 540) (by decide +kernel)) rfl
theorem hy_X6_warmth : zYv yX6_warmth cX6_warmth 3 (some .int) 2 := ⟨⟨zT_of (List.mem_of_getElem? (i := 543) (by decide +kernel)) rfl, zT_of (List.mem_of_getElem? (i := 71) (by decide +kernel)) rfl, by decide, by decide +kernel, by decide +kernel, by decide +kernel⟩, zT_of (List.mem_of_getElem? (i := 541) (by decide +kernel)) rfl, zT_of (List.mem_of_getElem? (i := 542) (by decide +kernel)) rfl⟩
theorem dX8_ofLetter_0 : decode cX8_ofLetter 0 = .ok (.iload_n 2, 1) := by decide +kernel
theorem dX8_ofLetter_1 : decode cX8_ofLetter 1 = .ok (.tableswitch 87 0 3 #[31, 41, 51, 61], 31) := by decide +kernel
theorem dX8_ofLetter_32 : decode cX8_ofLetter 32 = .ok (.aload_n 0, 1) := by decide +kernel
theorem dX8_ofLetter_33 : decode cX8_ofLetter 33 = .ok (.getfield 21, 3) := by decide +kernel
theorem dX8_ofLetter_36 : decode cX8_ofLetter 36 = .ok (.getfield 167, 3) := by decide +kernel
theorem dX8_ofLetter_39 : decode cX8_ofLetter 39 = .ok (.iload_n 1, 1) := by decide +kernel
theorem dX8_ofLetter_40 : decode cX8_ofLetter 40 = .ok (.iaload, 1) := by decide +kernel
theorem dX8_ofLetter_41 : decode cX8_ofLetter 41 = .ok (.ireturn, 1) := by decide +kernel
theorem dX8_ofLetter_42 : decode cX8_ofLetter 42 = .ok (.aload_n 0, 1) := by decide +kernel
theorem dX8_ofLetter_43 : decode cX8_ofLetter 43 = .ok (.getfield 21, 3) := by decide +kernel
theorem dX8_ofLetter_46 : decode cX8_ofLetter 46 = .ok (.getfield 236, 3) := by decide +kernel
theorem dX8_ofLetter_49 : decode cX8_ofLetter 49 = .ok (.iload_n 1, 1) := by decide +kernel
theorem dX8_ofLetter_50 : decode cX8_ofLetter 50 = .ok (.iaload, 1) := by decide +kernel
theorem dX8_ofLetter_51 : decode cX8_ofLetter 51 = .ok (.ireturn, 1) := by decide +kernel
theorem dX8_ofLetter_52 : decode cX8_ofLetter 52 = .ok (.aload_n 0, 1) := by decide +kernel
theorem dX8_ofLetter_53 : decode cX8_ofLetter 53 = .ok (.getfield 21, 3) := by decide +kernel
theorem dX8_ofLetter_56 : decode cX8_ofLetter 56 = .ok (.getfield 173, 3) := by decide +kernel
theorem dX8_ofLetter_59 : decode cX8_ofLetter 59 = .ok (.iload_n 1, 1) := by decide +kernel
theorem dX8_ofLetter_60 : decode cX8_ofLetter 60 = .ok (.iaload, 1) := by decide +kernel
theorem dX8_ofLetter_61 : decode cX8_ofLetter 61 = .ok (.ireturn, 1) := by decide +kernel
theorem dX8_ofLetter_62 : decode cX8_ofLetter 62 = .ok (.aload_n 0, 1) := by decide +kernel
theorem dX8_ofLetter_63 : decode cX8_ofLetter 63 = .ok (.getfield 37, 3) := by decide +kernel
theorem dX8_ofLetter_66 : decode cX8_ofLetter 66 = .ok (.iload_n 1, 1) := by decide +kernel
theorem dX8_ofLetter_67 : decode cX8_ofLetter 67 = .ok (.invokevirtual 183, 3) := by decide +kernel
theorem dX8_ofLetter_70 : decode cX8_ofLetter 70 = .ok (.ifCond .eq 15, 3) := by decide +kernel
theorem dX8_ofLetter_73 : decode cX8_ofLetter 73 = .ok (.aload_n 0, 1) := by decide +kernel
theorem dX8_ofLetter_74 : decode cX8_ofLetter 74 = .ok (.getfield 37, 3) := by decide +kernel
theorem dX8_ofLetter_77 : decode cX8_ofLetter 77 = .ok (.getfield 193, 3) := by decide +kernel
theorem dX8_ofLetter_80 : decode cX8_ofLetter 80 = .ok (.iload_n 1, 1) := by decide +kernel
theorem dX8_ofLetter_81 : decode cX8_ofLetter 81 = .ok (.iaload, 1) := by decide +kernel
theorem dX8_ofLetter_82 : decode cX8_ofLetter 82 = .ok (.goto 5, 3) := by decide +kernel
theorem dX8_ofLetter_85 : decode cX8_ofLetter 85 = .ok (.bipush (-9), 2) := by decide +kernel
theorem dX8_ofLetter_87 : decode cX8_ofLetter 87 = .ok (.ireturn, 1) := by decide +kernel
theorem dX8_ofLetter_88 : decode cX8_ofLetter 88 = .ok (.aload_n 0, 1) := by decide +kernel
theorem dX8_ofLetter_89 : decode cX8_ofLetter 89 = .ok (.getfield 21, 3) := by decide +kernel
theorem dX8_ofLetter_92 : decode cX8_ofLetter 92 = .ok (.iload_n 1, 1) := by decide +kernel
theorem dX8_ofLetter_93 : decode cX8_ofLetter 93 = .ok (.aload_n 0, 1) := by decide +kernel
theorem dX8_ofLetter_94 : decode cX8_ofLetter 94 = .ok (.iload_n 1, 1) := by decide +kernel
theorem dX8_ofLetter_95 : decode cX8_ofLetter 95 = .ok (.iconst 0, 1) := by decide +kernel
theorem dX8_ofLetter_96 : decode cX8_ofLetter 96 = .ok (.invokevirtual 225, 3) := by decide +kernel
theorem dX8_ofLetter_99 : decode cX8_ofLetter 99 = .ok (.invokevirtual 228, 3) := by decide +kernel
theorem dX8_ofLetter_102 : decode cX8_ofLetter 102 = .ok (.ireturn, 1) := by decide +kernel
set_option maxRecDepth 20000 in
theorem w_X8_ofLetter_b87 {w : zWd} {X : zX} {l0 : Launch} {r : Int32} {S1 : zMem} (C : zC LC w X l0 cX8_ofLetter RX8 3 4 (some .int)) {s0 : Int32} {S : zMem} {ls : Array Slot} (hl : lv_has ls 3 []) (h : X8_ofLetter_b87 s0 S = some (r, S1)) : zV LC w X (some (.int r)) S1 S 87 ls [.int s0] := by
  unfold X8_ofLetter_b87 at h
  exact v_ireturn 87 C dX8_ofLetter_87 h
set_option maxRecDepth 20000 in
theorem w_X8_ofLetter_b0 {w : zWd} {X : zX} {l0 : Launch} {r : Int32} {S1 : zMem} (C : zC LC w X l0 cX8_ofLetter RX8 3 4 (some .int)) {x1 : Int32} {x2 : Int32} {S : zMem} {ls : Array Slot} (hl : lv_has ls 3 [(0, .ref (w.2.2.1 0)), (1, .int x1), (2, .int x2)]) (h : X8_ofLetter_b0 x1 x2 S = some (r, S1)) : zV LC w X (some (.int r)) S1 S 0 ls [] := by
  unfold X8_ofLetter_b0 at h
  refine v_iload_n 0 C dX8_ofLetter_0 rfl (lv_at hl 2 rfl) ?_
  refine v_ite h (fun hq2 h => ?_) (fun hq2 h => ?_)
  · refine v_tab 1 32 C (x := x2) (off := 31) dX8_ofLetter_1 (by rw [hq2]; decide) (by rw [hq2]; decide) (by rw [hq2]; rfl) (by decide) ?_
    refine v_aload_n 32 C dX8_ofLetter_32 rfl (lv_at hl 0 rfl) ?_
    refine v_getr 33 (24) C dX8_ofLetter_33 fl_X8_21 rfl kC_0 rfl ?_
    refine v_getr 36 (26) C dX8_ofLetter_36 fl_X8_167 rfl kC_24 rfl ?_
    refine v_iload_n 39 C dX8_ofLetter_39 rfl (lv_at hl 1 rfl) ?_
    refine v_iald 40 C dX8_ofLetter_40 kC_26 rfl h (fun v1 h => ?_)
    exact v_ireturn 41 C dX8_ofLetter_41 h
  · refine v_ite h (fun hq4 h => ?_) (fun hq4 h => ?_)
    · refine v_tab 1 42 C (x := x2) (off := 41) dX8_ofLetter_1 (by rw [hq4]; decide) (by rw [hq4]; decide) (by rw [hq4]; rfl) (by decide) ?_
      refine v_aload_n 42 C dX8_ofLetter_42 rfl (lv_at hl 0 rfl) ?_
      refine v_getr 43 (24) C dX8_ofLetter_43 fl_X8_21 rfl kC_0 rfl ?_
      refine v_getr 46 (27) C dX8_ofLetter_46 fl_X8_236 rfl kC_24 rfl ?_
      refine v_iload_n 49 C dX8_ofLetter_49 rfl (lv_at hl 1 rfl) ?_
      refine v_iald 50 C dX8_ofLetter_50 kC_27 rfl h (fun v3 h => ?_)
      exact v_ireturn 51 C dX8_ofLetter_51 h
    · refine v_ite h (fun hq6 h => ?_) (fun hq6 h => ?_)
      · refine v_tab 1 52 C (x := x2) (off := 51) dX8_ofLetter_1 (by rw [hq6]; decide) (by rw [hq6]; decide) (by rw [hq6]; rfl) (by decide) ?_
        refine v_aload_n 52 C dX8_ofLetter_52 rfl (lv_at hl 0 rfl) ?_
        refine v_getr 53 (24) C dX8_ofLetter_53 fl_X8_21 rfl kC_0 rfl ?_
        refine v_getr 56 (28) C dX8_ofLetter_56 fl_X8_173 rfl kC_24 rfl ?_
        refine v_iload_n 59 C dX8_ofLetter_59 rfl (lv_at hl 1 rfl) ?_
        refine v_iald 60 C dX8_ofLetter_60 kC_28 rfl h (fun v5 h => ?_)
        exact v_ireturn 61 C dX8_ofLetter_61 h
      · refine v_ite h (fun hq9 h => ?_) (fun hq9 h => ?_)
        · refine v_tab 1 62 C (x := x2) (off := 61) dX8_ofLetter_1 (by rw [hq9]; decide) (by rw [hq9]; decide) (by rw [hq9]; rfl) (by decide) ?_
          refine v_aload_n 62 C dX8_ofLetter_62 rfl (lv_at hl 0 rfl) ?_
          refine v_getr 63 (35) C dX8_ofLetter_63 fl_X8_37 rfl kC_0 rfl ?_
          refine v_iload_n 66 C dX8_ofLetter_66 rfl (lv_at hl 1 rfl) ?_
          obtain ⟨v7, S, hc, h⟩ := zb_e h
          refine v_callVi 67 C (ci := 3) [] dX8_ofLetter_67 ml_X8_183 hy_X4_wasCarried (c_X4_wasCarried kC_35 hc) (by decide) rfl hl.1 kC_35 rfl (Nat.le_of_ble_eq_true rfl) rfl ?_
          refine v_if_eq 70 85 C dX8_ofLetter_70 (by decide) h (fun h => ?_) (fun h => ?_)
          · refine v_bipush 85 C (v := (-9 : Int32)) dX8_ofLetter_85 (by decide) ?_
            exact w_X8_ofLetter_b87 C (lv_sub hl [] rfl) h
          · refine v_aload_n 73 C dX8_ofLetter_73 rfl (lv_at hl 0 rfl) ?_
            refine v_getr 74 (35) C dX8_ofLetter_74 fl_X8_37 rfl kC_0 rfl ?_
            refine v_getr 77 (37) C dX8_ofLetter_77 fl_X8_193 rfl kC_35 rfl ?_
            refine v_iload_n 80 C dX8_ofLetter_80 rfl (lv_at hl 1 rfl) ?_
            refine v_iald 81 C dX8_ofLetter_81 kC_37 rfl h (fun v8 h => ?_)
            refine v_goto 82 87 C dX8_ofLetter_82 (by decide) ?_
            exact w_X8_ofLetter_b87 C (lv_sub hl [] rfl) h
        · refine v_tabo 1 88 C (x := x2) dX8_ofLetter_1 (by have hq2z := zne hq2 (show ((0 : Int32)).toInt = 0 by decide); have hq4z := zne hq4 (show ((1 : Int32)).toInt = 1 by decide); have hq6z := zne hq6 (show ((2 : Int32)).toInt = 2 by decide); have hq9z := zne hq9 (show ((3 : Int32)).toInt = 3 by decide); omega) (by decide) ?_
          refine v_aload_n 88 C dX8_ofLetter_88 rfl (lv_at hl 0 rfl) ?_
          refine v_getr 89 (24) C dX8_ofLetter_89 fl_X8_21 rfl kC_0 rfl ?_
          refine v_iload_n 92 C dX8_ofLetter_92 rfl (lv_at hl 1 rfl) ?_
          refine v_aload_n 93 C dX8_ofLetter_93 rfl (lv_at hl 0 rfl) ?_
          refine v_iload_n 94 C dX8_ofLetter_94 rfl (lv_at hl 1 rfl) ?_
          refine v_iconst 95 C (v := (0 : Int32)) dX8_ofLetter_95 (by decide) ?_
          obtain ⟨v10, S, hc, h⟩ := zb_e h
          refine v_callVi 96 C (ci := 7) [.int x1, .ref (w.2.2.1 24)] dX8_ofLetter_96 ml_X8_225 hy_X8_arrivingWith (c_X8_arrivingWith  hc) (by decide) rfl hl.1 kC_0 rfl (Nat.le_of_ble_eq_true rfl) rfl ?_
          obtain ⟨v11, S, hc, h⟩ := zb_e h
          refine v_callVi 99 C (ci := 5) [] dX8_ofLetter_99 ml_X8_228 hy_X6_warmth (c_X6_warmth  hc) (by decide) rfl hl.1 kC_24 rfl (Nat.le_of_ble_eq_true rfl) rfl ?_
          exact v_ireturn 102 C dX8_ofLetter_102 h
theorem c_X8_ofLetter {w : zWd} {l0 : Launch} {x1 : Int32} {x2 : Int32} {S S1 : zMem} {r : Int32} (h : f_X8_ofLetter x1 x2 S = some (r, S1)) : zMet LC w l0 yX8_ofLetter cX8_ofLetter 3 (some .int) 4 [.ref (w.2.2.1 0), .int x1, .int x2] S (some (.int r)) S1 :=
  zMet_of (by decide +kernel) (Nat.le_of_ble_eq_true rfl) (fun X ls C hl => w_X8_ofLetter_b0 C hl h)
theorem ml_X8_159 : Cond.methodLink RX8 159 yX8_isLetter ∈ zT := zT_of (List.mem_of_getElem? (i := 509) (by decide +kernel)) rfl
theorem hy_X8_isLetter : zYv yX8_isLetter cX8_isLetter 2 (some .boolean) 1 := ⟨⟨zT_of (List.mem_of_getElem? (i := 512) (by decide +kernel)) rfl, zT_of (List.mem_of_getElem? (i := 70) (by decide +kernel)) rfl, by decide, by decide +kernel, by decide +kernel, by decide +kernel⟩, zT_of (List.mem_of_getElem? (i := 511) (by decide +kernel)) rfl, zT_of (List.mem_of_getElem? (i := 8) (by decide +kernel)) rfl⟩
theorem ml_X8_162 : Cond.methodLink RX8 162 yX8_ofLetter ∈ zT := zT_of (List.mem_of_getElem? (i := 513) (by decide +kernel)) rfl
theorem hy_X8_ofLetter : zYv yX8_ofLetter cX8_ofLetter 3 (some .int) 2 := ⟨⟨zT_of (List.mem_of_getElem? (i := 516) (by decide +kernel)) rfl, zT_of (List.mem_of_getElem? (i := 70) (by decide +kernel)) rfl, by decide, by decide +kernel, by decide +kernel, by decide +kernel⟩, zT_of (List.mem_of_getElem? (i := 515) (by decide +kernel)) rfl, zT_of (List.mem_of_getElem? (i := 9) (by decide +kernel)) rfl⟩
theorem dX8_letter_0 : decode cX8_letter 0 = .ok (.aload_n 0, 1) := by decide +kernel
theorem dX8_letter_1 : decode cX8_letter 1 = .ok (.iload_n 1, 1) := by decide +kernel
theorem dX8_letter_2 : decode cX8_letter 2 = .ok (.invokevirtual 159, 3) := by decide +kernel
theorem dX8_letter_5 : decode cX8_letter 5 = .ok (.ifCond .eq 11, 3) := by decide +kernel
theorem dX8_letter_8 : decode cX8_letter 8 = .ok (.iload_n 2, 1) := by decide +kernel
theorem dX8_letter_9 : decode cX8_letter 9 = .ok (.iconst 4, 1) := by decide +kernel
theorem dX8_letter_10 : decode cX8_letter 10 = .ok (.invokestatic 152, 3) := by decide +kernel
theorem dX8_letter_13 : decode cX8_letter 13 = .ok (.ifCond .ne 5, 3) := by decide +kernel
theorem dX8_letter_16 : decode cX8_letter 16 = .ok (.iconst (-1), 1) := by decide +kernel
theorem dX8_letter_17 : decode cX8_letter 17 = .ok (.ireturn, 1) := by decide +kernel
theorem dX8_letter_18 : decode cX8_letter 18 = .ok (.aload_n 0, 1) := by decide +kernel
theorem dX8_letter_19 : decode cX8_letter 19 = .ok (.aload_n 0, 1) := by decide +kernel
theorem dX8_letter_20 : decode cX8_letter 20 = .ok (.iload_n 1, 1) := by decide +kernel
theorem dX8_letter_21 : decode cX8_letter 21 = .ok (.iload_n 2, 1) := by decide +kernel
theorem dX8_letter_22 : decode cX8_letter 22 = .ok (.invokevirtual 162, 3) := by decide +kernel
theorem dX8_letter_25 : decode cX8_letter 25 = .ok (.invokevirtual 102, 3) := by decide +kernel
theorem dX8_letter_28 : decode cX8_letter 28 = .ok (.ireturn, 1) := by decide +kernel
set_option maxRecDepth 20000 in
theorem w_X8_letter_b16 {w : zWd} {X : zX} {l0 : Launch} {r : Int32} {S1 : zMem} (C : zC LC w X l0 cX8_letter RX8 3 5 (some .int)) {S : zMem} {ls : Array Slot} (hl : lv_has ls 3 []) (h : X8_letter_b16  S = some (r, S1)) : zV LC w X (some (.int r)) S1 S 16 ls [] := by
  unfold X8_letter_b16 at h
  refine v_iconst 16 C (v := (-1 : Int32)) dX8_letter_16 (by decide) ?_
  exact v_ireturn 17 C dX8_letter_17 h
set_option maxRecDepth 20000 in
theorem w_X8_letter_b0 {w : zWd} {X : zX} {l0 : Launch} {r : Int32} {S1 : zMem} (C : zC LC w X l0 cX8_letter RX8 3 5 (some .int)) {x1 : Int32} {x2 : Int32} {S : zMem} {ls : Array Slot} (hl : lv_has ls 3 [(0, .ref (w.2.2.1 0)), (1, .int x1), (2, .int x2)]) (h : X8_letter_b0 x1 x2 S = some (r, S1)) : zV LC w X (some (.int r)) S1 S 0 ls [] := by
  unfold X8_letter_b0 at h
  refine v_aload_n 0 C dX8_letter_0 rfl (lv_at hl 0 rfl) ?_
  refine v_iload_n 1 C dX8_letter_1 rfl (lv_at hl 1 rfl) ?_
  obtain ⟨v1, S, hc, h⟩ := zb_e h
  refine v_callVi 2 C (ci := 7) [] dX8_letter_2 ml_X8_159 hy_X8_isLetter (c_X8_isLetter  hc) (by decide) rfl hl.1 kC_0 rfl (Nat.le_of_ble_eq_true rfl) rfl ?_
  refine v_if_eq 5 16 C dX8_letter_5 (by decide) h (fun h => ?_) (fun h => ?_)
  · exact w_X8_letter_b16 C (lv_sub hl [] rfl) h
  · refine v_iload_n 8 C dX8_letter_8 rfl (lv_at hl 2 rfl) ?_
    refine v_iconst 9 C (v := (4 : Int32)) dX8_letter_9 (by decide) ?_
    obtain ⟨v2, S, hc, h⟩ := zb_e h
    refine v_callSi 10 C [] dX8_letter_10 ml_X8_152 hy_X8_within (c_X8_within  hc) (by decide) rfl hl.1 (Nat.le_of_ble_eq_true rfl) rfl ?_
    refine v_if_ne 13 18 C dX8_letter_13 (by decide) h (fun h => ?_) (fun h => ?_)
    · refine v_aload_n 18 C dX8_letter_18 rfl (lv_at hl 0 rfl) ?_
      refine v_aload_n 19 C dX8_letter_19 rfl (lv_at hl 0 rfl) ?_
      refine v_iload_n 20 C dX8_letter_20 rfl (lv_at hl 1 rfl) ?_
      refine v_iload_n 21 C dX8_letter_21 rfl (lv_at hl 2 rfl) ?_
      obtain ⟨v3, S, hc, h⟩ := zb_e h
      refine v_callVi 22 C (ci := 7) [.ref (w.2.2.1 0)] dX8_letter_22 ml_X8_162 hy_X8_ofLetter (c_X8_ofLetter  hc) (by decide) rfl hl.1 kC_0 rfl (Nat.le_of_ble_eq_true rfl) rfl ?_
      obtain ⟨v4, S, hc, h⟩ := zb_e h
      refine v_callVi 25 C (ci := 7) [] dX8_letter_25 ml_X8_102 hy_X8_tell (c_X8_tell  hc) (by decide) rfl hl.1 kC_0 rfl (Nat.le_of_ble_eq_true rfl) rfl ?_
      exact v_ireturn 28 C dX8_letter_28 h
    · exact w_X8_letter_b16 C (lv_sub hl [] rfl) h
theorem c_X8_letter {w : zWd} {l0 : Launch} {x1 : Int32} {x2 : Int32} {S S1 : zMem} {r : Int32} (h : f_X8_letter x1 x2 S = some (r, S1)) : zMet LC w l0 yX8_letter cX8_letter 3 (some .int) 5 [.ref (w.2.2.1 0), .int x1, .int x2] S (some (.int r)) S1 :=
  zMet_of (by decide +kernel) (Nat.le_of_ble_eq_true rfl) (fun X ls C hl => w_X8_letter_b0 C hl h)
theorem fs_X1_15 : Cond.fieldLink RX1 15 RX1 "PARENTS" "[I" ∈ zT := zT_of (List.mem_of_getElem? (i := 556) (by decide +kernel)) rfl
theorem dX1_isOf_0 : decode cX1_isOf 0 = .ok (.iload_n 0, 1) := by decide +kernel
theorem dX1_isOf_1 : decode cX1_isOf 1 = .ok (.istore_n 2, 1) := by decide +kernel
theorem dX1_isOf_2 : decode cX1_isOf 2 = .ok (.iconst 0, 1) := by decide +kernel
theorem dX1_isOf_3 : decode cX1_isOf 3 = .ok (.istore_n 3, 1) := by decide +kernel
theorem dX1_isOf_4 : decode cX1_isOf 4 = .ok (.iload_n 3, 1) := by decide +kernel
theorem dX1_isOf_5 : decode cX1_isOf 5 = .ok (.bipush 6, 2) := by decide +kernel
theorem dX1_isOf_7 : decode cX1_isOf 7 = .ok (.if_icmp .ge 32, 3) := by decide +kernel
theorem dX1_isOf_10 : decode cX1_isOf 10 = .ok (.iload_n 2, 1) := by decide +kernel
theorem dX1_isOf_11 : decode cX1_isOf 11 = .ok (.ifCond .lt 28, 3) := by decide +kernel
theorem dX1_isOf_14 : decode cX1_isOf 14 = .ok (.iload_n 2, 1) := by decide +kernel
theorem dX1_isOf_15 : decode cX1_isOf 15 = .ok (.bipush 6, 2) := by decide +kernel
theorem dX1_isOf_17 : decode cX1_isOf 17 = .ok (.if_icmp .ge 22, 3) := by decide +kernel
theorem dX1_isOf_20 : decode cX1_isOf 20 = .ok (.iload_n 2, 1) := by decide +kernel
theorem dX1_isOf_21 : decode cX1_isOf 21 = .ok (.iload_n 1, 1) := by decide +kernel
theorem dX1_isOf_22 : decode cX1_isOf 22 = .ok (.if_icmp .ne 5, 3) := by decide +kernel
theorem dX1_isOf_25 : decode cX1_isOf 25 = .ok (.iconst 1, 1) := by decide +kernel
theorem dX1_isOf_26 : decode cX1_isOf 26 = .ok (.ireturn, 1) := by decide +kernel
theorem dX1_isOf_27 : decode cX1_isOf 27 = .ok (.getstatic 15, 3) := by decide +kernel
theorem dX1_isOf_30 : decode cX1_isOf 30 = .ok (.iload_n 2, 1) := by decide +kernel
theorem dX1_isOf_31 : decode cX1_isOf 31 = .ok (.iaload, 1) := by decide +kernel
theorem dX1_isOf_32 : decode cX1_isOf 32 = .ok (.istore_n 2, 1) := by decide +kernel
theorem dX1_isOf_33 : decode cX1_isOf 33 = .ok (.iinc 3 1, 3) := by decide +kernel
theorem dX1_isOf_36 : decode cX1_isOf 36 = .ok (.goto (-32), 3) := by decide +kernel
theorem dX1_isOf_39 : decode cX1_isOf 39 = .ok (.iconst 0, 1) := by decide +kernel
theorem dX1_isOf_40 : decode cX1_isOf 40 = .ok (.ireturn, 1) := by decide +kernel
set_option maxRecDepth 20000 in
theorem w_X1_isOf_b39 {w : zWd} {X : zX} {l0 : Launch} {r : Int32} {S1 : zMem} (C : zC LC w X l0 cX1_isOf RX1 4 1 (some .boolean)) {S : zMem} {ls : Array Slot} (hl : lv_has ls 4 []) (h : X1_isOf_b39  S = some (r, S1)) : zV LC w X (some (.int r)) S1 S 39 ls [] := by
  unfold X1_isOf_b39 at h
  refine v_iconst 39 C (v := (0 : Int32)) dX1_isOf_39 (by decide) ?_
  exact v_zreturn 40 C dX1_isOf_40 h
set_option maxRecDepth 20000 in
theorem w_X1_isOf_b4 {w : zWd} {X : zX} {l0 : Launch} {r : Int32} {S1 : zMem} (C : zC LC w X l0 cX1_isOf RX1 4 1 (some .boolean)) {k4 : Int32 → Int32 → Int32 → zMem → Option (Int32 × zMem)} (hc4 : ∀ (x1 : Int32) (x2 : Int32) (x3 : Int32) (S : zMem) (ls : Array Slot), lv_has ls 4 [(1, .int x1), (2, .int x2), (3, .int x3)] → k4 x1 x2 x3 S = some (r, S1) → zV LC w X (some (.int r)) S1 S 4 ls []) {x1 : Int32} {x2 : Int32} {x3 : Int32} {S : zMem} {ls : Array Slot} (hl : lv_has ls 4 [(1, .int x1), (2, .int x2), (3, .int x3)]) (h : X1_isOf_b4 k4 x1 x2 x3 S = some (r, S1)) : zV LC w X (some (.int r)) S1 S 4 ls [] := by
  unfold X1_isOf_b4 at h
  refine v_iload_n 4 C dX1_isOf_4 rfl (lv_at hl 2 rfl) ?_
  refine v_bipush 5 C (v := (6 : Int32)) dX1_isOf_5 (by decide) ?_
  refine v_icmp_ge 7 39 C dX1_isOf_7 (by decide) h (fun h => ?_) (fun h => ?_)
  · exact w_X1_isOf_b39 C (lv_sub hl [] rfl) h
  · refine v_iload_n 10 C dX1_isOf_10 rfl (lv_at hl 1 rfl) ?_
    refine v_if_lt 11 39 C dX1_isOf_11 (by decide) h (fun h => ?_) (fun h => ?_)
    · exact w_X1_isOf_b39 C (lv_sub hl [] rfl) h
    · refine v_iload_n 14 C dX1_isOf_14 rfl (lv_at hl 1 rfl) ?_
      refine v_bipush 15 C (v := (6 : Int32)) dX1_isOf_15 (by decide) ?_
      refine v_icmp_ge 17 39 C dX1_isOf_17 (by decide) h (fun h => ?_) (fun h => ?_)
      · exact w_X1_isOf_b39 C (lv_sub hl [] rfl) h
      · refine v_iload_n 20 C dX1_isOf_20 rfl (lv_at hl 1 rfl) ?_
        refine v_iload_n 21 C dX1_isOf_21 rfl (lv_at hl 0 rfl) ?_
        refine v_icmp_ne 22 27 C dX1_isOf_22 (by decide) h (fun h => ?_) (fun h => ?_)
        · refine v_gpar 27 C dX1_isOf_27 fs_X1_15 ?_
          refine v_iload_n 30 C dX1_isOf_30 rfl (lv_at hl 1 rfl) ?_
          refine v_lpar 31 C dX1_isOf_31 h (fun v1 h => ?_)
          refine v_istore_n 32 C [(2, .int v1), (1, .int x1), (3, .int x3)] dX1_isOf_32 rfl hl (by decide) rfl (fun ls hl => ?_)
          refine v_iinc 33 C (nn := (1 : Int32)) (fun v => [(3, .int v), (2, .int v1), (1, .int x1)]) dX1_isOf_33 hl (k := 2) rfl (by decide) (by decide) (fun _ => rfl) h (fun v2 ls hl h => ?_)
          refine v_goto 36 4 C dX1_isOf_36 (by decide) ?_
          exact hc4 _ _ _ _ _ (lv_sub hl [2, 1, 0] rfl) h
        · refine v_iconst 25 C (v := (1 : Int32)) dX1_isOf_25 (by decide) ?_
          exact v_zreturn 26 C dX1_isOf_26 h
theorem w_X1_isOf_l4 {w : zWd} {X : zX} {l0 : Launch} {r : Int32} {S1 : zMem} (C : zC LC w X l0 cX1_isOf RX1 4 1 (some .boolean)) : ∀ (n : Nat) (x1 : Int32) (x2 : Int32) (x3 : Int32) (S : zMem) (ls : Array Slot), lv_has ls 4 [(1, .int x1), (2, .int x2), (3, .int x3)] → X1_isOf_l4 n x1 x2 x3 S = some (r, S1) → zV LC w X (some (.int r)) S1 S 4 ls [] := by
  intro n
  induction n with
  | zero =>
    intro x1 x2 x3 S ls hl h
    cases (show (none : Option (Int32 × zMem)) = some _ from h)
  | succ n ih =>
    intro x1 x2 x3 S ls hl h
    exact w_X1_isOf_b4 C ih hl h
set_option maxRecDepth 20000 in
theorem w_X1_isOf_b0 {w : zWd} {X : zX} {l0 : Launch} {r : Int32} {S1 : zMem} (C : zC LC w X l0 cX1_isOf RX1 4 1 (some .boolean)) {x0 : Int32} {x1 : Int32} {S : zMem} {ls : Array Slot} (hl : lv_has ls 4 [(0, .int x0), (1, .int x1)]) (h : X1_isOf_b0 x0 x1 S = some (r, S1)) : zV LC w X (some (.int r)) S1 S 0 ls [] := by
  unfold X1_isOf_b0 at h
  refine v_iload_n 0 C dX1_isOf_0 rfl (lv_at hl 0 rfl) ?_
  refine v_istore_n 1 C [(2, .int x0), (0, .int x0), (1, .int x1)] dX1_isOf_1 rfl hl (by decide) rfl (fun ls hl => ?_)
  refine v_iconst 2 C (v := (0 : Int32)) dX1_isOf_2 (by decide) ?_
  refine v_istore_n 3 C [(3, .int (0 : Int32)), (2, .int x0), (0, .int x0), (1, .int x1)] dX1_isOf_3 rfl hl (by decide) rfl (fun ls hl => ?_)
  exact w_X1_isOf_l4 C zF _ _ _ _ _ (lv_sub hl [3, 1, 0] rfl) h
theorem c_X1_isOf {w : zWd} {l0 : Launch} {x0 : Int32} {x1 : Int32} {S S1 : zMem} {r : Int32} (h : f_X1_isOf x0 x1 S = some (r, S1)) : zMet LC w l0 yX1_isOf cX1_isOf 4 (some .boolean) 1 [.int x0, .int x1] S (some (.int r)) S1 :=
  zMet_of (by decide +kernel) (Nat.le_of_ble_eq_true rfl) (fun X ls C hl => w_X1_isOf_b0 C hl h)
theorem ml_X1_28 : Cond.methodLink RX1 28 Lib.Math.abs.name ∈ zT := zT_of (List.mem_of_getElem? (i := 561) (by decide +kernel)) rfl
theorem ml_X1_32 : Cond.methodLink RX1 32 yX1_warmth ∈ zT := zT_of (List.mem_of_getElem? (i := 562) (by decide +kernel)) rfl
theorem dX1_markOf_0 : decode cX1_markOf 0 = .ok (.iload_n 0, 1) := by decide +kernel
theorem dX1_markOf_1 : decode cX1_markOf 1 = .ok (.tableswitch 66 1 4 #[31, 38, 52, 57], 31) := by decide +kernel
theorem dX1_markOf_32 : decode cX1_markOf 32 = .ok (.iload_n 2, 1) := by decide +kernel
theorem dX1_markOf_33 : decode cX1_markOf 33 = .ok (.iload_n 1, 1) := by decide +kernel
theorem dX1_markOf_34 : decode cX1_markOf 34 = .ok (.isub, 1) := by decide +kernel
theorem dX1_markOf_35 : decode cX1_markOf 35 = .ok (.invokestatic 28, 3) := by decide +kernel
theorem dX1_markOf_38 : decode cX1_markOf 38 = .ok (.ireturn, 1) := by decide +kernel
theorem dX1_markOf_39 : decode cX1_markOf 39 = .ok (.iconst 2, 1) := by decide +kernel
theorem dX1_markOf_40 : decode cX1_markOf 40 = .ok (.iload_n 1, 1) := by decide +kernel
theorem dX1_markOf_41 : decode cX1_markOf 41 = .ok (.iload_n 2, 1) := by decide +kernel
theorem dX1_markOf_42 : decode cX1_markOf 42 = .ok (.invokestatic 32, 3) := by decide +kernel
theorem dX1_markOf_45 : decode cX1_markOf 45 = .ok (.iconst 0, 1) := by decide +kernel
theorem dX1_markOf_46 : decode cX1_markOf 46 = .ok (.iload_n 1, 1) := by decide +kernel
theorem dX1_markOf_47 : decode cX1_markOf 47 = .ok (.iload_n 2, 1) := by decide +kernel
theorem dX1_markOf_48 : decode cX1_markOf 48 = .ok (.invokestatic 32, 3) := by decide +kernel
theorem dX1_markOf_51 : decode cX1_markOf 51 = .ok (.isub, 1) := by decide +kernel
theorem dX1_markOf_52 : decode cX1_markOf 52 = .ok (.ireturn, 1) := by decide +kernel
theorem dX1_markOf_53 : decode cX1_markOf 53 = .ok (.bipush 9, 2) := by decide +kernel
theorem dX1_markOf_55 : decode cX1_markOf 55 = .ok (.iload_n 1, 1) := by decide +kernel
theorem dX1_markOf_56 : decode cX1_markOf 56 = .ok (.isub, 1) := by decide +kernel
theorem dX1_markOf_57 : decode cX1_markOf 57 = .ok (.ireturn, 1) := by decide +kernel
theorem dX1_markOf_58 : decode cX1_markOf 58 = .ok (.iconst 4, 1) := by decide +kernel
theorem dX1_markOf_59 : decode cX1_markOf 59 = .ok (.iload_n 1, 1) := by decide +kernel
theorem dX1_markOf_60 : decode cX1_markOf 60 = .ok (.iload_n 2, 1) := by decide +kernel
theorem dX1_markOf_61 : decode cX1_markOf 61 = .ok (.invokestatic 32, 3) := by decide +kernel
theorem dX1_markOf_64 : decode cX1_markOf 64 = .ok (.iload_n 1, 1) := by decide +kernel
theorem dX1_markOf_65 : decode cX1_markOf 65 = .ok (.isub, 1) := by decide +kernel
theorem dX1_markOf_66 : decode cX1_markOf 66 = .ok (.ireturn, 1) := by decide +kernel
theorem dX1_markOf_67 : decode cX1_markOf 67 = .ok (.iconst 5, 1) := by decide +kernel
theorem dX1_markOf_68 : decode cX1_markOf 68 = .ok (.iload_n 1, 1) := by decide +kernel
theorem dX1_markOf_69 : decode cX1_markOf 69 = .ok (.bipush 9, 2) := by decide +kernel
theorem dX1_markOf_71 : decode cX1_markOf 71 = .ok (.iload_n 2, 1) := by decide +kernel
theorem dX1_markOf_72 : decode cX1_markOf 72 = .ok (.isub, 1) := by decide +kernel
theorem dX1_markOf_73 : decode cX1_markOf 73 = .ok (.invokestatic 32, 3) := by decide +kernel
theorem dX1_markOf_76 : decode cX1_markOf 76 = .ok (.ireturn, 1) := by decide +kernel
set_option maxRecDepth 20000 in
theorem w_X1_markOf_b0 {w : zWd} {X : zX} {l0 : Launch} {r : Int32} {S1 : zMem} (C : zC LC w X l0 cX1_markOf RX1 3 2 (some .int)) {x0 : Int32} {x1 : Int32} {x2 : Int32} {S : zMem} {ls : Array Slot} (hl : lv_has ls 3 [(0, .int x0), (1, .int x1), (2, .int x2)]) (h : X1_markOf_b0 x0 x1 x2 S = some (r, S1)) : zV LC w X (some (.int r)) S1 S 0 ls [] := by
  unfold X1_markOf_b0 at h
  refine v_iload_n 0 C dX1_markOf_0 rfl (lv_at hl 0 rfl) ?_
  refine v_ite h (fun hq3 h => ?_) (fun hq3 h => ?_)
  · refine v_tab 1 32 C (x := x0) (off := 31) dX1_markOf_1 (by rw [hq3]; decide) (by rw [hq3]; decide) (by rw [hq3]; rfl) (by decide) ?_
    refine v_iload_n 32 C dX1_markOf_32 rfl (lv_at hl 2 rfl) ?_
    refine v_iload_n 33 C dX1_markOf_33 rfl (lv_at hl 1 rfl) ?_
    refine v_isub 34 C dX1_markOf_34 h (fun v1 h => ?_)
    refine v_mabs 35 C dX1_markOf_35 ml_X1_28 hl.1 (by decide) (Nat.le_of_ble_eq_true rfl) h (fun v2 h => ?_)
    exact v_ireturn 38 C dX1_markOf_38 h
  · refine v_ite h (fun hq7 h => ?_) (fun hq7 h => ?_)
    · refine v_tab 1 39 C (x := x0) (off := 38) dX1_markOf_1 (by rw [hq7]; decide) (by rw [hq7]; decide) (by rw [hq7]; rfl) (by decide) ?_
      refine v_iconst 39 C (v := (2 : Int32)) dX1_markOf_39 (by decide) ?_
      refine v_iload_n 40 C dX1_markOf_40 rfl (lv_at hl 1 rfl) ?_
      refine v_iload_n 41 C dX1_markOf_41 rfl (lv_at hl 2 rfl) ?_
      obtain ⟨v4, S, hc, h⟩ := zb_e h
      refine v_callSi 42 C [] dX1_markOf_42 ml_X1_32 hy_X1_warmth (c_X1_warmth  hc) (by decide) rfl hl.1 (Nat.le_of_ble_eq_true rfl) rfl ?_
      refine v_iconst 45 C (v := (0 : Int32)) dX1_markOf_45 (by decide) ?_
      refine v_iload_n 46 C dX1_markOf_46 rfl (lv_at hl 1 rfl) ?_
      refine v_iload_n 47 C dX1_markOf_47 rfl (lv_at hl 2 rfl) ?_
      obtain ⟨v5, S, hc, h⟩ := zb_e h
      refine v_callSi 48 C [.int v4] dX1_markOf_48 ml_X1_32 hy_X1_warmth (c_X1_warmth  hc) (by decide) rfl hl.1 (Nat.le_of_ble_eq_true rfl) rfl ?_
      refine v_isub 51 C dX1_markOf_51 h (fun v6 h => ?_)
      exact v_ireturn 52 C dX1_markOf_52 h
    · refine v_ite h (fun hq9 h => ?_) (fun hq9 h => ?_)
      · refine v_tab 1 53 C (x := x0) (off := 52) dX1_markOf_1 (by rw [hq9]; decide) (by rw [hq9]; decide) (by rw [hq9]; rfl) (by decide) ?_
        refine v_bipush 53 C (v := (9 : Int32)) dX1_markOf_53 (by decide) ?_
        refine v_iload_n 55 C dX1_markOf_55 rfl (lv_at hl 1 rfl) ?_
        refine v_isub 56 C dX1_markOf_56 h (fun v8 h => ?_)
        exact v_ireturn 57 C dX1_markOf_57 h
      · refine v_ite h (fun hq12 h => ?_) (fun hq12 h => ?_)
        · refine v_tab 1 58 C (x := x0) (off := 57) dX1_markOf_1 (by rw [hq12]; decide) (by rw [hq12]; decide) (by rw [hq12]; rfl) (by decide) ?_
          refine v_iconst 58 C (v := (4 : Int32)) dX1_markOf_58 (by decide) ?_
          refine v_iload_n 59 C dX1_markOf_59 rfl (lv_at hl 1 rfl) ?_
          refine v_iload_n 60 C dX1_markOf_60 rfl (lv_at hl 2 rfl) ?_
          obtain ⟨v10, S, hc, h⟩ := zb_e h
          refine v_callSi 61 C [] dX1_markOf_61 ml_X1_32 hy_X1_warmth (c_X1_warmth  hc) (by decide) rfl hl.1 (Nat.le_of_ble_eq_true rfl) rfl ?_
          refine v_iload_n 64 C dX1_markOf_64 rfl (lv_at hl 1 rfl) ?_
          refine v_isub 65 C dX1_markOf_65 h (fun v11 h => ?_)
          exact v_ireturn 66 C dX1_markOf_66 h
        · refine v_tabo 1 67 C (x := x0) dX1_markOf_1 (by have hq3z := zne hq3 (show ((1 : Int32)).toInt = 1 by decide); have hq7z := zne hq7 (show ((2 : Int32)).toInt = 2 by decide); have hq9z := zne hq9 (show ((3 : Int32)).toInt = 3 by decide); have hq12z := zne hq12 (show ((4 : Int32)).toInt = 4 by decide); omega) (by decide) ?_
          refine v_iconst 67 C (v := (5 : Int32)) dX1_markOf_67 (by decide) ?_
          refine v_iload_n 68 C dX1_markOf_68 rfl (lv_at hl 1 rfl) ?_
          refine v_bipush 69 C (v := (9 : Int32)) dX1_markOf_69 (by decide) ?_
          refine v_iload_n 71 C dX1_markOf_71 rfl (lv_at hl 2 rfl) ?_
          refine v_isub 72 C dX1_markOf_72 h (fun v13 h => ?_)
          obtain ⟨v14, S, hc, h⟩ := zb_e h
          refine v_callSi 73 C [] dX1_markOf_73 ml_X1_32 hy_X1_warmth (c_X1_warmth  hc) (by decide) rfl hl.1 (Nat.le_of_ble_eq_true rfl) rfl ?_
          exact v_ireturn 76 C dX1_markOf_76 h
theorem c_X1_markOf {w : zWd} {l0 : Launch} {x0 : Int32} {x1 : Int32} {x2 : Int32} {S S1 : zMem} {r : Int32} (h : f_X1_markOf x0 x1 x2 S = some (r, S1)) : zMet LC w l0 yX1_markOf cX1_markOf 3 (some .int) 2 [.int x0, .int x1, .int x2] S (some (.int r)) S1 :=
  zMet_of (by decide +kernel) (Nat.le_of_ble_eq_true rfl) (fun X ls C hl => w_X1_markOf_b0 C hl h)
theorem ml_X8_170 : Cond.methodLink RX8 170 yX1_isOf ∈ zT := zT_of (List.mem_of_getElem? (i := 553) (by decide +kernel)) rfl
theorem hy_X1_isOf : zYs yX1_isOf cX1_isOf 4 (some .boolean) 2 := ⟨⟨zT_of (List.mem_of_getElem? (i := 555) (by decide +kernel)) rfl, zT_of (List.mem_of_getElem? (i := 80) (by decide +kernel)) rfl, by decide, by decide +kernel, by decide +kernel, by decide +kernel⟩, zT_of (List.mem_of_getElem? (i := 554) (by decide +kernel)) rfl⟩
theorem ml_X8_179 : Cond.methodLink RX8 179 yX1_markOf ∈ zT := zT_of (List.mem_of_getElem? (i := 558) (by decide +kernel)) rfl
theorem hy_X1_markOf : zYs yX1_markOf cX1_markOf 3 (some .int) 3 := ⟨⟨zT_of (List.mem_of_getElem? (i := 560) (by decide +kernel)) rfl, zT_of (List.mem_of_getElem? (i := 80) (by decide +kernel)) rfl, by decide, by decide +kernel, by decide +kernel, by decide +kernel⟩, zT_of (List.mem_of_getElem? (i := 559) (by decide +kernel)) rfl⟩
theorem dX8_mark_0 : decode cX8_mark 0 = .ok (.aload_n 0, 1) := by decide +kernel
theorem dX8_mark_1 : decode cX8_mark 1 = .ok (.iload_n 1, 1) := by decide +kernel
theorem dX8_mark_2 : decode cX8_mark 2 = .ok (.invokevirtual 159, 3) := by decide +kernel
theorem dX8_mark_5 : decode cX8_mark 5 = .ok (.ifCond .eq 13, 3) := by decide +kernel
theorem dX8_mark_8 : decode cX8_mark 8 = .ok (.iload_n 2, 1) := by decide +kernel
theorem dX8_mark_9 : decode cX8_mark 9 = .ok (.ifCond .le 9, 3) := by decide +kernel
theorem dX8_mark_12 : decode cX8_mark 12 = .ok (.iload_n 2, 1) := by decide +kernel
theorem dX8_mark_13 : decode cX8_mark 13 = .ok (.bipush 6, 2) := by decide +kernel
theorem dX8_mark_15 : decode cX8_mark 15 = .ok (.if_icmp .lt 5, 3) := by decide +kernel
theorem dX8_mark_18 : decode cX8_mark 18 = .ok (.iconst (-1), 1) := by decide +kernel
theorem dX8_mark_19 : decode cX8_mark 19 = .ok (.ireturn, 1) := by decide +kernel
theorem dX8_mark_20 : decode cX8_mark 20 = .ok (.aload_n 0, 1) := by decide +kernel
theorem dX8_mark_21 : decode cX8_mark 21 = .ok (.getfield 21, 3) := by decide +kernel
theorem dX8_mark_24 : decode cX8_mark 24 = .ok (.getfield 167, 3) := by decide +kernel
theorem dX8_mark_27 : decode cX8_mark 27 = .ok (.iload_n 1, 1) := by decide +kernel
theorem dX8_mark_28 : decode cX8_mark 28 = .ok (.iaload, 1) := by decide +kernel
theorem dX8_mark_29 : decode cX8_mark 29 = .ok (.iload_n 2, 1) := by decide +kernel
theorem dX8_mark_30 : decode cX8_mark 30 = .ok (.invokestatic 170, 3) := by decide +kernel
theorem dX8_mark_33 : decode cX8_mark 33 = .ok (.ifCond .ne 9, 3) := by decide +kernel
theorem dX8_mark_36 : decode cX8_mark 36 = .ok (.aload_n 0, 1) := by decide +kernel
theorem dX8_mark_37 : decode cX8_mark 37 = .ok (.iconst 3, 1) := by decide +kernel
theorem dX8_mark_38 : decode cX8_mark 38 = .ok (.invokevirtual 84, 3) := by decide +kernel
theorem dX8_mark_41 : decode cX8_mark 41 = .ok (.ireturn, 1) := by decide +kernel
theorem dX8_mark_42 : decode cX8_mark 42 = .ok (.iload_n 2, 1) := by decide +kernel
theorem dX8_mark_43 : decode cX8_mark 43 = .ok (.aload_n 0, 1) := by decide +kernel
theorem dX8_mark_44 : decode cX8_mark 44 = .ok (.getfield 21, 3) := by decide +kernel
theorem dX8_mark_47 : decode cX8_mark 47 = .ok (.getfield 173, 3) := by decide +kernel
theorem dX8_mark_50 : decode cX8_mark 50 = .ok (.iload_n 1, 1) := by decide +kernel
theorem dX8_mark_51 : decode cX8_mark 51 = .ok (.iaload, 1) := by decide +kernel
theorem dX8_mark_52 : decode cX8_mark 52 = .ok (.aload_n 0, 1) := by decide +kernel
theorem dX8_mark_53 : decode cX8_mark 53 = .ok (.getfield 37, 3) := by decide +kernel
theorem dX8_mark_56 : decode cX8_mark 56 = .ok (.getfield 176, 3) := by decide +kernel
theorem dX8_mark_59 : decode cX8_mark 59 = .ok (.invokestatic 179, 3) := by decide +kernel
theorem dX8_mark_62 : decode cX8_mark 62 = .ok (.ireturn, 1) := by decide +kernel
set_option maxRecDepth 20000 in
theorem w_X8_mark_b18 {w : zWd} {X : zX} {l0 : Launch} {r : Int32} {S1 : zMem} (C : zC LC w X l0 cX8_mark RX8 3 3 (some .int)) {S : zMem} {ls : Array Slot} (hl : lv_has ls 3 []) (h : X8_mark_b18  S = some (r, S1)) : zV LC w X (some (.int r)) S1 S 18 ls [] := by
  unfold X8_mark_b18 at h
  refine v_iconst 18 C (v := (-1 : Int32)) dX8_mark_18 (by decide) ?_
  exact v_ireturn 19 C dX8_mark_19 h
set_option maxRecDepth 20000 in
theorem w_X8_mark_b0 {w : zWd} {X : zX} {l0 : Launch} {r : Int32} {S1 : zMem} (C : zC LC w X l0 cX8_mark RX8 3 3 (some .int)) {x1 : Int32} {x2 : Int32} {S : zMem} {ls : Array Slot} (hl : lv_has ls 3 [(0, .ref (w.2.2.1 0)), (1, .int x1), (2, .int x2)]) (h : X8_mark_b0 x1 x2 S = some (r, S1)) : zV LC w X (some (.int r)) S1 S 0 ls [] := by
  unfold X8_mark_b0 at h
  refine v_aload_n 0 C dX8_mark_0 rfl (lv_at hl 0 rfl) ?_
  refine v_iload_n 1 C dX8_mark_1 rfl (lv_at hl 1 rfl) ?_
  obtain ⟨v1, S, hc, h⟩ := zb_e h
  refine v_callVi 2 C (ci := 7) [] dX8_mark_2 ml_X8_159 hy_X8_isLetter (c_X8_isLetter  hc) (by decide) rfl hl.1 kC_0 rfl (Nat.le_of_ble_eq_true rfl) rfl ?_
  refine v_if_eq 5 18 C dX8_mark_5 (by decide) h (fun h => ?_) (fun h => ?_)
  · exact w_X8_mark_b18 C (lv_sub hl [] rfl) h
  · refine v_iload_n 8 C dX8_mark_8 rfl (lv_at hl 2 rfl) ?_
    refine v_if_le 9 18 C dX8_mark_9 (by decide) h (fun h => ?_) (fun h => ?_)
    · exact w_X8_mark_b18 C (lv_sub hl [] rfl) h
    · refine v_iload_n 12 C dX8_mark_12 rfl (lv_at hl 2 rfl) ?_
      refine v_bipush 13 C (v := (6 : Int32)) dX8_mark_13 (by decide) ?_
      refine v_icmp_lt 15 20 C dX8_mark_15 (by decide) h (fun h => ?_) (fun h => ?_)
      · refine v_aload_n 20 C dX8_mark_20 rfl (lv_at hl 0 rfl) ?_
        refine v_getr 21 (24) C dX8_mark_21 fl_X8_21 rfl kC_0 rfl ?_
        refine v_getr 24 (26) C dX8_mark_24 fl_X8_167 rfl kC_24 rfl ?_
        refine v_iload_n 27 C dX8_mark_27 rfl (lv_at hl 1 rfl) ?_
        refine v_iald 28 C dX8_mark_28 kC_26 rfl h (fun v2 h => ?_)
        refine v_iload_n 29 C dX8_mark_29 rfl (lv_at hl 2 rfl) ?_
        obtain ⟨v3, S, hc, h⟩ := zb_e h
        refine v_callSi 30 C [] dX8_mark_30 ml_X8_170 hy_X1_isOf (c_X1_isOf  hc) (by decide) rfl hl.1 (Nat.le_of_ble_eq_true rfl) rfl ?_
        refine v_if_ne 33 42 C dX8_mark_33 (by decide) h (fun h => ?_) (fun h => ?_)
        · refine v_iload_n 42 C dX8_mark_42 rfl (lv_at hl 2 rfl) ?_
          refine v_aload_n 43 C dX8_mark_43 rfl (lv_at hl 0 rfl) ?_
          refine v_getr 44 (24) C dX8_mark_44 fl_X8_21 rfl kC_0 rfl ?_
          refine v_getr 47 (28) C dX8_mark_47 fl_X8_173 rfl kC_24 rfl ?_
          refine v_iload_n 50 C dX8_mark_50 rfl (lv_at hl 1 rfl) ?_
          refine v_iald 51 C dX8_mark_51 kC_28 rfl h (fun v4 h => ?_)
          refine v_aload_n 52 C dX8_mark_52 rfl (lv_at hl 0 rfl) ?_
          refine v_getr 53 (35) C dX8_mark_53 fl_X8_37 rfl kC_0 rfl ?_
          refine v_geti 56 C dX8_mark_56 fl_X8_176 rfl kC_35 h (fun v5 h => ?_)
          obtain ⟨v6, S, hc, h⟩ := zb_e h
          refine v_callSi 59 C [] dX8_mark_59 ml_X8_179 hy_X1_markOf (c_X1_markOf  hc) (by decide) rfl hl.1 (Nat.le_of_ble_eq_true rfl) rfl ?_
          exact v_ireturn 62 C dX8_mark_62 h
        · refine v_aload_n 36 C dX8_mark_36 rfl (lv_at hl 0 rfl) ?_
          refine v_iconst 37 C (v := (3 : Int32)) dX8_mark_37 (by decide) ?_
          obtain ⟨v7, S, hc, h⟩ := zb_e h
          refine v_callVi 38 C (ci := 7) [] dX8_mark_38 ml_X8_84 hy_X8_refuse (c_X8_refuse  hc) (by decide) rfl hl.1 kC_0 rfl (Nat.le_of_ble_eq_true rfl) rfl ?_
          exact v_ireturn 41 C dX8_mark_41 h
      · exact w_X8_mark_b18 C (lv_sub hl [] rfl) h
theorem c_X8_mark {w : zWd} {l0 : Launch} {x1 : Int32} {x2 : Int32} {S S1 : zMem} {r : Int32} (h : f_X8_mark x1 x2 S = some (r, S1)) : zMet LC w l0 yX8_mark cX8_mark 3 (some .int) 3 [.ref (w.2.2.1 0), .int x1, .int x2] S (some (.int r)) S1 :=
  zMet_of (by decide +kernel) (Nat.le_of_ble_eq_true rfl) (fun X ls C hl => w_X8_mark_b0 C hl h)
theorem dX4_spareDeeds_0 : decode cX4_spareDeeds 0 = .ok (.bipush 40, 2) := by decide +kernel
theorem dX4_spareDeeds_2 : decode cX4_spareDeeds 2 = .ok (.aload_n 0, 1) := by decide +kernel
theorem dX4_spareDeeds_3 : decode cX4_spareDeeds 3 = .ok (.getfield 32, 3) := by decide +kernel
theorem dX4_spareDeeds_6 : decode cX4_spareDeeds 6 = .ok (.isub, 1) := by decide +kernel
theorem dX4_spareDeeds_7 : decode cX4_spareDeeds 7 = .ok (.ireturn, 1) := by decide +kernel
set_option maxRecDepth 20000 in
theorem w_X4_spareDeeds_b0 {w : zWd} {X : zX} {l0 : Launch} {r : Int32} {S1 : zMem} (C : zC LC w X l0 cX4_spareDeeds RX4 1 1 (some .int)) {c0 : Nat} {S : zMem} {ls : Array Slot} (hl : lv_has ls 1 [(0, .ref (w.2.2.1 c0))]) (hk_c0 : c0 < LC.1 ∧ LC.2.1 c0 = 6) (h : X4_spareDeeds_b0 c0 S = some (r, S1)) : zV LC w X (some (.int r)) S1 S 0 ls [] := by
  unfold X4_spareDeeds_b0 at h
  refine v_bipush 0 C (v := (40 : Int32)) dX4_spareDeeds_0 (by decide) ?_
  refine v_aload_n 2 C dX4_spareDeeds_2 rfl (lv_at hl 0 rfl) ?_
  refine v_geti 3 C dX4_spareDeeds_3 fl_X4_32 rfl hk_c0 h (fun v1 h => ?_)
  refine v_isub 6 C dX4_spareDeeds_6 h (fun v2 h => ?_)
  exact v_ireturn 7 C dX4_spareDeeds_7 h
theorem c_X4_spareDeeds {w : zWd} {l0 : Launch} {c0 : Nat} {S S1 : zMem} {r : Int32} (hk_c0 : c0 < LC.1 ∧ LC.2.1 c0 = 6) (h : f_X4_spareDeeds c0 S = some (r, S1)) : zMet LC w l0 yX4_spareDeeds cX4_spareDeeds 1 (some .int) 1 [.ref (w.2.2.1 c0)] S (some (.int r)) S1 :=
  zMet_of (by decide +kernel) (Nat.le_of_ble_eq_true rfl) (fun X ls C hl => w_X4_spareDeeds_b0 C hl hk_c0 h)
theorem dX6_bondBehind_0 : decode cX6_bondBehind 0 = .ok (.iconst 0, 1) := by decide +kernel
theorem dX6_bondBehind_1 : decode cX6_bondBehind 1 = .ok (.bipush 20, 2) := by decide +kernel
theorem dX6_bondBehind_3 : decode cX6_bondBehind 3 = .ok (.iload_n 0, 1) := by decide +kernel
theorem dX6_bondBehind_4 : decode cX6_bondBehind 4 = .ok (.iload_n 1, 1) := by decide +kernel
theorem dX6_bondBehind_5 : decode cX6_bondBehind 5 = .ok (.iadd, 1) := by decide +kernel
theorem dX6_bondBehind_6 : decode cX6_bondBehind 6 = .ok (.iconst 5, 1) := by decide +kernel
theorem dX6_bondBehind_7 : decode cX6_bondBehind 7 = .ok (.isub, 1) := by decide +kernel
theorem dX6_bondBehind_8 : decode cX6_bondBehind 8 = .ok (.invokestatic 66, 3) := by decide +kernel
theorem dX6_bondBehind_11 : decode cX6_bondBehind 11 = .ok (.invokestatic 69, 3) := by decide +kernel
theorem dX6_bondBehind_14 : decode cX6_bondBehind 14 = .ok (.ireturn, 1) := by decide +kernel
set_option maxRecDepth 20000 in
theorem w_X6_bondBehind_b0 {w : zWd} {X : zX} {l0 : Launch} {r : Int32} {S1 : zMem} (C : zC LC w X l0 cX6_bondBehind RX6 2 1 (some .int)) {x0 : Int32} {x1 : Int32} {S : zMem} {ls : Array Slot} (hl : lv_has ls 2 [(0, .int x0), (1, .int x1)]) (h : X6_bondBehind_b0 x0 x1 S = some (r, S1)) : zV LC w X (some (.int r)) S1 S 0 ls [] := by
  unfold X6_bondBehind_b0 at h
  refine v_iconst 0 C (v := (0 : Int32)) dX6_bondBehind_0 (by decide) ?_
  refine v_bipush 1 C (v := (20 : Int32)) dX6_bondBehind_1 (by decide) ?_
  refine v_iload_n 3 C dX6_bondBehind_3 rfl (lv_at hl 0 rfl) ?_
  refine v_iload_n 4 C dX6_bondBehind_4 rfl (lv_at hl 1 rfl) ?_
  refine v_iadd 5 C dX6_bondBehind_5 h (fun v1 h => ?_)
  refine v_iconst 6 C (v := (5 : Int32)) dX6_bondBehind_6 (by decide) ?_
  refine v_isub 7 C dX6_bondBehind_7 h (fun v2 h => ?_)
  refine v_mmin 8 C dX6_bondBehind_8 ml_X6_66 hl.1 (by decide) (Nat.le_of_ble_eq_true rfl) h (fun v3 h => ?_)
  refine v_mmax 11 C dX6_bondBehind_11 ml_X6_69 hl.1 (by decide) (Nat.le_of_ble_eq_true rfl) h (fun v4 h => ?_)
  exact v_ireturn 14 C dX6_bondBehind_14 h
theorem c_X6_bondBehind {w : zWd} {l0 : Launch} {x0 : Int32} {x1 : Int32} {S S1 : zMem} {r : Int32} (h : f_X6_bondBehind x0 x1 S = some (r, S1)) : zMet LC w l0 yX6_bondBehind cX6_bondBehind 2 (some .int) 1 [.int x0, .int x1] S (some (.int r)) S1 :=
  zMet_of (by decide +kernel) (Nat.le_of_ble_eq_true rfl) (fun X ls C hl => w_X6_bondBehind_b0 C hl h)
theorem dX1_turnBy_0 : decode cX1_turnBy 0 = .ok (.iload_n 0, 1) := by decide +kernel
theorem dX1_turnBy_1 : decode cX1_turnBy 1 = .ok (.iconst 5, 1) := by decide +kernel
theorem dX1_turnBy_2 : decode cX1_turnBy 2 = .ok (.if_icmp .ne 5, 3) := by decide +kernel
theorem dX1_turnBy_5 : decode cX1_turnBy 5 = .ok (.iconst 0, 1) := by decide +kernel
theorem dX1_turnBy_6 : decode cX1_turnBy 6 = .ok (.ireturn, 1) := by decide +kernel
theorem dX1_turnBy_7 : decode cX1_turnBy 7 = .ok (.iload_n 1, 1) := by decide +kernel
theorem dX1_turnBy_8 : decode cX1_turnBy 8 = .ok (.bipush 6, 2) := by decide +kernel
theorem dX1_turnBy_10 : decode cX1_turnBy 10 = .ok (.if_icmp .lt 7, 3) := by decide +kernel
theorem dX1_turnBy_13 : decode cX1_turnBy 13 = .ok (.iconst 1, 1) := by decide +kernel
theorem dX1_turnBy_14 : decode cX1_turnBy 14 = .ok (.goto 13, 3) := by decide +kernel
theorem dX1_turnBy_17 : decode cX1_turnBy 17 = .ok (.iload_n 1, 1) := by decide +kernel
theorem dX1_turnBy_18 : decode cX1_turnBy 18 = .ok (.iconst 3, 1) := by decide +kernel
theorem dX1_turnBy_19 : decode cX1_turnBy 19 = .ok (.if_icmp .gt 7, 3) := by decide +kernel
theorem dX1_turnBy_22 : decode cX1_turnBy 22 = .ok (.iconst (-1), 1) := by decide +kernel
theorem dX1_turnBy_23 : decode cX1_turnBy 23 = .ok (.goto 4, 3) := by decide +kernel
theorem dX1_turnBy_26 : decode cX1_turnBy 26 = .ok (.iconst 0, 1) := by decide +kernel
theorem dX1_turnBy_27 : decode cX1_turnBy 27 = .ok (.ireturn, 1) := by decide +kernel
set_option maxRecDepth 20000 in
theorem w_X1_turnBy_b27 {w : zWd} {X : zX} {l0 : Launch} {r : Int32} {S1 : zMem} (C : zC LC w X l0 cX1_turnBy RX1 2 1 (some .int)) {s0 : Int32} {S : zMem} {ls : Array Slot} (hl : lv_has ls 2 []) (h : X1_turnBy_b27 s0 S = some (r, S1)) : zV LC w X (some (.int r)) S1 S 27 ls [.int s0] := by
  unfold X1_turnBy_b27 at h
  exact v_ireturn 27 C dX1_turnBy_27 h
set_option maxRecDepth 20000 in
theorem w_X1_turnBy_b0 {w : zWd} {X : zX} {l0 : Launch} {r : Int32} {S1 : zMem} (C : zC LC w X l0 cX1_turnBy RX1 2 1 (some .int)) {x0 : Int32} {x1 : Int32} {S : zMem} {ls : Array Slot} (hl : lv_has ls 2 [(0, .int x0), (1, .int x1)]) (h : X1_turnBy_b0 x0 x1 S = some (r, S1)) : zV LC w X (some (.int r)) S1 S 0 ls [] := by
  unfold X1_turnBy_b0 at h
  refine v_iload_n 0 C dX1_turnBy_0 rfl (lv_at hl 0 rfl) ?_
  refine v_iconst 1 C (v := (5 : Int32)) dX1_turnBy_1 (by decide) ?_
  refine v_icmp_ne 2 7 C dX1_turnBy_2 (by decide) h (fun h => ?_) (fun h => ?_)
  · refine v_iload_n 7 C dX1_turnBy_7 rfl (lv_at hl 1 rfl) ?_
    refine v_bipush 8 C (v := (6 : Int32)) dX1_turnBy_8 (by decide) ?_
    refine v_icmp_lt 10 17 C dX1_turnBy_10 (by decide) h (fun h => ?_) (fun h => ?_)
    · refine v_iload_n 17 C dX1_turnBy_17 rfl (lv_at hl 1 rfl) ?_
      refine v_iconst 18 C (v := (3 : Int32)) dX1_turnBy_18 (by decide) ?_
      refine v_icmp_gt 19 26 C dX1_turnBy_19 (by decide) h (fun h => ?_) (fun h => ?_)
      · refine v_iconst 26 C (v := (0 : Int32)) dX1_turnBy_26 (by decide) ?_
        exact w_X1_turnBy_b27 C (lv_sub hl [] rfl) h
      · refine v_iconst 22 C (v := (-1 : Int32)) dX1_turnBy_22 (by decide) ?_
        refine v_goto 23 27 C dX1_turnBy_23 (by decide) ?_
        exact w_X1_turnBy_b27 C (lv_sub hl [] rfl) h
    · refine v_iconst 13 C (v := (1 : Int32)) dX1_turnBy_13 (by decide) ?_
      refine v_goto 14 27 C dX1_turnBy_14 (by decide) ?_
      exact w_X1_turnBy_b27 C (lv_sub hl [] rfl) h
  · refine v_iconst 5 C (v := (0 : Int32)) dX1_turnBy_5 (by decide) ?_
    exact v_ireturn 6 C dX1_turnBy_6 h
theorem c_X1_turnBy {w : zWd} {l0 : Launch} {x0 : Int32} {x1 : Int32} {S S1 : zMem} {r : Int32} (h : f_X1_turnBy x0 x1 S = some (r, S1)) : zMet LC w l0 yX1_turnBy cX1_turnBy 2 (some .int) 1 [.int x0, .int x1] S (some (.int r)) S1 :=
  zMet_of (by decide +kernel) (Nat.le_of_ble_eq_true rfl) (fun X ls C hl => w_X1_turnBy_b0 C hl h)
theorem ml_X6_62 : Cond.methodLink RX6 62 yX1_turnBy ∈ zT := zT_of (List.mem_of_getElem? (i := 590) (by decide +kernel)) rfl
theorem hy_X1_turnBy : zYs yX1_turnBy cX1_turnBy 2 (some .int) 2 := ⟨⟨zT_of (List.mem_of_getElem? (i := 592) (by decide +kernel)) rfl, zT_of (List.mem_of_getElem? (i := 80) (by decide +kernel)) rfl, by decide, by decide +kernel, by decide +kernel, by decide +kernel⟩, zT_of (List.mem_of_getElem? (i := 591) (by decide +kernel)) rfl⟩
theorem dX6_moodBehind_0 : decode cX6_moodBehind 0 = .ok (.iload_n 2, 1) := by decide +kernel
theorem dX6_moodBehind_1 : decode cX6_moodBehind 1 = .ok (.aload_n 0, 1) := by decide +kernel
theorem dX6_moodBehind_2 : decode cX6_moodBehind 2 = .ok (.getfield 15, 3) := by decide +kernel
theorem dX6_moodBehind_5 : decode cX6_moodBehind 5 = .ok (.iload_n 1, 1) := by decide +kernel
theorem dX6_moodBehind_6 : decode cX6_moodBehind 6 = .ok (.iaload, 1) := by decide +kernel
theorem dX6_moodBehind_7 : decode cX6_moodBehind 7 = .ok (.iload_n 3, 1) := by decide +kernel
theorem dX6_moodBehind_8 : decode cX6_moodBehind 8 = .ok (.invokestatic 62, 3) := by decide +kernel
theorem dX6_moodBehind_11 : decode cX6_moodBehind 11 = .ok (.iadd, 1) := by decide +kernel
theorem dX6_moodBehind_12 : decode cX6_moodBehind 12 = .ok (.invokestatic 55, 3) := by decide +kernel
theorem dX6_moodBehind_15 : decode cX6_moodBehind 15 = .ok (.ireturn, 1) := by decide +kernel
set_option maxRecDepth 20000 in
theorem w_X6_moodBehind_b0 {w : zWd} {X : zX} {l0 : Launch} {r : Int32} {S1 : zMem} (C : zC LC w X l0 cX6_moodBehind RX6 4 2 (some .int)) {x1 : Int32} {x2 : Int32} {x3 : Int32} {S : zMem} {ls : Array Slot} (hl : lv_has ls 4 [(0, .ref (w.2.2.1 24)), (1, .int x1), (2, .int x2), (3, .int x3)]) (h : X6_moodBehind_b0 x1 x2 x3 S = some (r, S1)) : zV LC w X (some (.int r)) S1 S 0 ls [] := by
  unfold X6_moodBehind_b0 at h
  refine v_iload_n 0 C dX6_moodBehind_0 rfl (lv_at hl 2 rfl) ?_
  refine v_aload_n 1 C dX6_moodBehind_1 rfl (lv_at hl 0 rfl) ?_
  refine v_getr 2 (26) C dX6_moodBehind_2 fl_X6_15 rfl kC_24 rfl ?_
  refine v_iload_n 5 C dX6_moodBehind_5 rfl (lv_at hl 1 rfl) ?_
  refine v_iald 6 C dX6_moodBehind_6 kC_26 rfl h (fun v1 h => ?_)
  refine v_iload_n 7 C dX6_moodBehind_7 rfl (lv_at hl 3 rfl) ?_
  obtain ⟨v2, S, hc, h⟩ := zb_e h
  refine v_callSi 8 C [.int x2] dX6_moodBehind_8 ml_X6_62 hy_X1_turnBy (c_X1_turnBy  hc) (by decide) rfl hl.1 (Nat.le_of_ble_eq_true rfl) rfl ?_
  refine v_iadd 11 C dX6_moodBehind_11 h (fun v3 h => ?_)
  obtain ⟨v4, S, hc, h⟩ := zb_e h
  refine v_callSi 12 C [] dX6_moodBehind_12 ml_X6_55 hy_X6_moodWithin (c_X6_moodWithin  hc) (by decide) rfl hl.1 (Nat.le_of_ble_eq_true rfl) rfl ?_
  exact v_ireturn 15 C dX6_moodBehind_15 h
theorem c_X6_moodBehind {w : zWd} {l0 : Launch} {x1 : Int32} {x2 : Int32} {x3 : Int32} {S S1 : zMem} {r : Int32} (h : f_X6_moodBehind x1 x2 x3 S = some (r, S1)) : zMet LC w l0 yX6_moodBehind cX6_moodBehind 4 (some .int) 2 [.ref (w.2.2.1 24), .int x1, .int x2, .int x3] S (some (.int r)) S1 :=
  zMet_of (by decide +kernel) (Nat.le_of_ble_eq_true rfl) (fun X ls C hl => w_X6_moodBehind_b0 C hl h)
theorem fl_X4_97 : zFL RX4 97 5 2 := ⟨_, rfl, by decide, zT_of (List.mem_of_getElem? (i := 109) (by decide +kernel)) rfl⟩
theorem ml_X4_100 : Cond.methodLink RX4 100 yX6_moodAtDoor ∈ zT := zT_of (List.mem_of_getElem? (i := 581) (by decide +kernel)) rfl
theorem ml_X4_104 : Cond.methodLink RX4 104 yX6_warmth ∈ zT := zT_of (List.mem_of_getElem? (i := 582) (by decide +kernel)) rfl
theorem fl_X4_15 : zFL RX4 15 3 2 := ⟨_, rfl, by decide, zT_of (List.mem_of_getElem? (i := 169) (by decide +kernel)) rfl⟩
theorem ml_X4_108 : Cond.methodLink RX4 108 yX6_bondBehind ∈ zT := zT_of (List.mem_of_getElem? (i := 583) (by decide +kernel)) rfl
theorem hy_X6_bondBehind : zYs yX6_bondBehind cX6_bondBehind 2 (some .int) 2 := ⟨⟨zT_of (List.mem_of_getElem? (i := 585) (by decide +kernel)) rfl, zT_of (List.mem_of_getElem? (i := 71) (by decide +kernel)) rfl, by decide, by decide +kernel, by decide +kernel, by decide +kernel⟩, zT_of (List.mem_of_getElem? (i := 584) (by decide +kernel)) rfl⟩
theorem ml_X4_111 : Cond.methodLink RX4 111 yX6_moodBehind ∈ zT := zT_of (List.mem_of_getElem? (i := 586) (by decide +kernel)) rfl
theorem hy_X6_moodBehind : zYv yX6_moodBehind cX6_moodBehind 4 (some .int) 3 := ⟨⟨zT_of (List.mem_of_getElem? (i := 589) (by decide +kernel)) rfl, zT_of (List.mem_of_getElem? (i := 71) (by decide +kernel)) rfl, by decide, by decide +kernel, by decide +kernel, by decide +kernel⟩, zT_of (List.mem_of_getElem? (i := 587) (by decide +kernel)) rfl, zT_of (List.mem_of_getElem? (i := 588) (by decide +kernel)) rfl⟩
theorem ml_X4_93 : Cond.methodLink RX4 93 yX4_wasCarried ∈ zT := zT_of (List.mem_of_getElem? (i := 580) (by decide +kernel)) rfl
theorem dX4_deliver_0 : decode cX4_deliver 0 = .ok (.aload_n 0, 1) := by decide +kernel
theorem dX4_deliver_1 : decode cX4_deliver 1 = .ok (.iload_n 1, 1) := by decide +kernel
theorem dX4_deliver_2 : decode cX4_deliver 2 = .ok (.invokevirtual 93, 3) := by decide +kernel
theorem dX4_deliver_5 : decode cX4_deliver 5 = .ok (.ifCond .eq 4, 3) := by decide +kernel
theorem dX4_deliver_8 : decode cX4_deliver 8 = .ok (.return_, 1) := by decide +kernel
theorem dX4_deliver_9 : decode cX4_deliver 9 = .ok (.aload_n 0, 1) := by decide +kernel
theorem dX4_deliver_10 : decode cX4_deliver 10 = .ok (.getfield 24, 3) := by decide +kernel
theorem dX4_deliver_13 : decode cX4_deliver 13 = .ok (.getfield 97, 3) := by decide +kernel
theorem dX4_deliver_16 : decode cX4_deliver 16 = .ok (.iload_n 1, 1) := by decide +kernel
theorem dX4_deliver_17 : decode cX4_deliver 17 = .ok (.iaload, 1) := by decide +kernel
theorem dX4_deliver_18 : decode cX4_deliver 18 = .ok (.istore_n 2, 1) := by decide +kernel
theorem dX4_deliver_19 : decode cX4_deliver 19 = .ok (.aload_n 0, 1) := by decide +kernel
theorem dX4_deliver_20 : decode cX4_deliver 20 = .ok (.aload_n 0, 1) := by decide +kernel
theorem dX4_deliver_21 : decode cX4_deliver 21 = .ok (.getfield 24, 3) := by decide +kernel
theorem dX4_deliver_24 : decode cX4_deliver 24 = .ok (.iload_n 1, 1) := by decide +kernel
theorem dX4_deliver_25 : decode cX4_deliver 25 = .ok (.aload_n 0, 1) := by decide +kernel
theorem dX4_deliver_26 : decode cX4_deliver 26 = .ok (.getfield 44, 3) := by decide +kernel
theorem dX4_deliver_29 : decode cX4_deliver 29 = .ok (.aload_n 0, 1) := by decide +kernel
theorem dX4_deliver_30 : decode cX4_deliver 30 = .ok (.getfield 53, 3) := by decide +kernel
theorem dX4_deliver_33 : decode cX4_deliver 33 = .ok (.aload_n 0, 1) := by decide +kernel
theorem dX4_deliver_34 : decode cX4_deliver 34 = .ok (.getfield 50, 3) := by decide +kernel
theorem dX4_deliver_37 : decode cX4_deliver 37 = .ok (.invokevirtual 100, 3) := by decide +kernel
theorem dX4_deliver_40 : decode cX4_deliver 40 = .ok (.putfield 44, 3) := by decide +kernel
theorem dX4_deliver_43 : decode cX4_deliver 43 = .ok (.aload_n 0, 1) := by decide +kernel
theorem dX4_deliver_44 : decode cX4_deliver 44 = .ok (.getfield 24, 3) := by decide +kernel
theorem dX4_deliver_47 : decode cX4_deliver 47 = .ok (.iload_n 1, 1) := by decide +kernel
theorem dX4_deliver_48 : decode cX4_deliver 48 = .ok (.aload_n 0, 1) := by decide +kernel
theorem dX4_deliver_49 : decode cX4_deliver 49 = .ok (.getfield 44, 3) := by decide +kernel
theorem dX4_deliver_52 : decode cX4_deliver 52 = .ok (.invokevirtual 104, 3) := by decide +kernel
theorem dX4_deliver_55 : decode cX4_deliver 55 = .ok (.istore_n 3, 1) := by decide +kernel
theorem dX4_deliver_56 : decode cX4_deliver 56 = .ok (.aload_n 0, 1) := by decide +kernel
theorem dX4_deliver_57 : decode cX4_deliver 57 = .ok (.iload_n 2, 1) := by decide +kernel
theorem dX4_deliver_58 : decode cX4_deliver 58 = .ok (.putfield 53, 3) := by decide +kernel
theorem dX4_deliver_61 : decode cX4_deliver 61 = .ok (.aload_n 0, 1) := by decide +kernel
theorem dX4_deliver_62 : decode cX4_deliver 62 = .ok (.dup, 1) := by decide +kernel
theorem dX4_deliver_63 : decode cX4_deliver 63 = .ok (.getfield 56, 3) := by decide +kernel
theorem dX4_deliver_66 : decode cX4_deliver 66 = .ok (.iconst 1, 1) := by decide +kernel
theorem dX4_deliver_67 : decode cX4_deliver 67 = .ok (.iload_n 1, 1) := by decide +kernel
theorem dX4_deliver_68 : decode cX4_deliver 68 = .ok (.ishl, 1) := by decide +kernel
theorem dX4_deliver_69 : decode cX4_deliver 69 = .ok (.ior, 1) := by decide +kernel
theorem dX4_deliver_70 : decode cX4_deliver 70 = .ok (.putfield 56, 3) := by decide +kernel
theorem dX4_deliver_73 : decode cX4_deliver 73 = .ok (.aload_n 0, 1) := by decide +kernel
theorem dX4_deliver_74 : decode cX4_deliver 74 = .ok (.getfield 15, 3) := by decide +kernel
theorem dX4_deliver_77 : decode cX4_deliver 77 = .ok (.iload_n 1, 1) := by decide +kernel
theorem dX4_deliver_78 : decode cX4_deliver 78 = .ok (.iload_n 3, 1) := by decide +kernel
theorem dX4_deliver_79 : decode cX4_deliver 79 = .ok (.iastore, 1) := by decide +kernel
theorem dX4_deliver_80 : decode cX4_deliver 80 = .ok (.aload_n 0, 1) := by decide +kernel
theorem dX4_deliver_81 : decode cX4_deliver 81 = .ok (.getfield 9, 3) := by decide +kernel
theorem dX4_deliver_84 : decode cX4_deliver 84 = .ok (.iload_n 2, 1) := by decide +kernel
theorem dX4_deliver_85 : decode cX4_deliver 85 = .ok (.aload_n 0, 1) := by decide +kernel
theorem dX4_deliver_86 : decode cX4_deliver 86 = .ok (.getfield 9, 3) := by decide +kernel
theorem dX4_deliver_89 : decode cX4_deliver 89 = .ok (.iload_n 2, 1) := by decide +kernel
theorem dX4_deliver_90 : decode cX4_deliver 90 = .ok (.iaload, 1) := by decide +kernel
theorem dX4_deliver_91 : decode cX4_deliver 91 = .ok (.iload_n 3, 1) := by decide +kernel
theorem dX4_deliver_92 : decode cX4_deliver 92 = .ok (.invokestatic 108, 3) := by decide +kernel
theorem dX4_deliver_95 : decode cX4_deliver 95 = .ok (.iastore, 1) := by decide +kernel
theorem dX4_deliver_96 : decode cX4_deliver 96 = .ok (.aload_n 0, 1) := by decide +kernel
theorem dX4_deliver_97 : decode cX4_deliver 97 = .ok (.aload_n 0, 1) := by decide +kernel
theorem dX4_deliver_98 : decode cX4_deliver 98 = .ok (.getfield 24, 3) := by decide +kernel
theorem dX4_deliver_101 : decode cX4_deliver 101 = .ok (.iload_n 1, 1) := by decide +kernel
theorem dX4_deliver_102 : decode cX4_deliver 102 = .ok (.aload_n 0, 1) := by decide +kernel
theorem dX4_deliver_103 : decode cX4_deliver 103 = .ok (.getfield 44, 3) := by decide +kernel
theorem dX4_deliver_106 : decode cX4_deliver 106 = .ok (.iload_n 3, 1) := by decide +kernel
theorem dX4_deliver_107 : decode cX4_deliver 107 = .ok (.invokevirtual 111, 3) := by decide +kernel
theorem dX4_deliver_110 : decode cX4_deliver 110 = .ok (.putfield 44, 3) := by decide +kernel
theorem dX4_deliver_113 : decode cX4_deliver 113 = .ok (.return_, 1) := by decide +kernel
set_option maxRecDepth 20000 in
theorem w_X4_deliver_b9 {w : zWd} {X : zX} {l0 : Launch} {r : Unit} {S1 : zMem} (C : zC LC w X l0 cX4_deliver RX4 4 3 none) {c0 : Nat} {x1 : Int32} {S : zMem} {ls : Array Slot} (hl : lv_has ls 4 [(0, .ref (w.2.2.1 c0)), (1, .int x1)]) (hk_c0 : c0 < LC.1 ∧ LC.2.1 c0 = 6) (h : X4_deliver_b9 c0 x1 S = some (r, S1)) : zV LC w X none S1 S 9 ls [] := by
  unfold X4_deliver_b9 at h
  refine v_aload_n 9 C dX4_deliver_9 rfl (lv_at hl 0 rfl) ?_
  refine v_getr 10 (24) C dX4_deliver_10 fl_X4_24 rfl hk_c0 (rP0 hk_c0) ?_
  refine v_getr 13 (27) C dX4_deliver_13 fl_X4_97 rfl kC_24 rfl ?_
  refine v_iload_n 16 C dX4_deliver_16 rfl (lv_at hl 1 rfl) ?_
  refine v_iald 17 C dX4_deliver_17 kC_27 rfl h (fun v1 h => ?_)
  refine v_istore_n 18 C [(2, .int v1), (0, .ref (w.2.2.1 c0)), (1, .int x1)] dX4_deliver_18 rfl hl (by decide) rfl (fun ls hl => ?_)
  refine v_aload_n 19 C dX4_deliver_19 rfl (lv_at hl 1 rfl) ?_
  refine v_aload_n 20 C dX4_deliver_20 rfl (lv_at hl 1 rfl) ?_
  refine v_getr 21 (24) C dX4_deliver_21 fl_X4_24 rfl hk_c0 (rP0 hk_c0) ?_
  refine v_iload_n 24 C dX4_deliver_24 rfl (lv_at hl 2 rfl) ?_
  refine v_aload_n 25 C dX4_deliver_25 rfl (lv_at hl 1 rfl) ?_
  refine v_geti 26 C dX4_deliver_26 fl_X4_44 rfl hk_c0 h (fun v2 h => ?_)
  refine v_aload_n 29 C dX4_deliver_29 rfl (lv_at hl 1 rfl) ?_
  refine v_geti 30 C dX4_deliver_30 fl_X4_53 rfl hk_c0 h (fun v3 h => ?_)
  refine v_aload_n 33 C dX4_deliver_33 rfl (lv_at hl 1 rfl) ?_
  refine v_geti 34 C dX4_deliver_34 fl_X4_50 rfl hk_c0 h (fun v4 h => ?_)
  obtain ⟨v5, S, hc, h⟩ := zb_e h
  refine v_callVi 37 C (ci := 5) [.ref (w.2.2.1 c0)] dX4_deliver_37 ml_X4_100 hy_X6_moodAtDoor (c_X6_moodAtDoor  hc) (by decide) rfl hl.1 kC_24 rfl (Nat.le_of_ble_eq_true rfl) rfl ?_
  refine v_puti 40 C dX4_deliver_40 fl_X4_44 fp_3_8 rfl hk_c0 h (fun S h => ?_)
  refine v_aload_n 43 C dX4_deliver_43 rfl (lv_at hl 1 rfl) ?_
  refine v_getr 44 (24) C dX4_deliver_44 fl_X4_24 rfl hk_c0 (rP0 hk_c0) ?_
  refine v_iload_n 47 C dX4_deliver_47 rfl (lv_at hl 2 rfl) ?_
  refine v_aload_n 48 C dX4_deliver_48 rfl (lv_at hl 1 rfl) ?_
  refine v_geti 49 C dX4_deliver_49 fl_X4_44 rfl hk_c0 h (fun v6 h => ?_)
  obtain ⟨v7, S, hc, h⟩ := zb_e h
  refine v_callVi 52 C (ci := 5) [] dX4_deliver_52 ml_X4_104 hy_X6_warmth (c_X6_warmth  hc) (by decide) rfl hl.1 kC_24 rfl (Nat.le_of_ble_eq_true rfl) rfl ?_
  refine v_istore_n 55 C [(3, .int v7), (2, .int v1), (0, .ref (w.2.2.1 c0)), (1, .int x1)] dX4_deliver_55 rfl hl (by decide) rfl (fun ls hl => ?_)
  refine v_aload_n 56 C dX4_deliver_56 rfl (lv_at hl 2 rfl) ?_
  refine v_iload_n 57 C dX4_deliver_57 rfl (lv_at hl 1 rfl) ?_
  refine v_puti 58 C dX4_deliver_58 fl_X4_53 fp_3_10 rfl hk_c0 h (fun S h => ?_)
  refine v_aload_n 61 C dX4_deliver_61 rfl (lv_at hl 2 rfl) ?_
  refine v_dup 62 C dX4_deliver_62 rfl ?_
  refine v_geti 63 C dX4_deliver_63 fl_X4_56 rfl hk_c0 h (fun v8 h => ?_)
  refine v_iconst 66 C (v := (1 : Int32)) dX4_deliver_66 (by decide) ?_
  refine v_iload_n 67 C dX4_deliver_67 rfl (lv_at hl 3 rfl) ?_
  refine v_ishl 68 C dX4_deliver_68 h (fun v9 h => ?_)
  refine v_ior 69 C dX4_deliver_69 h (fun v10 h => ?_)
  refine v_puti 70 C dX4_deliver_70 fl_X4_56 fp_3_11 rfl hk_c0 h (fun S h => ?_)
  refine v_aload_n 73 C dX4_deliver_73 rfl (lv_at hl 2 rfl) ?_
  refine v_getr 74 (c0 + 2) C dX4_deliver_74 fl_X4_15 rfl hk_c0 (rP2 hk_c0) ?_
  refine v_iload_n 77 C dX4_deliver_77 rfl (lv_at hl 3 rfl) ?_
  refine v_iload_n 78 C dX4_deliver_78 rfl (lv_at hl 0 rfl) ?_
  refine v_iast 79 C dX4_deliver_79 (kP2 hk_c0) (nP2 hk_c0) h (fun S h => ?_)
  refine v_aload_n 80 C dX4_deliver_80 rfl (lv_at hl 2 rfl) ?_
  refine v_getr 81 (c0 + 1) C dX4_deliver_81 fl_X4_9 rfl hk_c0 (rP1 hk_c0) ?_
  refine v_iload_n 84 C dX4_deliver_84 rfl (lv_at hl 1 rfl) ?_
  refine v_aload_n 85 C dX4_deliver_85 rfl (lv_at hl 2 rfl) ?_
  refine v_getr 86 (c0 + 1) C dX4_deliver_86 fl_X4_9 rfl hk_c0 (rP1 hk_c0) ?_
  refine v_iload_n 89 C dX4_deliver_89 rfl (lv_at hl 1 rfl) ?_
  refine v_iald 90 C dX4_deliver_90 (kP1 hk_c0) (nP1 hk_c0) h (fun v11 h => ?_)
  refine v_iload_n 91 C dX4_deliver_91 rfl (lv_at hl 0 rfl) ?_
  obtain ⟨v12, S, hc, h⟩ := zb_e h
  refine v_callSi 92 C [.int v1, .ref (w.2.2.1 (c0 + 1))] dX4_deliver_92 ml_X4_108 hy_X6_bondBehind (c_X6_bondBehind  hc) (by decide) rfl hl.1 (Nat.le_of_ble_eq_true rfl) rfl ?_
  refine v_iast 95 C dX4_deliver_95 (kP1 hk_c0) (nP1 hk_c0) h (fun S h => ?_)
  refine v_aload_n 96 C dX4_deliver_96 rfl (lv_at hl 2 rfl) ?_
  refine v_aload_n 97 C dX4_deliver_97 rfl (lv_at hl 2 rfl) ?_
  refine v_getr 98 (24) C dX4_deliver_98 fl_X4_24 rfl hk_c0 (rP0 hk_c0) ?_
  refine v_iload_n 101 C dX4_deliver_101 rfl (lv_at hl 3 rfl) ?_
  refine v_aload_n 102 C dX4_deliver_102 rfl (lv_at hl 2 rfl) ?_
  refine v_geti 103 C dX4_deliver_103 fl_X4_44 rfl hk_c0 h (fun v13 h => ?_)
  refine v_iload_n 106 C dX4_deliver_106 rfl (lv_at hl 0 rfl) ?_
  obtain ⟨v14, S, hc, h⟩ := zb_e h
  refine v_callVi 107 C (ci := 5) [.ref (w.2.2.1 c0)] dX4_deliver_107 ml_X4_111 hy_X6_moodBehind (c_X6_moodBehind  hc) (by decide) rfl hl.1 kC_24 rfl (Nat.le_of_ble_eq_true rfl) rfl ?_
  refine v_puti 110 C dX4_deliver_110 fl_X4_44 fp_3_8 rfl hk_c0 h (fun S h => ?_)
  exact v_return 113 C dX4_deliver_113 h
set_option maxRecDepth 20000 in
theorem w_X4_deliver_b0 {w : zWd} {X : zX} {l0 : Launch} {r : Unit} {S1 : zMem} (C : zC LC w X l0 cX4_deliver RX4 4 3 none) {c0 : Nat} {x1 : Int32} {S : zMem} {ls : Array Slot} (hl : lv_has ls 4 [(0, .ref (w.2.2.1 c0)), (1, .int x1)]) (hk_c0 : c0 < LC.1 ∧ LC.2.1 c0 = 6) (h : X4_deliver_b0 c0 x1 S = some (r, S1)) : zV LC w X none S1 S 0 ls [] := by
  unfold X4_deliver_b0 at h
  refine v_aload_n 0 C dX4_deliver_0 rfl (lv_at hl 0 rfl) ?_
  refine v_iload_n 1 C dX4_deliver_1 rfl (lv_at hl 1 rfl) ?_
  obtain ⟨v1, S, hc, h⟩ := zb_e h
  refine v_callVi 2 C (ci := 3) [] dX4_deliver_2 ml_X4_93 hy_X4_wasCarried (c_X4_wasCarried hk_c0 hc) (by decide) rfl hl.1 hk_c0 rfl (Nat.le_of_ble_eq_true rfl) rfl ?_
  refine v_if_eq 5 9 C dX4_deliver_5 (by decide) h (fun h => ?_) (fun h => ?_)
  · exact w_X4_deliver_b9 C (lv_sub hl [0, 1] rfl) hk_c0 h
  · exact v_return 8 C dX4_deliver_8 h
theorem c_X4_deliver {w : zWd} {l0 : Launch} {c0 : Nat} {x1 : Int32} {S S1 : zMem} {r : Unit} (hk_c0 : c0 < LC.1 ∧ LC.2.1 c0 = 6) (h : f_X4_deliver c0 x1 S = some (r, S1)) : zMet LC w l0 yX4_deliver cX4_deliver 4 none 3 [.ref (w.2.2.1 c0), .int x1] S none S1 :=
  zMet_of (by decide +kernel) (Nat.le_of_ble_eq_true rfl) (fun X ls C hl => w_X4_deliver_b0 C hl hk_c0 h)
theorem dX4_beginDay_0 : decode cX4_beginDay 0 = .ok (.aload_n 0, 1) := by decide +kernel
theorem dX4_beginDay_1 : decode cX4_beginDay 1 = .ok (.iconst 0, 1) := by decide +kernel
theorem dX4_beginDay_2 : decode cX4_beginDay 2 = .ok (.putfield 53, 3) := by decide +kernel
theorem dX4_beginDay_5 : decode cX4_beginDay 5 = .ok (.aload_n 0, 1) := by decide +kernel
theorem dX4_beginDay_6 : decode cX4_beginDay 6 = .ok (.iconst 0, 1) := by decide +kernel
theorem dX4_beginDay_7 : decode cX4_beginDay 7 = .ok (.putfield 56, 3) := by decide +kernel
theorem dX4_beginDay_10 : decode cX4_beginDay 10 = .ok (.return_, 1) := by decide +kernel
set_option maxRecDepth 20000 in
theorem w_X4_beginDay_b0 {w : zWd} {X : zX} {l0 : Launch} {r : Unit} {S1 : zMem} (C : zC LC w X l0 cX4_beginDay RX4 1 1 none) {c0 : Nat} {S : zMem} {ls : Array Slot} (hl : lv_has ls 1 [(0, .ref (w.2.2.1 c0))]) (hk_c0 : c0 < LC.1 ∧ LC.2.1 c0 = 6) (h : X4_beginDay_b0 c0 S = some (r, S1)) : zV LC w X none S1 S 0 ls [] := by
  unfold X4_beginDay_b0 at h
  refine v_aload_n 0 C dX4_beginDay_0 rfl (lv_at hl 0 rfl) ?_
  refine v_iconst 1 C (v := (0 : Int32)) dX4_beginDay_1 (by decide) ?_
  refine v_puti 2 C dX4_beginDay_2 fl_X4_53 fp_3_10 rfl hk_c0 h (fun S h => ?_)
  refine v_aload_n 5 C dX4_beginDay_5 rfl (lv_at hl 0 rfl) ?_
  refine v_iconst 6 C (v := (0 : Int32)) dX4_beginDay_6 (by decide) ?_
  refine v_puti 7 C dX4_beginDay_7 fl_X4_56 fp_3_11 rfl hk_c0 h (fun S h => ?_)
  exact v_return 10 C dX4_beginDay_10 h
theorem c_X4_beginDay {w : zWd} {l0 : Launch} {c0 : Nat} {S S1 : zMem} {r : Unit} (hk_c0 : c0 < LC.1 ∧ LC.2.1 c0 = 6) (h : f_X4_beginDay c0 S = some (r, S1)) : zMet LC w l0 yX4_beginDay cX4_beginDay 1 none 1 [.ref (w.2.2.1 c0)] S none S1 :=
  zMet_of (by decide +kernel) (Nat.le_of_ble_eq_true rfl) (fun X ls C hl => w_X4_beginDay_b0 C hl hk_c0 h)
theorem ml_X4_71 : Cond.methodLink RX4 71 yX4_spareDeeds ∈ zT := zT_of (List.mem_of_getElem? (i := 575) (by decide +kernel)) rfl
theorem hy_X4_spareDeeds : zYv yX4_spareDeeds cX4_spareDeeds 1 (some .int) 0 := ⟨⟨zT_of (List.mem_of_getElem? (i := 570) (by decide +kernel)) rfl, zT_of (List.mem_of_getElem? (i := 73) (by decide +kernel)) rfl, by decide, by decide +kernel, by decide +kernel, by decide +kernel⟩, zT_of (List.mem_of_getElem? (i := 568) (by decide +kernel)) rfl, zT_of (List.mem_of_getElem? (i := 569) (by decide +kernel)) rfl⟩
theorem fl_X4_18 : zFL RX4 18 3 3 := ⟨_, rfl, by decide, zT_of (List.mem_of_getElem? (i := 171) (by decide +kernel)) rfl⟩
theorem fl_X4_21 : zFL RX4 21 3 4 := ⟨_, rfl, by decide, zT_of (List.mem_of_getElem? (i := 172) (by decide +kernel)) rfl⟩
theorem ml_X4_75 : Cond.methodLink RX4 75 yX4_deliver ∈ zT := zT_of (List.mem_of_getElem? (i := 576) (by decide +kernel)) rfl
theorem hy_X4_deliver : zYv yX4_deliver cX4_deliver 4 none 1 := ⟨⟨zT_of (List.mem_of_getElem? (i := 579) (by decide +kernel)) rfl, zT_of (List.mem_of_getElem? (i := 73) (by decide +kernel)) rfl, by decide, by decide +kernel, by decide +kernel, by decide +kernel⟩, zT_of (List.mem_of_getElem? (i := 577) (by decide +kernel)) rfl, zT_of (List.mem_of_getElem? (i := 578) (by decide +kernel)) rfl⟩
theorem ml_X4_79 : Cond.methodLink RX4 79 yX6_moodWithin ∈ zT := zT_of (List.mem_of_getElem? (i := 593) (by decide +kernel)) rfl
theorem ml_X4_83 : Cond.methodLink RX4 83 yX4_beginDay ∈ zT := zT_of (List.mem_of_getElem? (i := 594) (by decide +kernel)) rfl
theorem hy_X4_beginDay : zYv yX4_beginDay cX4_beginDay 1 none 0 := ⟨⟨zT_of (List.mem_of_getElem? (i := 597) (by decide +kernel)) rfl, zT_of (List.mem_of_getElem? (i := 73) (by decide +kernel)) rfl, by decide, by decide +kernel, by decide +kernel, by decide +kernel⟩, zT_of (List.mem_of_getElem? (i := 595) (by decide +kernel)) rfl, zT_of (List.mem_of_getElem? (i := 596) (by decide +kernel)) rfl⟩
theorem dX4_perform_0 : decode cX4_perform 0 = .ok (.aload_n 0, 1) := by decide +kernel
theorem dX4_perform_1 : decode cX4_perform 1 = .ok (.invokevirtual 71, 3) := by decide +kernel
theorem dX4_perform_4 : decode cX4_perform 4 = .ok (.iconst 1, 1) := by decide +kernel
theorem dX4_perform_5 : decode cX4_perform 5 = .ok (.if_icmp .ge 4, 3) := by decide +kernel
theorem dX4_perform_8 : decode cX4_perform 8 = .ok (.return_, 1) := by decide +kernel
theorem dX4_perform_9 : decode cX4_perform 9 = .ok (.aload_n 0, 1) := by decide +kernel
theorem dX4_perform_10 : decode cX4_perform 10 = .ok (.getfield 18, 3) := by decide +kernel
theorem dX4_perform_13 : decode cX4_perform 13 = .ok (.aload_n 0, 1) := by decide +kernel
theorem dX4_perform_14 : decode cX4_perform 14 = .ok (.getfield 32, 3) := by decide +kernel
theorem dX4_perform_17 : decode cX4_perform 17 = .ok (.iload_n 1, 1) := by decide +kernel
theorem dX4_perform_18 : decode cX4_perform 18 = .ok (.iastore, 1) := by decide +kernel
theorem dX4_perform_19 : decode cX4_perform 19 = .ok (.aload_n 0, 1) := by decide +kernel
theorem dX4_perform_20 : decode cX4_perform 20 = .ok (.getfield 21, 3) := by decide +kernel
theorem dX4_perform_23 : decode cX4_perform 23 = .ok (.aload_n 0, 1) := by decide +kernel
theorem dX4_perform_24 : decode cX4_perform 24 = .ok (.getfield 32, 3) := by decide +kernel
theorem dX4_perform_27 : decode cX4_perform 27 = .ok (.iload_n 2, 1) := by decide +kernel
theorem dX4_perform_28 : decode cX4_perform 28 = .ok (.iastore, 1) := by decide +kernel
theorem dX4_perform_29 : decode cX4_perform 29 = .ok (.aload_n 0, 1) := by decide +kernel
theorem dX4_perform_30 : decode cX4_perform 30 = .ok (.dup, 1) := by decide +kernel
theorem dX4_perform_31 : decode cX4_perform 31 = .ok (.getfield 32, 3) := by decide +kernel
theorem dX4_perform_34 : decode cX4_perform 34 = .ok (.iconst 1, 1) := by decide +kernel
theorem dX4_perform_35 : decode cX4_perform 35 = .ok (.iadd, 1) := by decide +kernel
theorem dX4_perform_36 : decode cX4_perform 36 = .ok (.putfield 32, 3) := by decide +kernel
theorem dX4_perform_39 : decode cX4_perform 39 = .ok (.iload_n 1, 1) := by decide +kernel
theorem dX4_perform_40 : decode cX4_perform 40 = .ok (.tableswitch 60 0 2 #[28, 36, 52], 28) := by decide +kernel
theorem dX4_perform_68 : decode cX4_perform 68 = .ok (.aload_n 0, 1) := by decide +kernel
theorem dX4_perform_69 : decode cX4_perform 69 = .ok (.iload_n 2, 1) := by decide +kernel
theorem dX4_perform_70 : decode cX4_perform 70 = .ok (.invokevirtual 75, 3) := by decide +kernel
theorem dX4_perform_73 : decode cX4_perform 73 = .ok (.goto 41, 3) := by decide +kernel
theorem dX4_perform_76 : decode cX4_perform 76 = .ok (.aload_n 0, 1) := by decide +kernel
theorem dX4_perform_77 : decode cX4_perform 77 = .ok (.aload_n 0, 1) := by decide +kernel
theorem dX4_perform_78 : decode cX4_perform 78 = .ok (.getfield 44, 3) := by decide +kernel
theorem dX4_perform_81 : decode cX4_perform 81 = .ok (.iload_n 2, 1) := by decide +kernel
theorem dX4_perform_82 : decode cX4_perform 82 = .ok (.iadd, 1) := by decide +kernel
theorem dX4_perform_83 : decode cX4_perform 83 = .ok (.invokestatic 79, 3) := by decide +kernel
theorem dX4_perform_86 : decode cX4_perform 86 = .ok (.putfield 44, 3) := by decide +kernel
theorem dX4_perform_89 : decode cX4_perform 89 = .ok (.goto 25, 3) := by decide +kernel
theorem dX4_perform_92 : decode cX4_perform 92 = .ok (.aload_n 0, 1) := by decide +kernel
theorem dX4_perform_93 : decode cX4_perform 93 = .ok (.iload_n 2, 1) := by decide +kernel
theorem dX4_perform_94 : decode cX4_perform 94 = .ok (.putfield 50, 3) := by decide +kernel
theorem dX4_perform_97 : decode cX4_perform 97 = .ok (.goto 17, 3) := by decide +kernel
theorem dX4_perform_100 : decode cX4_perform 100 = .ok (.aload_n 0, 1) := by decide +kernel
theorem dX4_perform_101 : decode cX4_perform 101 = .ok (.dup, 1) := by decide +kernel
theorem dX4_perform_102 : decode cX4_perform 102 = .ok (.getfield 36, 3) := by decide +kernel
theorem dX4_perform_105 : decode cX4_perform 105 = .ok (.iconst 1, 1) := by decide +kernel
theorem dX4_perform_106 : decode cX4_perform 106 = .ok (.iadd, 1) := by decide +kernel
theorem dX4_perform_107 : decode cX4_perform 107 = .ok (.putfield 36, 3) := by decide +kernel
theorem dX4_perform_110 : decode cX4_perform 110 = .ok (.aload_n 0, 1) := by decide +kernel
theorem dX4_perform_111 : decode cX4_perform 111 = .ok (.invokevirtual 83, 3) := by decide +kernel
theorem dX4_perform_114 : decode cX4_perform 114 = .ok (.return_, 1) := by decide +kernel
set_option maxRecDepth 20000 in
theorem w_X4_perform_b114 {w : zWd} {X : zX} {l0 : Launch} {r : Unit} {S1 : zMem} (C : zC LC w X l0 cX4_perform RX4 3 4 none) {S : zMem} {ls : Array Slot} (hl : lv_has ls 3 []) (h : X4_perform_b114  S = some (r, S1)) : zV LC w X none S1 S 114 ls [] := by
  unfold X4_perform_b114 at h
  exact v_return 114 C dX4_perform_114 h
set_option maxRecDepth 20000 in
theorem w_X4_perform_b0 {w : zWd} {X : zX} {l0 : Launch} {r : Unit} {S1 : zMem} (C : zC LC w X l0 cX4_perform RX4 3 4 none) {c0 : Nat} {x1 : Int32} {x2 : Int32} {S : zMem} {ls : Array Slot} (hl : lv_has ls 3 [(0, .ref (w.2.2.1 c0)), (1, .int x1), (2, .int x2)]) (hk_c0 : c0 < LC.1 ∧ LC.2.1 c0 = 6) (h : X4_perform_b0 c0 x1 x2 S = some (r, S1)) : zV LC w X none S1 S 0 ls [] := by
  unfold X4_perform_b0 at h
  refine v_aload_n 0 C dX4_perform_0 rfl (lv_at hl 0 rfl) ?_
  obtain ⟨v1, S, hc, h⟩ := zb_e h
  refine v_callVi 1 C (ci := 3) [] dX4_perform_1 ml_X4_71 hy_X4_spareDeeds (c_X4_spareDeeds hk_c0 hc) (by decide) rfl hl.1 hk_c0 rfl (Nat.le_of_ble_eq_true rfl) rfl ?_
  refine v_iconst 4 C (v := (1 : Int32)) dX4_perform_4 (by decide) ?_
  refine v_icmp_ge 5 9 C dX4_perform_5 (by decide) h (fun h => ?_) (fun h => ?_)
  · refine v_aload_n 9 C dX4_perform_9 rfl (lv_at hl 0 rfl) ?_
    refine v_getr 10 (c0 + 3) C dX4_perform_10 fl_X4_18 rfl hk_c0 (rP3 hk_c0) ?_
    refine v_aload_n 13 C dX4_perform_13 rfl (lv_at hl 0 rfl) ?_
    refine v_geti 14 C dX4_perform_14 fl_X4_32 rfl hk_c0 h (fun v2 h => ?_)
    refine v_iload_n 17 C dX4_perform_17 rfl (lv_at hl 1 rfl) ?_
    refine v_iast 18 C dX4_perform_18 (kP3 hk_c0) (nP3 hk_c0) h (fun S h => ?_)
    refine v_aload_n 19 C dX4_perform_19 rfl (lv_at hl 0 rfl) ?_
    refine v_getr 20 (c0 + 4) C dX4_perform_20 fl_X4_21 rfl hk_c0 (rP4 hk_c0) ?_
    refine v_aload_n 23 C dX4_perform_23 rfl (lv_at hl 0 rfl) ?_
    refine v_geti 24 C dX4_perform_24 fl_X4_32 rfl hk_c0 h (fun v3 h => ?_)
    refine v_iload_n 27 C dX4_perform_27 rfl (lv_at hl 2 rfl) ?_
    refine v_iast 28 C dX4_perform_28 (kP4 hk_c0) (nP4 hk_c0) h (fun S h => ?_)
    refine v_aload_n 29 C dX4_perform_29 rfl (lv_at hl 0 rfl) ?_
    refine v_dup 30 C dX4_perform_30 rfl ?_
    refine v_geti 31 C dX4_perform_31 fl_X4_32 rfl hk_c0 h (fun v4 h => ?_)
    refine v_iconst 34 C (v := (1 : Int32)) dX4_perform_34 (by decide) ?_
    refine v_iadd 35 C dX4_perform_35 h (fun v5 h => ?_)
    refine v_puti 36 C dX4_perform_36 fl_X4_32 fp_3_6 rfl hk_c0 h (fun S h => ?_)
    refine v_iload_n 39 C dX4_perform_39 rfl (lv_at hl 1 rfl) ?_
    refine v_ite h (fun hq7 h => ?_) (fun hq7 h => ?_)
    · refine v_tab 40 68 C (x := x1) (off := 28) dX4_perform_40 (by rw [hq7]; decide) (by rw [hq7]; decide) (by rw [hq7]; rfl) (by decide) ?_
      refine v_aload_n 68 C dX4_perform_68 rfl (lv_at hl 0 rfl) ?_
      refine v_iload_n 69 C dX4_perform_69 rfl (lv_at hl 2 rfl) ?_
      obtain ⟨v6, S, hc, h⟩ := zb_e h
      refine v_callVv 70 C (ci := 3) [] dX4_perform_70 ml_X4_75 hy_X4_deliver (c_X4_deliver hk_c0 hc) (by decide) rfl hl.1 hk_c0 rfl (Nat.le_of_ble_eq_true rfl) rfl ?_
      refine v_goto 73 114 C dX4_perform_73 (by decide) ?_
      exact w_X4_perform_b114 C (lv_sub hl [] rfl) h
    · refine v_ite h (fun hq11 h => ?_) (fun hq11 h => ?_)
      · refine v_tab 40 76 C (x := x1) (off := 36) dX4_perform_40 (by rw [hq11]; decide) (by rw [hq11]; decide) (by rw [hq11]; rfl) (by decide) ?_
        refine v_aload_n 76 C dX4_perform_76 rfl (lv_at hl 0 rfl) ?_
        refine v_aload_n 77 C dX4_perform_77 rfl (lv_at hl 0 rfl) ?_
        refine v_geti 78 C dX4_perform_78 fl_X4_44 rfl hk_c0 h (fun v8 h => ?_)
        refine v_iload_n 81 C dX4_perform_81 rfl (lv_at hl 2 rfl) ?_
        refine v_iadd 82 C dX4_perform_82 h (fun v9 h => ?_)
        obtain ⟨v10, S, hc, h⟩ := zb_e h
        refine v_callSi 83 C [.ref (w.2.2.1 c0)] dX4_perform_83 ml_X4_79 hy_X6_moodWithin (c_X6_moodWithin  hc) (by decide) rfl hl.1 (Nat.le_of_ble_eq_true rfl) rfl ?_
        refine v_puti 86 C dX4_perform_86 fl_X4_44 fp_3_8 rfl hk_c0 h (fun S h => ?_)
        refine v_goto 89 114 C dX4_perform_89 (by decide) ?_
        exact w_X4_perform_b114 C (lv_sub hl [] rfl) h
      · refine v_ite h (fun hq12 h => ?_) (fun hq12 h => ?_)
        · refine v_tab 40 92 C (x := x1) (off := 52) dX4_perform_40 (by rw [hq12]; decide) (by rw [hq12]; decide) (by rw [hq12]; rfl) (by decide) ?_
          refine v_aload_n 92 C dX4_perform_92 rfl (lv_at hl 0 rfl) ?_
          refine v_iload_n 93 C dX4_perform_93 rfl (lv_at hl 2 rfl) ?_
          refine v_puti 94 C dX4_perform_94 fl_X4_50 fp_3_9 rfl hk_c0 h (fun S h => ?_)
          refine v_goto 97 114 C dX4_perform_97 (by decide) ?_
          exact w_X4_perform_b114 C (lv_sub hl [] rfl) h
        · refine v_tabo 40 100 C (x := x1) dX4_perform_40 (by have hq7z := zne hq7 (show ((0 : Int32)).toInt = 0 by decide); have hq11z := zne hq11 (show ((1 : Int32)).toInt = 1 by decide); have hq12z := zne hq12 (show ((2 : Int32)).toInt = 2 by decide); omega) (by decide) ?_
          refine v_aload_n 100 C dX4_perform_100 rfl (lv_at hl 0 rfl) ?_
          refine v_dup 101 C dX4_perform_101 rfl ?_
          refine v_geti 102 C dX4_perform_102 fl_X4_36 rfl hk_c0 h (fun v13 h => ?_)
          refine v_iconst 105 C (v := (1 : Int32)) dX4_perform_105 (by decide) ?_
          refine v_iadd 106 C dX4_perform_106 h (fun v14 h => ?_)
          refine v_puti 107 C dX4_perform_107 fl_X4_36 fp_3_7 rfl hk_c0 h (fun S h => ?_)
          refine v_aload_n 110 C dX4_perform_110 rfl (lv_at hl 0 rfl) ?_
          obtain ⟨v15, S, hc, h⟩ := zb_e h
          refine v_callVv 111 C (ci := 3) [] dX4_perform_111 ml_X4_83 hy_X4_beginDay (c_X4_beginDay hk_c0 hc) (by decide) rfl hl.1 hk_c0 rfl (Nat.le_of_ble_eq_true rfl) rfl ?_
          exact w_X4_perform_b114 C (lv_sub hl [] rfl) h
  · exact v_return 8 C dX4_perform_8 h
theorem c_X4_perform {w : zWd} {l0 : Launch} {c0 : Nat} {x1 : Int32} {x2 : Int32} {S S1 : zMem} {r : Unit} (hk_c0 : c0 < LC.1 ∧ LC.2.1 c0 = 6) (h : f_X4_perform c0 x1 x2 S = some (r, S1)) : zMet LC w l0 yX4_perform cX4_perform 3 none 4 [.ref (w.2.2.1 c0), .int x1, .int x2] S none S1 :=
  zMet_of (by decide +kernel) (Nat.le_of_ble_eq_true rfl) (fun X ls C hl => w_X4_perform_b0 C hl hk_c0 h)
theorem ml_X8_186 : Cond.methodLink RX8 186 yX4_spareDeeds ∈ zT := zT_of (List.mem_of_getElem? (i := 567) (by decide +kernel)) rfl
theorem ml_X8_190 : Cond.methodLink RX8 190 yX4_perform ∈ zT := zT_of (List.mem_of_getElem? (i := 571) (by decide +kernel)) rfl
theorem hy_X4_perform : zYv yX4_perform cX4_perform 3 none 2 := ⟨⟨zT_of (List.mem_of_getElem? (i := 574) (by decide +kernel)) rfl, zT_of (List.mem_of_getElem? (i := 73) (by decide +kernel)) rfl, by decide, by decide +kernel, by decide +kernel, by decide +kernel⟩, zT_of (List.mem_of_getElem? (i := 572) (by decide +kernel)) rfl, zT_of (List.mem_of_getElem? (i := 573) (by decide +kernel)) rfl⟩
theorem dX8_carry_0 : decode cX8_carry 0 = .ok (.aload_n 0, 1) := by decide +kernel
theorem dX8_carry_1 : decode cX8_carry 1 = .ok (.iload_n 1, 1) := by decide +kernel
theorem dX8_carry_2 : decode cX8_carry 2 = .ok (.invokevirtual 159, 3) := by decide +kernel
theorem dX8_carry_5 : decode cX8_carry 5 = .ok (.ifCond .ne 5, 3) := by decide +kernel
theorem dX8_carry_8 : decode cX8_carry 8 = .ok (.iconst (-1), 1) := by decide +kernel
theorem dX8_carry_9 : decode cX8_carry 9 = .ok (.ireturn, 1) := by decide +kernel
theorem dX8_carry_10 : decode cX8_carry 10 = .ok (.aload_n 0, 1) := by decide +kernel
theorem dX8_carry_11 : decode cX8_carry 11 = .ok (.getfield 37, 3) := by decide +kernel
theorem dX8_carry_14 : decode cX8_carry 14 = .ok (.iload_n 1, 1) := by decide +kernel
theorem dX8_carry_15 : decode cX8_carry 15 = .ok (.invokevirtual 183, 3) := by decide +kernel
theorem dX8_carry_18 : decode cX8_carry 18 = .ok (.ifCond .eq 6, 3) := by decide +kernel
theorem dX8_carry_21 : decode cX8_carry 21 = .ok (.bipush (-4), 2) := by decide +kernel
theorem dX8_carry_23 : decode cX8_carry 23 = .ok (.ireturn, 1) := by decide +kernel
theorem dX8_carry_24 : decode cX8_carry 24 = .ok (.aload_n 0, 1) := by decide +kernel
theorem dX8_carry_25 : decode cX8_carry 25 = .ok (.getfield 37, 3) := by decide +kernel
theorem dX8_carry_28 : decode cX8_carry 28 = .ok (.invokevirtual 186, 3) := by decide +kernel
theorem dX8_carry_31 : decode cX8_carry 31 = .ok (.iconst 1, 1) := by decide +kernel
theorem dX8_carry_32 : decode cX8_carry 32 = .ok (.if_icmp .ge 6, 3) := by decide +kernel
theorem dX8_carry_35 : decode cX8_carry 35 = .ok (.bipush (-2), 2) := by decide +kernel
theorem dX8_carry_37 : decode cX8_carry 37 = .ok (.ireturn, 1) := by decide +kernel
theorem dX8_carry_38 : decode cX8_carry 38 = .ok (.aload_n 0, 1) := by decide +kernel
theorem dX8_carry_39 : decode cX8_carry 39 = .ok (.getfield 37, 3) := by decide +kernel
theorem dX8_carry_42 : decode cX8_carry 42 = .ok (.iconst 0, 1) := by decide +kernel
theorem dX8_carry_43 : decode cX8_carry 43 = .ok (.iload_n 1, 1) := by decide +kernel
theorem dX8_carry_44 : decode cX8_carry 44 = .ok (.invokevirtual 190, 3) := by decide +kernel
theorem dX8_carry_47 : decode cX8_carry 47 = .ok (.aload_n 0, 1) := by decide +kernel
theorem dX8_carry_48 : decode cX8_carry 48 = .ok (.getfield 37, 3) := by decide +kernel
theorem dX8_carry_51 : decode cX8_carry 51 = .ok (.getfield 193, 3) := by decide +kernel
theorem dX8_carry_54 : decode cX8_carry 54 = .ok (.iload_n 1, 1) := by decide +kernel
theorem dX8_carry_55 : decode cX8_carry 55 = .ok (.iaload, 1) := by decide +kernel
theorem dX8_carry_56 : decode cX8_carry 56 = .ok (.ireturn, 1) := by decide +kernel
set_option maxRecDepth 20000 in
theorem w_X8_carry_b0 {w : zWd} {X : zX} {l0 : Launch} {r : Int32} {S1 : zMem} (C : zC LC w X l0 cX8_carry RX8 2 5 (some .int)) {x1 : Int32} {S : zMem} {ls : Array Slot} (hl : lv_has ls 2 [(0, .ref (w.2.2.1 0)), (1, .int x1)]) (h : X8_carry_b0 x1 S = some (r, S1)) : zV LC w X (some (.int r)) S1 S 0 ls [] := by
  unfold X8_carry_b0 at h
  refine v_aload_n 0 C dX8_carry_0 rfl (lv_at hl 0 rfl) ?_
  refine v_iload_n 1 C dX8_carry_1 rfl (lv_at hl 1 rfl) ?_
  obtain ⟨v1, S, hc, h⟩ := zb_e h
  refine v_callVi 2 C (ci := 7) [] dX8_carry_2 ml_X8_159 hy_X8_isLetter (c_X8_isLetter  hc) (by decide) rfl hl.1 kC_0 rfl (Nat.le_of_ble_eq_true rfl) rfl ?_
  refine v_if_ne 5 10 C dX8_carry_5 (by decide) h (fun h => ?_) (fun h => ?_)
  · refine v_aload_n 10 C dX8_carry_10 rfl (lv_at hl 0 rfl) ?_
    refine v_getr 11 (35) C dX8_carry_11 fl_X8_37 rfl kC_0 rfl ?_
    refine v_iload_n 14 C dX8_carry_14 rfl (lv_at hl 1 rfl) ?_
    obtain ⟨v2, S, hc, h⟩ := zb_e h
    refine v_callVi 15 C (ci := 3) [] dX8_carry_15 ml_X8_183 hy_X4_wasCarried (c_X4_wasCarried kC_35 hc) (by decide) rfl hl.1 kC_35 rfl (Nat.le_of_ble_eq_true rfl) rfl ?_
    refine v_if_eq 18 24 C dX8_carry_18 (by decide) h (fun h => ?_) (fun h => ?_)
    · refine v_aload_n 24 C dX8_carry_24 rfl (lv_at hl 0 rfl) ?_
      refine v_getr 25 (35) C dX8_carry_25 fl_X8_37 rfl kC_0 rfl ?_
      obtain ⟨v3, S, hc, h⟩ := zb_e h
      refine v_callVi 28 C (ci := 3) [] dX8_carry_28 ml_X8_186 hy_X4_spareDeeds (c_X4_spareDeeds kC_35 hc) (by decide) rfl hl.1 kC_35 rfl (Nat.le_of_ble_eq_true rfl) rfl ?_
      refine v_iconst 31 C (v := (1 : Int32)) dX8_carry_31 (by decide) ?_
      refine v_icmp_ge 32 38 C dX8_carry_32 (by decide) h (fun h => ?_) (fun h => ?_)
      · refine v_aload_n 38 C dX8_carry_38 rfl (lv_at hl 0 rfl) ?_
        refine v_getr 39 (35) C dX8_carry_39 fl_X8_37 rfl kC_0 rfl ?_
        refine v_iconst 42 C (v := (0 : Int32)) dX8_carry_42 (by decide) ?_
        refine v_iload_n 43 C dX8_carry_43 rfl (lv_at hl 1 rfl) ?_
        obtain ⟨v4, S, hc, h⟩ := zb_e h
        refine v_callVv 44 C (ci := 3) [] dX8_carry_44 ml_X8_190 hy_X4_perform (c_X4_perform kC_35 hc) (by decide) rfl hl.1 kC_35 rfl (Nat.le_of_ble_eq_true rfl) rfl ?_
        refine v_aload_n 47 C dX8_carry_47 rfl (lv_at hl 0 rfl) ?_
        refine v_getr 48 (35) C dX8_carry_48 fl_X8_37 rfl kC_0 rfl ?_
        refine v_getr 51 (37) C dX8_carry_51 fl_X8_193 rfl kC_35 rfl ?_
        refine v_iload_n 54 C dX8_carry_54 rfl (lv_at hl 1 rfl) ?_
        refine v_iald 55 C dX8_carry_55 kC_37 rfl h (fun v5 h => ?_)
        exact v_ireturn 56 C dX8_carry_56 h
      · refine v_bipush 35 C (v := (-2 : Int32)) dX8_carry_35 (by decide) ?_
        exact v_ireturn 37 C dX8_carry_37 h
    · refine v_bipush 21 C (v := (-4 : Int32)) dX8_carry_21 (by decide) ?_
      exact v_ireturn 23 C dX8_carry_23 h
  · refine v_iconst 8 C (v := (-1 : Int32)) dX8_carry_8 (by decide) ?_
    exact v_ireturn 9 C dX8_carry_9 h
theorem c_X8_carry {w : zWd} {l0 : Launch} {x1 : Int32} {S S1 : zMem} {r : Int32} (h : f_X8_carry x1 S = some (r, S1)) : zMet LC w l0 yX8_carry cX8_carry 2 (some .int) 5 [.ref (w.2.2.1 0), .int x1] S (some (.int r)) S1 :=
  zMet_of (by decide +kernel) (Nat.le_of_ble_eq_true rfl) (fun X ls C hl => w_X8_carry_b0 C hl h)
theorem dX8_isPosted_0 : decode cX8_isPosted 0 = .ok (.aload_n 0, 1) := by decide +kernel
theorem dX8_isPosted_1 : decode cX8_isPosted 1 = .ok (.getfield 21, 3) := by decide +kernel
theorem dX8_isPosted_4 : decode cX8_isPosted 4 = .ok (.getfield 146, 3) := by decide +kernel
theorem dX8_isPosted_7 : decode cX8_isPosted 7 = .ok (.ifCond .le 7, 3) := by decide +kernel
theorem dX8_isPosted_10 : decode cX8_isPosted 10 = .ok (.iconst 1, 1) := by decide +kernel
theorem dX8_isPosted_11 : decode cX8_isPosted 11 = .ok (.goto 4, 3) := by decide +kernel
theorem dX8_isPosted_14 : decode cX8_isPosted 14 = .ok (.iconst 0, 1) := by decide +kernel
theorem dX8_isPosted_15 : decode cX8_isPosted 15 = .ok (.ireturn, 1) := by decide +kernel
set_option maxRecDepth 20000 in
theorem w_X8_isPosted_b15 {w : zWd} {X : zX} {l0 : Launch} {r : Int32} {S1 : zMem} (C : zC LC w X l0 cX8_isPosted RX8 1 1 (some .boolean)) {s0 : Int32} {S : zMem} {ls : Array Slot} (hl : lv_has ls 1 []) (h : X8_isPosted_b15 s0 S = some (r, S1)) : zV LC w X (some (.int r)) S1 S 15 ls [.int s0] := by
  unfold X8_isPosted_b15 at h
  exact v_zreturn 15 C dX8_isPosted_15 h
set_option maxRecDepth 20000 in
theorem w_X8_isPosted_b0 {w : zWd} {X : zX} {l0 : Launch} {r : Int32} {S1 : zMem} (C : zC LC w X l0 cX8_isPosted RX8 1 1 (some .boolean)) {S : zMem} {ls : Array Slot} (hl : lv_has ls 1 [(0, .ref (w.2.2.1 0))]) (h : X8_isPosted_b0  S = some (r, S1)) : zV LC w X (some (.int r)) S1 S 0 ls [] := by
  unfold X8_isPosted_b0 at h
  refine v_aload_n 0 C dX8_isPosted_0 rfl (lv_at hl 0 rfl) ?_
  refine v_getr 1 (24) C dX8_isPosted_1 fl_X8_21 rfl kC_0 rfl ?_
  refine v_geti 4 C dX8_isPosted_4 fl_X8_146 rfl kC_24 h (fun v1 h => ?_)
  refine v_if_le 7 14 C dX8_isPosted_7 (by decide) h (fun h => ?_) (fun h => ?_)
  · refine v_iconst 14 C (v := (0 : Int32)) dX8_isPosted_14 (by decide) ?_
    exact w_X8_isPosted_b15 C (lv_sub hl [] rfl) h
  · refine v_iconst 10 C (v := (1 : Int32)) dX8_isPosted_10 (by decide) ?_
    refine v_goto 11 15 C dX8_isPosted_11 (by decide) ?_
    exact w_X8_isPosted_b15 C (lv_sub hl [] rfl) h
theorem c_X8_isPosted {w : zWd} {l0 : Launch} {S S1 : zMem} {r : Int32} (h : f_X8_isPosted  S = some (r, S1)) : zMet LC w l0 yX8_isPosted cX8_isPosted 1 (some .boolean) 1 [.ref (w.2.2.1 0)] S (some (.int r)) S1 :=
  zMet_of (by decide +kernel) (Nat.le_of_ble_eq_true rfl) (fun X ls C hl => w_X8_isPosted_b0 C hl h)
theorem ml_X8_196 : Cond.methodLink RX8 196 yX8_isPosted ∈ zT := zT_of (List.mem_of_getElem? (i := 602) (by decide +kernel)) rfl
theorem hy_X8_isPosted : zYv yX8_isPosted cX8_isPosted 1 (some .boolean) 0 := ⟨⟨zT_of (List.mem_of_getElem? (i := 605) (by decide +kernel)) rfl, zT_of (List.mem_of_getElem? (i := 70) (by decide +kernel)) rfl, by decide, by decide +kernel, by decide +kernel, by decide +kernel⟩, zT_of (List.mem_of_getElem? (i := 604) (by decide +kernel)) rfl, zT_of (List.mem_of_getElem? (i := 11) (by decide +kernel)) rfl⟩
theorem dX8_bribe_0 : decode cX8_bribe 0 = .ok (.iload_n 1, 1) := by decide +kernel
theorem dX8_bribe_1 : decode cX8_bribe 1 = .ok (.iconst 1, 1) := by decide +kernel
theorem dX8_bribe_2 : decode cX8_bribe 2 = .ok (.if_icmp .lt 9, 3) := by decide +kernel
theorem dX8_bribe_5 : decode cX8_bribe 5 = .ok (.iload_n 1, 1) := by decide +kernel
theorem dX8_bribe_6 : decode cX8_bribe 6 = .ok (.bipush 9, 2) := by decide +kernel
theorem dX8_bribe_8 : decode cX8_bribe 8 = .ok (.if_icmp .le 5, 3) := by decide +kernel
theorem dX8_bribe_11 : decode cX8_bribe 11 = .ok (.iconst (-1), 1) := by decide +kernel
theorem dX8_bribe_12 : decode cX8_bribe 12 = .ok (.ireturn, 1) := by decide +kernel
theorem dX8_bribe_13 : decode cX8_bribe 13 = .ok (.aload_n 0, 1) := by decide +kernel
theorem dX8_bribe_14 : decode cX8_bribe 14 = .ok (.invokevirtual 196, 3) := by decide +kernel
theorem dX8_bribe_17 : decode cX8_bribe 17 = .ok (.ifCond .eq 15, 3) := by decide +kernel
theorem dX8_bribe_20 : decode cX8_bribe 20 = .ok (.aload_n 0, 1) := by decide +kernel
theorem dX8_bribe_21 : decode cX8_bribe 21 = .ok (.getfield 37, 3) := by decide +kernel
theorem dX8_bribe_24 : decode cX8_bribe 24 = .ok (.getfield 176, 3) := by decide +kernel
theorem dX8_bribe_27 : decode cX8_bribe 27 = .ok (.bipush 9, 2) := by decide +kernel
theorem dX8_bribe_29 : decode cX8_bribe 29 = .ok (.if_icmp .ne 6, 3) := by decide +kernel
theorem dX8_bribe_32 : decode cX8_bribe 32 = .ok (.bipush (-4), 2) := by decide +kernel
theorem dX8_bribe_34 : decode cX8_bribe 34 = .ok (.ireturn, 1) := by decide +kernel
theorem dX8_bribe_35 : decode cX8_bribe 35 = .ok (.aload_n 0, 1) := by decide +kernel
theorem dX8_bribe_36 : decode cX8_bribe 36 = .ok (.getfield 37, 3) := by decide +kernel
theorem dX8_bribe_39 : decode cX8_bribe 39 = .ok (.invokevirtual 186, 3) := by decide +kernel
theorem dX8_bribe_42 : decode cX8_bribe 42 = .ok (.iconst 1, 1) := by decide +kernel
theorem dX8_bribe_43 : decode cX8_bribe 43 = .ok (.if_icmp .ge 6, 3) := by decide +kernel
theorem dX8_bribe_46 : decode cX8_bribe 46 = .ok (.bipush (-2), 2) := by decide +kernel
theorem dX8_bribe_48 : decode cX8_bribe 48 = .ok (.ireturn, 1) := by decide +kernel
theorem dX8_bribe_49 : decode cX8_bribe 49 = .ok (.aload_n 0, 1) := by decide +kernel
theorem dX8_bribe_50 : decode cX8_bribe 50 = .ok (.getfield 37, 3) := by decide +kernel
theorem dX8_bribe_53 : decode cX8_bribe 53 = .ok (.iconst 1, 1) := by decide +kernel
theorem dX8_bribe_54 : decode cX8_bribe 54 = .ok (.iload_n 1, 1) := by decide +kernel
theorem dX8_bribe_55 : decode cX8_bribe 55 = .ok (.invokevirtual 190, 3) := by decide +kernel
theorem dX8_bribe_58 : decode cX8_bribe 58 = .ok (.aload_n 0, 1) := by decide +kernel
theorem dX8_bribe_59 : decode cX8_bribe 59 = .ok (.getfield 37, 3) := by decide +kernel
theorem dX8_bribe_62 : decode cX8_bribe 62 = .ok (.getfield 176, 3) := by decide +kernel
theorem dX8_bribe_65 : decode cX8_bribe 65 = .ok (.ireturn, 1) := by decide +kernel
set_option maxRecDepth 20000 in
theorem w_X8_bribe_b11 {w : zWd} {X : zX} {l0 : Launch} {r : Int32} {S1 : zMem} (C : zC LC w X l0 cX8_bribe RX8 2 5 (some .int)) {S : zMem} {ls : Array Slot} (hl : lv_has ls 2 []) (h : X8_bribe_b11  S = some (r, S1)) : zV LC w X (some (.int r)) S1 S 11 ls [] := by
  unfold X8_bribe_b11 at h
  refine v_iconst 11 C (v := (-1 : Int32)) dX8_bribe_11 (by decide) ?_
  exact v_ireturn 12 C dX8_bribe_12 h
set_option maxRecDepth 20000 in
theorem w_X8_bribe_b32 {w : zWd} {X : zX} {l0 : Launch} {r : Int32} {S1 : zMem} (C : zC LC w X l0 cX8_bribe RX8 2 5 (some .int)) {S : zMem} {ls : Array Slot} (hl : lv_has ls 2 []) (h : X8_bribe_b32  S = some (r, S1)) : zV LC w X (some (.int r)) S1 S 32 ls [] := by
  unfold X8_bribe_b32 at h
  refine v_bipush 32 C (v := (-4 : Int32)) dX8_bribe_32 (by decide) ?_
  exact v_ireturn 34 C dX8_bribe_34 h
set_option maxRecDepth 20000 in
theorem w_X8_bribe_b0 {w : zWd} {X : zX} {l0 : Launch} {r : Int32} {S1 : zMem} (C : zC LC w X l0 cX8_bribe RX8 2 5 (some .int)) {x1 : Int32} {S : zMem} {ls : Array Slot} (hl : lv_has ls 2 [(0, .ref (w.2.2.1 0)), (1, .int x1)]) (h : X8_bribe_b0 x1 S = some (r, S1)) : zV LC w X (some (.int r)) S1 S 0 ls [] := by
  unfold X8_bribe_b0 at h
  refine v_iload_n 0 C dX8_bribe_0 rfl (lv_at hl 1 rfl) ?_
  refine v_iconst 1 C (v := (1 : Int32)) dX8_bribe_1 (by decide) ?_
  refine v_icmp_lt 2 11 C dX8_bribe_2 (by decide) h (fun h => ?_) (fun h => ?_)
  · exact w_X8_bribe_b11 C (lv_sub hl [] rfl) h
  · refine v_iload_n 5 C dX8_bribe_5 rfl (lv_at hl 1 rfl) ?_
    refine v_bipush 6 C (v := (9 : Int32)) dX8_bribe_6 (by decide) ?_
    refine v_icmp_le 8 13 C dX8_bribe_8 (by decide) h (fun h => ?_) (fun h => ?_)
    · refine v_aload_n 13 C dX8_bribe_13 rfl (lv_at hl 0 rfl) ?_
      obtain ⟨v1, S, hc, h⟩ := zb_e h
      refine v_callVi 14 C (ci := 7) [] dX8_bribe_14 ml_X8_196 hy_X8_isPosted (c_X8_isPosted  hc) (by decide) rfl hl.1 kC_0 rfl (Nat.le_of_ble_eq_true rfl) rfl ?_
      refine v_if_eq 17 32 C dX8_bribe_17 (by decide) h (fun h => ?_) (fun h => ?_)
      · exact w_X8_bribe_b32 C (lv_sub hl [] rfl) h
      · refine v_aload_n 20 C dX8_bribe_20 rfl (lv_at hl 0 rfl) ?_
        refine v_getr 21 (35) C dX8_bribe_21 fl_X8_37 rfl kC_0 rfl ?_
        refine v_geti 24 C dX8_bribe_24 fl_X8_176 rfl kC_35 h (fun v2 h => ?_)
        refine v_bipush 27 C (v := (9 : Int32)) dX8_bribe_27 (by decide) ?_
        refine v_icmp_ne 29 35 C dX8_bribe_29 (by decide) h (fun h => ?_) (fun h => ?_)
        · refine v_aload_n 35 C dX8_bribe_35 rfl (lv_at hl 0 rfl) ?_
          refine v_getr 36 (35) C dX8_bribe_36 fl_X8_37 rfl kC_0 rfl ?_
          obtain ⟨v3, S, hc, h⟩ := zb_e h
          refine v_callVi 39 C (ci := 3) [] dX8_bribe_39 ml_X8_186 hy_X4_spareDeeds (c_X4_spareDeeds kC_35 hc) (by decide) rfl hl.1 kC_35 rfl (Nat.le_of_ble_eq_true rfl) rfl ?_
          refine v_iconst 42 C (v := (1 : Int32)) dX8_bribe_42 (by decide) ?_
          refine v_icmp_ge 43 49 C dX8_bribe_43 (by decide) h (fun h => ?_) (fun h => ?_)
          · refine v_aload_n 49 C dX8_bribe_49 rfl (lv_at hl 0 rfl) ?_
            refine v_getr 50 (35) C dX8_bribe_50 fl_X8_37 rfl kC_0 rfl ?_
            refine v_iconst 53 C (v := (1 : Int32)) dX8_bribe_53 (by decide) ?_
            refine v_iload_n 54 C dX8_bribe_54 rfl (lv_at hl 1 rfl) ?_
            obtain ⟨v4, S, hc, h⟩ := zb_e h
            refine v_callVv 55 C (ci := 3) [] dX8_bribe_55 ml_X8_190 hy_X4_perform (c_X4_perform kC_35 hc) (by decide) rfl hl.1 kC_35 rfl (Nat.le_of_ble_eq_true rfl) rfl ?_
            refine v_aload_n 58 C dX8_bribe_58 rfl (lv_at hl 0 rfl) ?_
            refine v_getr 59 (35) C dX8_bribe_59 fl_X8_37 rfl kC_0 rfl ?_
            refine v_geti 62 C dX8_bribe_62 fl_X8_176 rfl kC_35 h (fun v5 h => ?_)
            exact v_ireturn 65 C dX8_bribe_65 h
          · refine v_bipush 46 C (v := (-2 : Int32)) dX8_bribe_46 (by decide) ?_
            exact v_ireturn 48 C dX8_bribe_48 h
        · exact w_X8_bribe_b32 C (lv_sub hl [] rfl) h
    · exact w_X8_bribe_b11 C (lv_sub hl [] rfl) h
theorem c_X8_bribe {w : zWd} {l0 : Launch} {x1 : Int32} {S S1 : zMem} {r : Int32} (h : f_X8_bribe x1 S = some (r, S1)) : zMet LC w l0 yX8_bribe cX8_bribe 2 (some .int) 5 [.ref (w.2.2.1 0), .int x1] S (some (.int r)) S1 :=
  zMet_of (by decide +kernel) (Nat.le_of_ble_eq_true rfl) (fun X ls C hl => w_X8_bribe_b0 C hl h)
theorem dX8_weather_0 : decode cX8_weather 0 = .ok (.iload_n 1, 1) := by decide +kernel
theorem dX8_weather_1 : decode cX8_weather 1 = .ok (.iconst 2, 1) := by decide +kernel
theorem dX8_weather_2 : decode cX8_weather 2 = .ok (.invokestatic 152, 3) := by decide +kernel
theorem dX8_weather_5 : decode cX8_weather 5 = .ok (.ifCond .ne 5, 3) := by decide +kernel
theorem dX8_weather_8 : decode cX8_weather 8 = .ok (.iconst (-1), 1) := by decide +kernel
theorem dX8_weather_9 : decode cX8_weather 9 = .ok (.ireturn, 1) := by decide +kernel
theorem dX8_weather_10 : decode cX8_weather 10 = .ok (.aload_n 0, 1) := by decide +kernel
theorem dX8_weather_11 : decode cX8_weather 11 = .ok (.invokevirtual 196, 3) := by decide +kernel
theorem dX8_weather_14 : decode cX8_weather 14 = .ok (.ifCond .eq 14, 3) := by decide +kernel
theorem dX8_weather_17 : decode cX8_weather 17 = .ok (.aload_n 0, 1) := by decide +kernel
theorem dX8_weather_18 : decode cX8_weather 18 = .ok (.getfield 37, 3) := by decide +kernel
theorem dX8_weather_21 : decode cX8_weather 21 = .ok (.getfield 199, 3) := by decide +kernel
theorem dX8_weather_24 : decode cX8_weather 24 = .ok (.iload_n 1, 1) := by decide +kernel
theorem dX8_weather_25 : decode cX8_weather 25 = .ok (.if_icmp .ne 6, 3) := by decide +kernel
theorem dX8_weather_28 : decode cX8_weather 28 = .ok (.bipush (-4), 2) := by decide +kernel
theorem dX8_weather_30 : decode cX8_weather 30 = .ok (.ireturn, 1) := by decide +kernel
theorem dX8_weather_31 : decode cX8_weather 31 = .ok (.aload_n 0, 1) := by decide +kernel
theorem dX8_weather_32 : decode cX8_weather 32 = .ok (.getfield 37, 3) := by decide +kernel
theorem dX8_weather_35 : decode cX8_weather 35 = .ok (.invokevirtual 186, 3) := by decide +kernel
theorem dX8_weather_38 : decode cX8_weather 38 = .ok (.iconst 1, 1) := by decide +kernel
theorem dX8_weather_39 : decode cX8_weather 39 = .ok (.if_icmp .ge 6, 3) := by decide +kernel
theorem dX8_weather_42 : decode cX8_weather 42 = .ok (.bipush (-2), 2) := by decide +kernel
theorem dX8_weather_44 : decode cX8_weather 44 = .ok (.ireturn, 1) := by decide +kernel
theorem dX8_weather_45 : decode cX8_weather 45 = .ok (.aload_n 0, 1) := by decide +kernel
theorem dX8_weather_46 : decode cX8_weather 46 = .ok (.getfield 37, 3) := by decide +kernel
theorem dX8_weather_49 : decode cX8_weather 49 = .ok (.getfield 199, 3) := by decide +kernel
theorem dX8_weather_52 : decode cX8_weather 52 = .ok (.istore_n 2, 1) := by decide +kernel
theorem dX8_weather_53 : decode cX8_weather 53 = .ok (.aload_n 0, 1) := by decide +kernel
theorem dX8_weather_54 : decode cX8_weather 54 = .ok (.getfield 37, 3) := by decide +kernel
theorem dX8_weather_57 : decode cX8_weather 57 = .ok (.iconst 2, 1) := by decide +kernel
theorem dX8_weather_58 : decode cX8_weather 58 = .ok (.iload_n 1, 1) := by decide +kernel
theorem dX8_weather_59 : decode cX8_weather 59 = .ok (.invokevirtual 190, 3) := by decide +kernel
theorem dX8_weather_62 : decode cX8_weather 62 = .ok (.iload_n 2, 1) := by decide +kernel
theorem dX8_weather_63 : decode cX8_weather 63 = .ok (.ireturn, 1) := by decide +kernel
set_option maxRecDepth 20000 in
theorem w_X8_weather_b28 {w : zWd} {X : zX} {l0 : Launch} {r : Int32} {S1 : zMem} (C : zC LC w X l0 cX8_weather RX8 3 5 (some .int)) {S : zMem} {ls : Array Slot} (hl : lv_has ls 3 []) (h : X8_weather_b28  S = some (r, S1)) : zV LC w X (some (.int r)) S1 S 28 ls [] := by
  unfold X8_weather_b28 at h
  refine v_bipush 28 C (v := (-4 : Int32)) dX8_weather_28 (by decide) ?_
  exact v_ireturn 30 C dX8_weather_30 h
set_option maxRecDepth 20000 in
theorem w_X8_weather_b0 {w : zWd} {X : zX} {l0 : Launch} {r : Int32} {S1 : zMem} (C : zC LC w X l0 cX8_weather RX8 3 5 (some .int)) {x1 : Int32} {S : zMem} {ls : Array Slot} (hl : lv_has ls 3 [(0, .ref (w.2.2.1 0)), (1, .int x1)]) (h : X8_weather_b0 x1 S = some (r, S1)) : zV LC w X (some (.int r)) S1 S 0 ls [] := by
  unfold X8_weather_b0 at h
  refine v_iload_n 0 C dX8_weather_0 rfl (lv_at hl 1 rfl) ?_
  refine v_iconst 1 C (v := (2 : Int32)) dX8_weather_1 (by decide) ?_
  obtain ⟨v1, S, hc, h⟩ := zb_e h
  refine v_callSi 2 C [] dX8_weather_2 ml_X8_152 hy_X8_within (c_X8_within  hc) (by decide) rfl hl.1 (Nat.le_of_ble_eq_true rfl) rfl ?_
  refine v_if_ne 5 10 C dX8_weather_5 (by decide) h (fun h => ?_) (fun h => ?_)
  · refine v_aload_n 10 C dX8_weather_10 rfl (lv_at hl 0 rfl) ?_
    obtain ⟨v2, S, hc, h⟩ := zb_e h
    refine v_callVi 11 C (ci := 7) [] dX8_weather_11 ml_X8_196 hy_X8_isPosted (c_X8_isPosted  hc) (by decide) rfl hl.1 kC_0 rfl (Nat.le_of_ble_eq_true rfl) rfl ?_
    refine v_if_eq 14 28 C dX8_weather_14 (by decide) h (fun h => ?_) (fun h => ?_)
    · exact w_X8_weather_b28 C (lv_sub hl [] rfl) h
    · refine v_aload_n 17 C dX8_weather_17 rfl (lv_at hl 0 rfl) ?_
      refine v_getr 18 (35) C dX8_weather_18 fl_X8_37 rfl kC_0 rfl ?_
      refine v_geti 21 C dX8_weather_21 fl_X8_199 rfl kC_35 h (fun v3 h => ?_)
      refine v_iload_n 24 C dX8_weather_24 rfl (lv_at hl 1 rfl) ?_
      refine v_icmp_ne 25 31 C dX8_weather_25 (by decide) h (fun h => ?_) (fun h => ?_)
      · refine v_aload_n 31 C dX8_weather_31 rfl (lv_at hl 0 rfl) ?_
        refine v_getr 32 (35) C dX8_weather_32 fl_X8_37 rfl kC_0 rfl ?_
        obtain ⟨v4, S, hc, h⟩ := zb_e h
        refine v_callVi 35 C (ci := 3) [] dX8_weather_35 ml_X8_186 hy_X4_spareDeeds (c_X4_spareDeeds kC_35 hc) (by decide) rfl hl.1 kC_35 rfl (Nat.le_of_ble_eq_true rfl) rfl ?_
        refine v_iconst 38 C (v := (1 : Int32)) dX8_weather_38 (by decide) ?_
        refine v_icmp_ge 39 45 C dX8_weather_39 (by decide) h (fun h => ?_) (fun h => ?_)
        · refine v_aload_n 45 C dX8_weather_45 rfl (lv_at hl 0 rfl) ?_
          refine v_getr 46 (35) C dX8_weather_46 fl_X8_37 rfl kC_0 rfl ?_
          refine v_geti 49 C dX8_weather_49 fl_X8_199 rfl kC_35 h (fun v5 h => ?_)
          refine v_istore_n 52 C [(2, .int v5), (0, .ref (w.2.2.1 0)), (1, .int x1)] dX8_weather_52 rfl hl (by decide) rfl (fun ls hl => ?_)
          refine v_aload_n 53 C dX8_weather_53 rfl (lv_at hl 1 rfl) ?_
          refine v_getr 54 (35) C dX8_weather_54 fl_X8_37 rfl kC_0 rfl ?_
          refine v_iconst 57 C (v := (2 : Int32)) dX8_weather_57 (by decide) ?_
          refine v_iload_n 58 C dX8_weather_58 rfl (lv_at hl 2 rfl) ?_
          obtain ⟨v6, S, hc, h⟩ := zb_e h
          refine v_callVv 59 C (ci := 3) [] dX8_weather_59 ml_X8_190 hy_X4_perform (c_X4_perform kC_35 hc) (by decide) rfl hl.1 kC_35 rfl (Nat.le_of_ble_eq_true rfl) rfl ?_
          refine v_iload_n 62 C dX8_weather_62 rfl (lv_at hl 0 rfl) ?_
          exact v_ireturn 63 C dX8_weather_63 h
        · refine v_bipush 42 C (v := (-2 : Int32)) dX8_weather_42 (by decide) ?_
          exact v_ireturn 44 C dX8_weather_44 h
      · exact w_X8_weather_b28 C (lv_sub hl [] rfl) h
  · refine v_iconst 8 C (v := (-1 : Int32)) dX8_weather_8 (by decide) ?_
    exact v_ireturn 9 C dX8_weather_9 h
theorem c_X8_weather {w : zWd} {l0 : Launch} {x1 : Int32} {S S1 : zMem} {r : Int32} (h : f_X8_weather x1 S = some (r, S1)) : zMet LC w l0 yX8_weather cX8_weather 3 (some .int) 5 [.ref (w.2.2.1 0), .int x1] S (some (.int r)) S1 :=
  zMet_of (by decide +kernel) (Nat.le_of_ble_eq_true rfl) (fun X ls C hl => w_X8_weather_b0 C hl h)
theorem co_J6_265 : Cond.constant RJ6 265 1431655765 ∈ zT := zT_of (List.mem_of_getElem? (i := 617) (by decide +kernel)) rfl
theorem co_J6_266 : Cond.constant RJ6 266 858993459 ∈ zT := zT_of (List.mem_of_getElem? (i := 618) (by decide +kernel)) rfl
theorem co_J6_267 : Cond.constant RJ6 267 252645135 ∈ zT := zT_of (List.mem_of_getElem? (i := 619) (by decide +kernel)) rfl
theorem dJ6_bitCount_0f7a4_0 : decode cJ6_bitCount_0f7a4 0 = .ok (.iload_n 0, 1) := by decide +kernel
theorem dJ6_bitCount_0f7a4_1 : decode cJ6_bitCount_0f7a4 1 = .ok (.iload_n 0, 1) := by decide +kernel
theorem dJ6_bitCount_0f7a4_2 : decode cJ6_bitCount_0f7a4 2 = .ok (.iconst 1, 1) := by decide +kernel
theorem dJ6_bitCount_0f7a4_3 : decode cJ6_bitCount_0f7a4 3 = .ok (.iushr, 1) := by decide +kernel
theorem dJ6_bitCount_0f7a4_4 : decode cJ6_bitCount_0f7a4 4 = .ok (.ldc_w 265, 3) := by decide +kernel
theorem dJ6_bitCount_0f7a4_7 : decode cJ6_bitCount_0f7a4 7 = .ok (.iand, 1) := by decide +kernel
theorem dJ6_bitCount_0f7a4_8 : decode cJ6_bitCount_0f7a4 8 = .ok (.isub, 1) := by decide +kernel
theorem dJ6_bitCount_0f7a4_9 : decode cJ6_bitCount_0f7a4 9 = .ok (.istore_n 0, 1) := by decide +kernel
theorem dJ6_bitCount_0f7a4_10 : decode cJ6_bitCount_0f7a4 10 = .ok (.iload_n 0, 1) := by decide +kernel
theorem dJ6_bitCount_0f7a4_11 : decode cJ6_bitCount_0f7a4 11 = .ok (.ldc_w 266, 3) := by decide +kernel
theorem dJ6_bitCount_0f7a4_14 : decode cJ6_bitCount_0f7a4 14 = .ok (.iand, 1) := by decide +kernel
theorem dJ6_bitCount_0f7a4_15 : decode cJ6_bitCount_0f7a4 15 = .ok (.iload_n 0, 1) := by decide +kernel
theorem dJ6_bitCount_0f7a4_16 : decode cJ6_bitCount_0f7a4 16 = .ok (.iconst 2, 1) := by decide +kernel
theorem dJ6_bitCount_0f7a4_17 : decode cJ6_bitCount_0f7a4 17 = .ok (.iushr, 1) := by decide +kernel
theorem dJ6_bitCount_0f7a4_18 : decode cJ6_bitCount_0f7a4 18 = .ok (.ldc_w 266, 3) := by decide +kernel
theorem dJ6_bitCount_0f7a4_21 : decode cJ6_bitCount_0f7a4 21 = .ok (.iand, 1) := by decide +kernel
theorem dJ6_bitCount_0f7a4_22 : decode cJ6_bitCount_0f7a4 22 = .ok (.iadd, 1) := by decide +kernel
theorem dJ6_bitCount_0f7a4_23 : decode cJ6_bitCount_0f7a4 23 = .ok (.istore_n 0, 1) := by decide +kernel
theorem dJ6_bitCount_0f7a4_24 : decode cJ6_bitCount_0f7a4 24 = .ok (.iload_n 0, 1) := by decide +kernel
theorem dJ6_bitCount_0f7a4_25 : decode cJ6_bitCount_0f7a4 25 = .ok (.iload_n 0, 1) := by decide +kernel
theorem dJ6_bitCount_0f7a4_26 : decode cJ6_bitCount_0f7a4 26 = .ok (.iconst 4, 1) := by decide +kernel
theorem dJ6_bitCount_0f7a4_27 : decode cJ6_bitCount_0f7a4 27 = .ok (.iushr, 1) := by decide +kernel
theorem dJ6_bitCount_0f7a4_28 : decode cJ6_bitCount_0f7a4 28 = .ok (.iadd, 1) := by decide +kernel
theorem dJ6_bitCount_0f7a4_29 : decode cJ6_bitCount_0f7a4 29 = .ok (.ldc_w 267, 3) := by decide +kernel
theorem dJ6_bitCount_0f7a4_32 : decode cJ6_bitCount_0f7a4 32 = .ok (.iand, 1) := by decide +kernel
theorem dJ6_bitCount_0f7a4_33 : decode cJ6_bitCount_0f7a4 33 = .ok (.istore_n 0, 1) := by decide +kernel
theorem dJ6_bitCount_0f7a4_34 : decode cJ6_bitCount_0f7a4 34 = .ok (.iload_n 0, 1) := by decide +kernel
theorem dJ6_bitCount_0f7a4_35 : decode cJ6_bitCount_0f7a4 35 = .ok (.iload_n 0, 1) := by decide +kernel
theorem dJ6_bitCount_0f7a4_36 : decode cJ6_bitCount_0f7a4 36 = .ok (.bipush 8, 2) := by decide +kernel
theorem dJ6_bitCount_0f7a4_38 : decode cJ6_bitCount_0f7a4 38 = .ok (.iushr, 1) := by decide +kernel
theorem dJ6_bitCount_0f7a4_39 : decode cJ6_bitCount_0f7a4 39 = .ok (.iadd, 1) := by decide +kernel
theorem dJ6_bitCount_0f7a4_40 : decode cJ6_bitCount_0f7a4 40 = .ok (.istore_n 0, 1) := by decide +kernel
theorem dJ6_bitCount_0f7a4_41 : decode cJ6_bitCount_0f7a4 41 = .ok (.iload_n 0, 1) := by decide +kernel
theorem dJ6_bitCount_0f7a4_42 : decode cJ6_bitCount_0f7a4 42 = .ok (.iload_n 0, 1) := by decide +kernel
theorem dJ6_bitCount_0f7a4_43 : decode cJ6_bitCount_0f7a4 43 = .ok (.bipush 16, 2) := by decide +kernel
theorem dJ6_bitCount_0f7a4_45 : decode cJ6_bitCount_0f7a4 45 = .ok (.iushr, 1) := by decide +kernel
theorem dJ6_bitCount_0f7a4_46 : decode cJ6_bitCount_0f7a4 46 = .ok (.iadd, 1) := by decide +kernel
theorem dJ6_bitCount_0f7a4_47 : decode cJ6_bitCount_0f7a4 47 = .ok (.istore_n 0, 1) := by decide +kernel
theorem dJ6_bitCount_0f7a4_48 : decode cJ6_bitCount_0f7a4 48 = .ok (.iload_n 0, 1) := by decide +kernel
theorem dJ6_bitCount_0f7a4_49 : decode cJ6_bitCount_0f7a4 49 = .ok (.bipush 63, 2) := by decide +kernel
theorem dJ6_bitCount_0f7a4_51 : decode cJ6_bitCount_0f7a4 51 = .ok (.iand, 1) := by decide +kernel
theorem dJ6_bitCount_0f7a4_52 : decode cJ6_bitCount_0f7a4 52 = .ok (.ireturn, 1) := by decide +kernel
set_option maxRecDepth 20000 in
theorem w_J6_bitCount_0f7a4_b0 {w : zWd} {X : zX} {l0 : Launch} {r : Int32} {S1 : zMem} (C : zC LC w X l0 cJ6_bitCount_0f7a4 RJ6 1 1 (some .int)) {x0 : Int32} {S : zMem} {ls : Array Slot} (hl : lv_has ls 1 [(0, .int x0)]) (h : J6_bitCount_0f7a4_b0 x0 S = some (r, S1)) : zV LC w X (some (.int r)) S1 S 0 ls [] := by
  unfold J6_bitCount_0f7a4_b0 at h
  refine v_iload_n 0 C dJ6_bitCount_0f7a4_0 rfl (lv_at hl 0 rfl) ?_
  refine v_iload_n 1 C dJ6_bitCount_0f7a4_1 rfl (lv_at hl 0 rfl) ?_
  refine v_iconst 2 C (v := (1 : Int32)) dJ6_bitCount_0f7a4_2 (by decide) ?_
  refine v_iushr 3 C dJ6_bitCount_0f7a4_3 h (fun v1 h => ?_)
  refine v_ldc_w 4 C (v := 1431655765) dJ6_bitCount_0f7a4_4 co_J6_265 ?_
  refine v_iand 7 C dJ6_bitCount_0f7a4_7 h (fun v2 h => ?_)
  refine v_isub 8 C dJ6_bitCount_0f7a4_8 h (fun v3 h => ?_)
  refine v_istore_n 9 C [(0, .int v3)] dJ6_bitCount_0f7a4_9 rfl hl (by decide) rfl (fun ls hl => ?_)
  refine v_iload_n 10 C dJ6_bitCount_0f7a4_10 rfl (lv_at hl 0 rfl) ?_
  refine v_ldc_w 11 C (v := 858993459) dJ6_bitCount_0f7a4_11 co_J6_266 ?_
  refine v_iand 14 C dJ6_bitCount_0f7a4_14 h (fun v4 h => ?_)
  refine v_iload_n 15 C dJ6_bitCount_0f7a4_15 rfl (lv_at hl 0 rfl) ?_
  refine v_iconst 16 C (v := (2 : Int32)) dJ6_bitCount_0f7a4_16 (by decide) ?_
  refine v_iushr 17 C dJ6_bitCount_0f7a4_17 h (fun v5 h => ?_)
  refine v_ldc_w 18 C (v := 858993459) dJ6_bitCount_0f7a4_18 co_J6_266 ?_
  refine v_iand 21 C dJ6_bitCount_0f7a4_21 h (fun v6 h => ?_)
  refine v_iadd 22 C dJ6_bitCount_0f7a4_22 h (fun v7 h => ?_)
  refine v_istore_n 23 C [(0, .int v7)] dJ6_bitCount_0f7a4_23 rfl hl (by decide) rfl (fun ls hl => ?_)
  refine v_iload_n 24 C dJ6_bitCount_0f7a4_24 rfl (lv_at hl 0 rfl) ?_
  refine v_iload_n 25 C dJ6_bitCount_0f7a4_25 rfl (lv_at hl 0 rfl) ?_
  refine v_iconst 26 C (v := (4 : Int32)) dJ6_bitCount_0f7a4_26 (by decide) ?_
  refine v_iushr 27 C dJ6_bitCount_0f7a4_27 h (fun v8 h => ?_)
  refine v_iadd 28 C dJ6_bitCount_0f7a4_28 h (fun v9 h => ?_)
  refine v_ldc_w 29 C (v := 252645135) dJ6_bitCount_0f7a4_29 co_J6_267 ?_
  refine v_iand 32 C dJ6_bitCount_0f7a4_32 h (fun v10 h => ?_)
  refine v_istore_n 33 C [(0, .int v10)] dJ6_bitCount_0f7a4_33 rfl hl (by decide) rfl (fun ls hl => ?_)
  refine v_iload_n 34 C dJ6_bitCount_0f7a4_34 rfl (lv_at hl 0 rfl) ?_
  refine v_iload_n 35 C dJ6_bitCount_0f7a4_35 rfl (lv_at hl 0 rfl) ?_
  refine v_bipush 36 C (v := (8 : Int32)) dJ6_bitCount_0f7a4_36 (by decide) ?_
  refine v_iushr 38 C dJ6_bitCount_0f7a4_38 h (fun v11 h => ?_)
  refine v_iadd 39 C dJ6_bitCount_0f7a4_39 h (fun v12 h => ?_)
  refine v_istore_n 40 C [(0, .int v12)] dJ6_bitCount_0f7a4_40 rfl hl (by decide) rfl (fun ls hl => ?_)
  refine v_iload_n 41 C dJ6_bitCount_0f7a4_41 rfl (lv_at hl 0 rfl) ?_
  refine v_iload_n 42 C dJ6_bitCount_0f7a4_42 rfl (lv_at hl 0 rfl) ?_
  refine v_bipush 43 C (v := (16 : Int32)) dJ6_bitCount_0f7a4_43 (by decide) ?_
  refine v_iushr 45 C dJ6_bitCount_0f7a4_45 h (fun v13 h => ?_)
  refine v_iadd 46 C dJ6_bitCount_0f7a4_46 h (fun v14 h => ?_)
  refine v_istore_n 47 C [(0, .int v14)] dJ6_bitCount_0f7a4_47 rfl hl (by decide) rfl (fun ls hl => ?_)
  refine v_iload_n 48 C dJ6_bitCount_0f7a4_48 rfl (lv_at hl 0 rfl) ?_
  refine v_bipush 49 C (v := (63 : Int32)) dJ6_bitCount_0f7a4_49 (by decide) ?_
  refine v_iand 51 C dJ6_bitCount_0f7a4_51 h (fun v15 h => ?_)
  exact v_ireturn 52 C dJ6_bitCount_0f7a4_52 h
theorem c_J6_bitCount_0f7a4 {w : zWd} {l0 : Launch} {x0 : Int32} {S S1 : zMem} {r : Int32} (h : f_J6_bitCount_0f7a4 x0 S = some (r, S1)) : zMet LC w l0 yJ6_bitCount_0f7a4 cJ6_bitCount_0f7a4 1 (some .int) 1 [.int x0] S (some (.int r)) S1 :=
  zMet_of (by decide +kernel) (Nat.le_of_ble_eq_true rfl) (fun X ls C hl => w_J6_bitCount_0f7a4_b0 C hl h)
theorem fl_X8_202 : zFL RX8 202 3 11 := ⟨_, rfl, by decide, zT_of (List.mem_of_getElem? (i := 193) (by decide +kernel)) rfl⟩
theorem ml_X8_205 : Cond.methodLink RX8 205 yJ6_bitCount_0f7a4 ∈ zT := zT_of (List.mem_of_getElem? (i := 614) (by decide +kernel)) rfl
theorem hy_J6_bitCount_0f7a4 : zYs yJ6_bitCount_0f7a4 cJ6_bitCount_0f7a4 1 (some .int) 1 := ⟨⟨zT_of (List.mem_of_getElem? (i := 616) (by decide +kernel)) rfl, zT_of (List.mem_of_getElem? (i := 82) (by decide +kernel)) rfl, by decide, by decide +kernel, by decide +kernel, by decide +kernel⟩, zT_of (List.mem_of_getElem? (i := 615) (by decide +kernel)) rfl⟩
theorem dX8_day_0 : decode cX8_day 0 = .ok (.aload_n 0, 1) := by decide +kernel
theorem dX8_day_1 : decode cX8_day 1 = .ok (.invokevirtual 196, 3) := by decide +kernel
theorem dX8_day_4 : decode cX8_day 4 = .ok (.ifCond .ne 6, 3) := by decide +kernel
theorem dX8_day_7 : decode cX8_day 7 = .ok (.bipush (-4), 2) := by decide +kernel
theorem dX8_day_9 : decode cX8_day 9 = .ok (.ireturn, 1) := by decide +kernel
theorem dX8_day_10 : decode cX8_day 10 = .ok (.aload_n 0, 1) := by decide +kernel
theorem dX8_day_11 : decode cX8_day 11 = .ok (.getfield 37, 3) := by decide +kernel
theorem dX8_day_14 : decode cX8_day 14 = .ok (.invokevirtual 186, 3) := by decide +kernel
theorem dX8_day_17 : decode cX8_day 17 = .ok (.iconst 1, 1) := by decide +kernel
theorem dX8_day_18 : decode cX8_day 18 = .ok (.if_icmp .ge 6, 3) := by decide +kernel
theorem dX8_day_21 : decode cX8_day 21 = .ok (.bipush (-2), 2) := by decide +kernel
theorem dX8_day_23 : decode cX8_day 23 = .ok (.ireturn, 1) := by decide +kernel
theorem dX8_day_24 : decode cX8_day 24 = .ok (.aload_n 0, 1) := by decide +kernel
theorem dX8_day_25 : decode cX8_day 25 = .ok (.getfield 37, 3) := by decide +kernel
theorem dX8_day_28 : decode cX8_day 28 = .ok (.getfield 202, 3) := by decide +kernel
theorem dX8_day_31 : decode cX8_day 31 = .ok (.invokestatic 205, 3) := by decide +kernel
theorem dX8_day_34 : decode cX8_day 34 = .ok (.istore_n 1, 1) := by decide +kernel
theorem dX8_day_35 : decode cX8_day 35 = .ok (.aload_n 0, 1) := by decide +kernel
theorem dX8_day_36 : decode cX8_day 36 = .ok (.getfield 37, 3) := by decide +kernel
theorem dX8_day_39 : decode cX8_day 39 = .ok (.iconst 3, 1) := by decide +kernel
theorem dX8_day_40 : decode cX8_day 40 = .ok (.iconst 0, 1) := by decide +kernel
theorem dX8_day_41 : decode cX8_day 41 = .ok (.invokevirtual 190, 3) := by decide +kernel
theorem dX8_day_44 : decode cX8_day 44 = .ok (.iload_n 1, 1) := by decide +kernel
theorem dX8_day_45 : decode cX8_day 45 = .ok (.ireturn, 1) := by decide +kernel
set_option maxRecDepth 20000 in
theorem w_X8_day_b0 {w : zWd} {X : zX} {l0 : Launch} {r : Int32} {S1 : zMem} (C : zC LC w X l0 cX8_day RX8 2 5 (some .int)) {S : zMem} {ls : Array Slot} (hl : lv_has ls 2 [(0, .ref (w.2.2.1 0))]) (h : X8_day_b0  S = some (r, S1)) : zV LC w X (some (.int r)) S1 S 0 ls [] := by
  unfold X8_day_b0 at h
  refine v_aload_n 0 C dX8_day_0 rfl (lv_at hl 0 rfl) ?_
  obtain ⟨v1, S, hc, h⟩ := zb_e h
  refine v_callVi 1 C (ci := 7) [] dX8_day_1 ml_X8_196 hy_X8_isPosted (c_X8_isPosted  hc) (by decide) rfl hl.1 kC_0 rfl (Nat.le_of_ble_eq_true rfl) rfl ?_
  refine v_if_ne 4 10 C dX8_day_4 (by decide) h (fun h => ?_) (fun h => ?_)
  · refine v_aload_n 10 C dX8_day_10 rfl (lv_at hl 0 rfl) ?_
    refine v_getr 11 (35) C dX8_day_11 fl_X8_37 rfl kC_0 rfl ?_
    obtain ⟨v2, S, hc, h⟩ := zb_e h
    refine v_callVi 14 C (ci := 3) [] dX8_day_14 ml_X8_186 hy_X4_spareDeeds (c_X4_spareDeeds kC_35 hc) (by decide) rfl hl.1 kC_35 rfl (Nat.le_of_ble_eq_true rfl) rfl ?_
    refine v_iconst 17 C (v := (1 : Int32)) dX8_day_17 (by decide) ?_
    refine v_icmp_ge 18 24 C dX8_day_18 (by decide) h (fun h => ?_) (fun h => ?_)
    · refine v_aload_n 24 C dX8_day_24 rfl (lv_at hl 0 rfl) ?_
      refine v_getr 25 (35) C dX8_day_25 fl_X8_37 rfl kC_0 rfl ?_
      refine v_geti 28 C dX8_day_28 fl_X8_202 rfl kC_35 h (fun v3 h => ?_)
      obtain ⟨v4, S, hc, h⟩ := zb_e h
      refine v_callSi 31 C [] dX8_day_31 ml_X8_205 hy_J6_bitCount_0f7a4 (c_J6_bitCount_0f7a4  hc) (by decide) rfl hl.1 (Nat.le_of_ble_eq_true rfl) rfl ?_
      refine v_istore_n 34 C [(1, .int v4), (0, .ref (w.2.2.1 0))] dX8_day_34 rfl hl (by decide) rfl (fun ls hl => ?_)
      refine v_aload_n 35 C dX8_day_35 rfl (lv_at hl 1 rfl) ?_
      refine v_getr 36 (35) C dX8_day_36 fl_X8_37 rfl kC_0 rfl ?_
      refine v_iconst 39 C (v := (3 : Int32)) dX8_day_39 (by decide) ?_
      refine v_iconst 40 C (v := (0 : Int32)) dX8_day_40 (by decide) ?_
      obtain ⟨v5, S, hc, h⟩ := zb_e h
      refine v_callVv 41 C (ci := 3) [] dX8_day_41 ml_X8_190 hy_X4_perform (c_X4_perform kC_35 hc) (by decide) rfl hl.1 kC_35 rfl (Nat.le_of_ble_eq_true rfl) rfl ?_
      refine v_iload_n 44 C dX8_day_44 rfl (lv_at hl 0 rfl) ?_
      exact v_ireturn 45 C dX8_day_45 h
    · refine v_bipush 21 C (v := (-2 : Int32)) dX8_day_21 (by decide) ?_
      exact v_ireturn 23 C dX8_day_23 h
  · refine v_bipush 7 C (v := (-4 : Int32)) dX8_day_7 (by decide) ?_
    exact v_ireturn 9 C dX8_day_9 h
theorem c_X8_day {w : zWd} {l0 : Launch} {S S1 : zMem} {r : Int32} (h : f_X8_day  S = some (r, S1)) : zMet LC w l0 yX8_day cX8_day 2 (some .int) 5 [.ref (w.2.2.1 0)] S (some (.int r)) S1 :=
  zMet_of (by decide +kernel) (Nat.le_of_ble_eq_true rfl) (fun X ls C hl => w_X8_day_b0 C hl h)
theorem ml_X4_89 : Cond.methodLink RX4 89 yX4_perform ∈ zT := zT_of (List.mem_of_getElem? (i := 629) (by decide +kernel)) rfl
theorem ml_X4_86 : Cond.methodLink RX4 86 yX4_begin ∈ zT := zT_of (List.mem_of_getElem? (i := 628) (by decide +kernel)) rfl
theorem dX4_goBackTo_0 : decode cX4_goBackTo 0 = .ok (.iload_n 1, 1) := by decide +kernel
theorem dX4_goBackTo_1 : decode cX4_goBackTo 1 = .ok (.ifCond .lt 11, 3) := by decide +kernel
theorem dX4_goBackTo_4 : decode cX4_goBackTo 4 = .ok (.iload_n 1, 1) := by decide +kernel
theorem dX4_goBackTo_5 : decode cX4_goBackTo 5 = .ok (.aload_n 0, 1) := by decide +kernel
theorem dX4_goBackTo_6 : decode cX4_goBackTo 6 = .ok (.getfield 32, 3) := by decide +kernel
theorem dX4_goBackTo_9 : decode cX4_goBackTo 9 = .ok (.if_icmp .lt 4, 3) := by decide +kernel
theorem dX4_goBackTo_12 : decode cX4_goBackTo 12 = .ok (.return_, 1) := by decide +kernel
theorem dX4_goBackTo_13 : decode cX4_goBackTo 13 = .ok (.aload_n 0, 1) := by decide +kernel
theorem dX4_goBackTo_14 : decode cX4_goBackTo 14 = .ok (.invokevirtual 86, 3) := by decide +kernel
theorem dX4_goBackTo_17 : decode cX4_goBackTo 17 = .ok (.iconst 0, 1) := by decide +kernel
theorem dX4_goBackTo_18 : decode cX4_goBackTo 18 = .ok (.istore_n 2, 1) := by decide +kernel
theorem dX4_goBackTo_19 : decode cX4_goBackTo 19 = .ok (.iload_n 2, 1) := by decide +kernel
theorem dX4_goBackTo_20 : decode cX4_goBackTo 20 = .ok (.iload_n 1, 1) := by decide +kernel
theorem dX4_goBackTo_21 : decode cX4_goBackTo 21 = .ok (.if_icmp .ge 25, 3) := by decide +kernel
theorem dX4_goBackTo_24 : decode cX4_goBackTo 24 = .ok (.aload_n 0, 1) := by decide +kernel
theorem dX4_goBackTo_25 : decode cX4_goBackTo 25 = .ok (.aload_n 0, 1) := by decide +kernel
theorem dX4_goBackTo_26 : decode cX4_goBackTo 26 = .ok (.getfield 18, 3) := by decide +kernel
theorem dX4_goBackTo_29 : decode cX4_goBackTo 29 = .ok (.iload_n 2, 1) := by decide +kernel
theorem dX4_goBackTo_30 : decode cX4_goBackTo 30 = .ok (.iaload, 1) := by decide +kernel
theorem dX4_goBackTo_31 : decode cX4_goBackTo 31 = .ok (.aload_n 0, 1) := by decide +kernel
theorem dX4_goBackTo_32 : decode cX4_goBackTo 32 = .ok (.getfield 21, 3) := by decide +kernel
theorem dX4_goBackTo_35 : decode cX4_goBackTo 35 = .ok (.iload_n 2, 1) := by decide +kernel
theorem dX4_goBackTo_36 : decode cX4_goBackTo 36 = .ok (.iaload, 1) := by decide +kernel
theorem dX4_goBackTo_37 : decode cX4_goBackTo 37 = .ok (.invokevirtual 89, 3) := by decide +kernel
theorem dX4_goBackTo_40 : decode cX4_goBackTo 40 = .ok (.iinc 2 1, 3) := by decide +kernel
theorem dX4_goBackTo_43 : decode cX4_goBackTo 43 = .ok (.goto (-24), 3) := by decide +kernel
theorem dX4_goBackTo_46 : decode cX4_goBackTo 46 = .ok (.return_, 1) := by decide +kernel
set_option maxRecDepth 20000 in
theorem w_X4_goBackTo_b12 {w : zWd} {X : zX} {l0 : Launch} {r : Unit} {S1 : zMem} (C : zC LC w X l0 cX4_goBackTo RX4 3 5 none) {S : zMem} {ls : Array Slot} (hl : lv_has ls 3 []) (h : X4_goBackTo_b12  S = some (r, S1)) : zV LC w X none S1 S 12 ls [] := by
  unfold X4_goBackTo_b12 at h
  exact v_return 12 C dX4_goBackTo_12 h
set_option maxRecDepth 20000 in
theorem w_X4_goBackTo_b19 {w : zWd} {X : zX} {l0 : Launch} {r : Unit} {S1 : zMem} (C : zC LC w X l0 cX4_goBackTo RX4 3 5 none) {k19 : Nat → Int32 → Int32 → zMem → Option (Unit × zMem)} (hc19 : ∀ (c0 : Nat) (x1 : Int32) (x2 : Int32) (S : zMem) (ls : Array Slot), lv_has ls 3 [(0, .ref (w.2.2.1 c0)), (1, .int x1), (2, .int x2)] → (c0 < LC.1 ∧ LC.2.1 c0 = 6) → k19 c0 x1 x2 S = some (r, S1) → zV LC w X none S1 S 19 ls []) {c0 : Nat} {x1 : Int32} {x2 : Int32} {S : zMem} {ls : Array Slot} (hl : lv_has ls 3 [(0, .ref (w.2.2.1 c0)), (1, .int x1), (2, .int x2)]) (hk_c0 : c0 < LC.1 ∧ LC.2.1 c0 = 6) (h : X4_goBackTo_b19 k19 c0 x1 x2 S = some (r, S1)) : zV LC w X none S1 S 19 ls [] := by
  unfold X4_goBackTo_b19 at h
  refine v_iload_n 19 C dX4_goBackTo_19 rfl (lv_at hl 2 rfl) ?_
  refine v_iload_n 20 C dX4_goBackTo_20 rfl (lv_at hl 1 rfl) ?_
  refine v_icmp_ge 21 46 C dX4_goBackTo_21 (by decide) h (fun h => ?_) (fun h => ?_)
  · exact v_return 46 C dX4_goBackTo_46 h
  · refine v_aload_n 24 C dX4_goBackTo_24 rfl (lv_at hl 0 rfl) ?_
    refine v_aload_n 25 C dX4_goBackTo_25 rfl (lv_at hl 0 rfl) ?_
    refine v_getr 26 (c0 + 3) C dX4_goBackTo_26 fl_X4_18 rfl hk_c0 (rP3 hk_c0) ?_
    refine v_iload_n 29 C dX4_goBackTo_29 rfl (lv_at hl 2 rfl) ?_
    refine v_iald 30 C dX4_goBackTo_30 (kP3 hk_c0) (nP3 hk_c0) h (fun v1 h => ?_)
    refine v_aload_n 31 C dX4_goBackTo_31 rfl (lv_at hl 0 rfl) ?_
    refine v_getr 32 (c0 + 4) C dX4_goBackTo_32 fl_X4_21 rfl hk_c0 (rP4 hk_c0) ?_
    refine v_iload_n 35 C dX4_goBackTo_35 rfl (lv_at hl 2 rfl) ?_
    refine v_iald 36 C dX4_goBackTo_36 (kP4 hk_c0) (nP4 hk_c0) h (fun v2 h => ?_)
    obtain ⟨v3, S, hc, h⟩ := zb_e h
    refine v_callVv 37 C (ci := 3) [] dX4_goBackTo_37 ml_X4_89 hy_X4_perform (c_X4_perform hk_c0 hc) (by decide) rfl hl.1 hk_c0 rfl (Nat.le_of_ble_eq_true rfl) rfl ?_
    refine v_iinc 40 C (nn := (1 : Int32)) (fun v => [(2, .int v), (0, .ref (w.2.2.1 c0)), (1, .int x1)]) dX4_goBackTo_40 hl (k := 2) rfl (by decide) (by decide) (fun _ => rfl) h (fun v4 ls hl h => ?_)
    refine v_goto 43 19 C dX4_goBackTo_43 (by decide) ?_
    exact hc19 _ _ _ _ _ (lv_sub hl [1, 2, 0] rfl) hk_c0 h
theorem w_X4_goBackTo_l19 {w : zWd} {X : zX} {l0 : Launch} {r : Unit} {S1 : zMem} (C : zC LC w X l0 cX4_goBackTo RX4 3 5 none) : ∀ (n : Nat) (c0 : Nat) (x1 : Int32) (x2 : Int32) (S : zMem) (ls : Array Slot), lv_has ls 3 [(0, .ref (w.2.2.1 c0)), (1, .int x1), (2, .int x2)] → (c0 < LC.1 ∧ LC.2.1 c0 = 6) → X4_goBackTo_l19 n c0 x1 x2 S = some (r, S1) → zV LC w X none S1 S 19 ls [] := by
  intro n
  induction n with
  | zero =>
    intro c0 x1 x2 S ls hl hk_c0 h
    cases (show (none : Option (Unit × zMem)) = some _ from h)
  | succ n ih =>
    intro c0 x1 x2 S ls hl hk_c0 h
    exact w_X4_goBackTo_b19 C ih hl hk_c0 h
set_option maxRecDepth 20000 in
theorem w_X4_goBackTo_b0 {w : zWd} {X : zX} {l0 : Launch} {r : Unit} {S1 : zMem} (C : zC LC w X l0 cX4_goBackTo RX4 3 5 none) {c0 : Nat} {x1 : Int32} {S : zMem} {ls : Array Slot} (hl : lv_has ls 3 [(0, .ref (w.2.2.1 c0)), (1, .int x1)]) (hk_c0 : c0 < LC.1 ∧ LC.2.1 c0 = 6) (h : X4_goBackTo_b0 c0 x1 S = some (r, S1)) : zV LC w X none S1 S 0 ls [] := by
  unfold X4_goBackTo_b0 at h
  refine v_iload_n 0 C dX4_goBackTo_0 rfl (lv_at hl 1 rfl) ?_
  refine v_if_lt 1 12 C dX4_goBackTo_1 (by decide) h (fun h => ?_) (fun h => ?_)
  · exact w_X4_goBackTo_b12 C (lv_sub hl [] rfl) h
  · refine v_iload_n 4 C dX4_goBackTo_4 rfl (lv_at hl 1 rfl) ?_
    refine v_aload_n 5 C dX4_goBackTo_5 rfl (lv_at hl 0 rfl) ?_
    refine v_geti 6 C dX4_goBackTo_6 fl_X4_32 rfl hk_c0 h (fun v1 h => ?_)
    refine v_icmp_lt 9 13 C dX4_goBackTo_9 (by decide) h (fun h => ?_) (fun h => ?_)
    · refine v_aload_n 13 C dX4_goBackTo_13 rfl (lv_at hl 0 rfl) ?_
      obtain ⟨v2, S, hc, h⟩ := zb_e h
      refine v_callVv 14 C (ci := 3) [] dX4_goBackTo_14 ml_X4_86 hy_X4_begin (c_X4_begin hk_c0 hc) (by decide) rfl hl.1 hk_c0 rfl (Nat.le_of_ble_eq_true rfl) rfl ?_
      refine v_iconst 17 C (v := (0 : Int32)) dX4_goBackTo_17 (by decide) ?_
      refine v_istore_n 18 C [(2, .int (0 : Int32)), (0, .ref (w.2.2.1 c0)), (1, .int x1)] dX4_goBackTo_18 rfl hl (by decide) rfl (fun ls hl => ?_)
      exact w_X4_goBackTo_l19 C zF _ _ _ _ _ (lv_sub hl [1, 2, 0] rfl) hk_c0 h
    · exact w_X4_goBackTo_b12 C (lv_sub hl [] rfl) h
theorem c_X4_goBackTo {w : zWd} {l0 : Launch} {c0 : Nat} {x1 : Int32} {S S1 : zMem} {r : Unit} (hk_c0 : c0 < LC.1 ∧ LC.2.1 c0 = 6) (h : f_X4_goBackTo c0 x1 S = some (r, S1)) : zMet LC w l0 yX4_goBackTo cX4_goBackTo 3 none 5 [.ref (w.2.2.1 c0), .int x1] S none S1 :=
  zMet_of (by decide +kernel) (Nat.le_of_ble_eq_true rfl) (fun X ls C hl => w_X4_goBackTo_b0 C hl hk_c0 h)
theorem fl_X8_210 : zFL RX8 210 3 6 := ⟨_, rfl, by decide, zT_of (List.mem_of_getElem? (i := 176) (by decide +kernel)) rfl⟩
theorem ml_X8_213 : Cond.methodLink RX8 213 yX4_goBackTo ∈ zT := zT_of (List.mem_of_getElem? (i := 624) (by decide +kernel)) rfl
theorem hy_X4_goBackTo : zYv yX4_goBackTo cX4_goBackTo 3 none 1 := ⟨⟨zT_of (List.mem_of_getElem? (i := 627) (by decide +kernel)) rfl, zT_of (List.mem_of_getElem? (i := 73) (by decide +kernel)) rfl, by decide, by decide +kernel, by decide +kernel, by decide +kernel⟩, zT_of (List.mem_of_getElem? (i := 625) (by decide +kernel)) rfl, zT_of (List.mem_of_getElem? (i := 626) (by decide +kernel)) rfl⟩
theorem dX8_undo_0 : decode cX8_undo 0 = .ok (.iload_n 1, 1) := by decide +kernel
theorem dX8_undo_1 : decode cX8_undo 1 = .ok (.aload_n 0, 1) := by decide +kernel
theorem dX8_undo_2 : decode cX8_undo 2 = .ok (.getfield 37, 3) := by decide +kernel
theorem dX8_undo_5 : decode cX8_undo 5 = .ok (.getfield 210, 3) := by decide +kernel
theorem dX8_undo_8 : decode cX8_undo 8 = .ok (.invokestatic 152, 3) := by decide +kernel
theorem dX8_undo_11 : decode cX8_undo 11 = .ok (.ifCond .ne 5, 3) := by decide +kernel
theorem dX8_undo_14 : decode cX8_undo 14 = .ok (.iconst (-1), 1) := by decide +kernel
theorem dX8_undo_15 : decode cX8_undo 15 = .ok (.ireturn, 1) := by decide +kernel
theorem dX8_undo_16 : decode cX8_undo 16 = .ok (.aload_n 0, 1) := by decide +kernel
theorem dX8_undo_17 : decode cX8_undo 17 = .ok (.getfield 37, 3) := by decide +kernel
theorem dX8_undo_20 : decode cX8_undo 20 = .ok (.getfield 210, 3) := by decide +kernel
theorem dX8_undo_23 : decode cX8_undo 23 = .ok (.iload_n 1, 1) := by decide +kernel
theorem dX8_undo_24 : decode cX8_undo 24 = .ok (.isub, 1) := by decide +kernel
theorem dX8_undo_25 : decode cX8_undo 25 = .ok (.istore_n 2, 1) := by decide +kernel
theorem dX8_undo_26 : decode cX8_undo 26 = .ok (.aload_n 0, 1) := by decide +kernel
theorem dX8_undo_27 : decode cX8_undo 27 = .ok (.getfield 37, 3) := by decide +kernel
theorem dX8_undo_30 : decode cX8_undo 30 = .ok (.iload_n 1, 1) := by decide +kernel
theorem dX8_undo_31 : decode cX8_undo 31 = .ok (.invokevirtual 213, 3) := by decide +kernel
theorem dX8_undo_34 : decode cX8_undo 34 = .ok (.iload_n 2, 1) := by decide +kernel
theorem dX8_undo_35 : decode cX8_undo 35 = .ok (.ireturn, 1) := by decide +kernel
set_option maxRecDepth 20000 in
theorem w_X8_undo_b0 {w : zWd} {X : zX} {l0 : Launch} {r : Int32} {S1 : zMem} (C : zC LC w X l0 cX8_undo RX8 3 6 (some .int)) {x1 : Int32} {S : zMem} {ls : Array Slot} (hl : lv_has ls 3 [(0, .ref (w.2.2.1 0)), (1, .int x1)]) (h : X8_undo_b0 x1 S = some (r, S1)) : zV LC w X (some (.int r)) S1 S 0 ls [] := by
  unfold X8_undo_b0 at h
  refine v_iload_n 0 C dX8_undo_0 rfl (lv_at hl 1 rfl) ?_
  refine v_aload_n 1 C dX8_undo_1 rfl (lv_at hl 0 rfl) ?_
  refine v_getr 2 (35) C dX8_undo_2 fl_X8_37 rfl kC_0 rfl ?_
  refine v_geti 5 C dX8_undo_5 fl_X8_210 rfl kC_35 h (fun v1 h => ?_)
  obtain ⟨v2, S, hc, h⟩ := zb_e h
  refine v_callSi 8 C [] dX8_undo_8 ml_X8_152 hy_X8_within (c_X8_within  hc) (by decide) rfl hl.1 (Nat.le_of_ble_eq_true rfl) rfl ?_
  refine v_if_ne 11 16 C dX8_undo_11 (by decide) h (fun h => ?_) (fun h => ?_)
  · refine v_aload_n 16 C dX8_undo_16 rfl (lv_at hl 0 rfl) ?_
    refine v_getr 17 (35) C dX8_undo_17 fl_X8_37 rfl kC_0 rfl ?_
    refine v_geti 20 C dX8_undo_20 fl_X8_210 rfl kC_35 h (fun v3 h => ?_)
    refine v_iload_n 23 C dX8_undo_23 rfl (lv_at hl 1 rfl) ?_
    refine v_isub 24 C dX8_undo_24 h (fun v4 h => ?_)
    refine v_istore_n 25 C [(2, .int v4), (0, .ref (w.2.2.1 0)), (1, .int x1)] dX8_undo_25 rfl hl (by decide) rfl (fun ls hl => ?_)
    refine v_aload_n 26 C dX8_undo_26 rfl (lv_at hl 1 rfl) ?_
    refine v_getr 27 (35) C dX8_undo_27 fl_X8_37 rfl kC_0 rfl ?_
    refine v_iload_n 30 C dX8_undo_30 rfl (lv_at hl 2 rfl) ?_
    obtain ⟨v5, S, hc, h⟩ := zb_e h
    refine v_callVv 31 C (ci := 3) [] dX8_undo_31 ml_X8_213 hy_X4_goBackTo (c_X4_goBackTo kC_35 hc) (by decide) rfl hl.1 kC_35 rfl (Nat.le_of_ble_eq_true rfl) rfl ?_
    refine v_iload_n 34 C dX8_undo_34 rfl (lv_at hl 0 rfl) ?_
    exact v_ireturn 35 C dX8_undo_35 h
  · refine v_iconst 14 C (v := (-1 : Int32)) dX8_undo_14 (by decide) ?_
    exact v_ireturn 15 C dX8_undo_15 h
theorem c_X8_undo {w : zWd} {l0 : Launch} {x1 : Int32} {S S1 : zMem} {r : Int32} (h : f_X8_undo x1 S = some (r, S1)) : zMet LC w l0 yX8_undo cX8_undo 3 (some .int) 6 [.ref (w.2.2.1 0), .int x1] S (some (.int r)) S1 :=
  zMet_of (by decide +kernel) (Nat.le_of_ble_eq_true rfl) (fun X ls C hl => w_X8_undo_b0 C hl h)
theorem dX8_isPlace_0 : decode cX8_isPlace 0 = .ok (.iload_n 0, 1) := by decide +kernel
theorem dX8_isPlace_1 : decode cX8_isPlace 1 = .ok (.iconst 2, 1) := by decide +kernel
theorem dX8_isPlace_2 : decode cX8_isPlace 2 = .ok (.invokestatic 152, 3) := by decide +kernel
theorem dX8_isPlace_5 : decode cX8_isPlace 5 = .ok (.ireturn, 1) := by decide +kernel
set_option maxRecDepth 20000 in
theorem w_X8_isPlace_b0 {w : zWd} {X : zX} {l0 : Launch} {r : Int32} {S1 : zMem} (C : zC LC w X l0 cX8_isPlace RX8 1 2 (some .boolean)) {x0 : Int32} {S : zMem} {ls : Array Slot} (hl : lv_has ls 1 [(0, .int x0)]) (h : X8_isPlace_b0 x0 S = some (r, S1)) : zV LC w X (some (.int r)) S1 S 0 ls [] := by
  unfold X8_isPlace_b0 at h
  refine v_iload_n 0 C dX8_isPlace_0 rfl (lv_at hl 0 rfl) ?_
  refine v_iconst 1 C (v := (2 : Int32)) dX8_isPlace_1 (by decide) ?_
  obtain ⟨v1, S, hc, h⟩ := zb_e h
  refine v_callSi 2 C [] dX8_isPlace_2 ml_X8_152 hy_X8_within (c_X8_within  hc) (by decide) rfl hl.1 (Nat.le_of_ble_eq_true rfl) rfl ?_
  exact v_zreturn 5 C dX8_isPlace_5 h
theorem c_X8_isPlace {w : zWd} {l0 : Launch} {x0 : Int32} {S S1 : zMem} {r : Int32} (h : f_X8_isPlace x0 S = some (r, S1)) : zMet LC w l0 yX8_isPlace cX8_isPlace 1 (some .boolean) 2 [.int x0] S (some (.int r)) S1 :=
  zMet_of (by decide +kernel) (Nat.le_of_ble_eq_true rfl) (fun X ls C hl => w_X8_isPlace_b0 C hl h)
theorem dX4_become_0 : decode cX4_become 0 = .ok (.aload_n 0, 1) := by decide +kernel
theorem dX4_become_1 : decode cX4_become 1 = .ok (.aload_n 1, 1) := by decide +kernel
theorem dX4_become_2 : decode cX4_become 2 = .ok (.getfield 28, 3) := by decide +kernel
theorem dX4_become_5 : decode cX4_become 5 = .ok (.putfield 28, 3) := by decide +kernel
theorem dX4_become_8 : decode cX4_become 8 = .ok (.aload_n 0, 1) := by decide +kernel
theorem dX4_become_9 : decode cX4_become 9 = .ok (.aload_n 1, 1) := by decide +kernel
theorem dX4_become_10 : decode cX4_become 10 = .ok (.getfield 32, 3) := by decide +kernel
theorem dX4_become_13 : decode cX4_become 13 = .ok (.putfield 32, 3) := by decide +kernel
theorem dX4_become_16 : decode cX4_become 16 = .ok (.aload_n 0, 1) := by decide +kernel
theorem dX4_become_17 : decode cX4_become 17 = .ok (.aload_n 1, 1) := by decide +kernel
theorem dX4_become_18 : decode cX4_become 18 = .ok (.getfield 36, 3) := by decide +kernel
theorem dX4_become_21 : decode cX4_become 21 = .ok (.putfield 36, 3) := by decide +kernel
theorem dX4_become_24 : decode cX4_become 24 = .ok (.aload_n 0, 1) := by decide +kernel
theorem dX4_become_25 : decode cX4_become 25 = .ok (.aload_n 1, 1) := by decide +kernel
theorem dX4_become_26 : decode cX4_become 26 = .ok (.getfield 44, 3) := by decide +kernel
theorem dX4_become_29 : decode cX4_become 29 = .ok (.putfield 44, 3) := by decide +kernel
theorem dX4_become_32 : decode cX4_become 32 = .ok (.aload_n 0, 1) := by decide +kernel
theorem dX4_become_33 : decode cX4_become 33 = .ok (.aload_n 1, 1) := by decide +kernel
theorem dX4_become_34 : decode cX4_become 34 = .ok (.getfield 50, 3) := by decide +kernel
theorem dX4_become_37 : decode cX4_become 37 = .ok (.putfield 50, 3) := by decide +kernel
theorem dX4_become_40 : decode cX4_become 40 = .ok (.aload_n 0, 1) := by decide +kernel
theorem dX4_become_41 : decode cX4_become 41 = .ok (.aload_n 1, 1) := by decide +kernel
theorem dX4_become_42 : decode cX4_become 42 = .ok (.getfield 53, 3) := by decide +kernel
theorem dX4_become_45 : decode cX4_become 45 = .ok (.putfield 53, 3) := by decide +kernel
theorem dX4_become_48 : decode cX4_become 48 = .ok (.aload_n 0, 1) := by decide +kernel
theorem dX4_become_49 : decode cX4_become 49 = .ok (.aload_n 1, 1) := by decide +kernel
theorem dX4_become_50 : decode cX4_become 50 = .ok (.getfield 56, 3) := by decide +kernel
theorem dX4_become_53 : decode cX4_become 53 = .ok (.putfield 56, 3) := by decide +kernel
theorem dX4_become_56 : decode cX4_become 56 = .ok (.aload_n 1, 1) := by decide +kernel
theorem dX4_become_57 : decode cX4_become 57 = .ok (.getfield 9, 3) := by decide +kernel
theorem dX4_become_60 : decode cX4_become 60 = .ok (.iconst 0, 1) := by decide +kernel
theorem dX4_become_61 : decode cX4_become 61 = .ok (.aload_n 0, 1) := by decide +kernel
theorem dX4_become_62 : decode cX4_become 62 = .ok (.getfield 9, 3) := by decide +kernel
theorem dX4_become_65 : decode cX4_become 65 = .ok (.iconst 0, 1) := by decide +kernel
theorem dX4_become_66 : decode cX4_become 66 = .ok (.bipush 6, 2) := by decide +kernel
theorem dX4_become_68 : decode cX4_become 68 = .ok (.invokestatic 62, 3) := by decide +kernel
theorem dX4_become_71 : decode cX4_become 71 = .ok (.aload_n 1, 1) := by decide +kernel
theorem dX4_become_72 : decode cX4_become 72 = .ok (.getfield 15, 3) := by decide +kernel
theorem dX4_become_75 : decode cX4_become 75 = .ok (.iconst 0, 1) := by decide +kernel
theorem dX4_become_76 : decode cX4_become 76 = .ok (.aload_n 0, 1) := by decide +kernel
theorem dX4_become_77 : decode cX4_become 77 = .ok (.getfield 15, 3) := by decide +kernel
theorem dX4_become_80 : decode cX4_become 80 = .ok (.iconst 0, 1) := by decide +kernel
theorem dX4_become_81 : decode cX4_become 81 = .ok (.bipush 6, 2) := by decide +kernel
theorem dX4_become_83 : decode cX4_become 83 = .ok (.invokestatic 62, 3) := by decide +kernel
theorem dX4_become_86 : decode cX4_become 86 = .ok (.aload_n 1, 1) := by decide +kernel
theorem dX4_become_87 : decode cX4_become 87 = .ok (.getfield 18, 3) := by decide +kernel
theorem dX4_become_90 : decode cX4_become 90 = .ok (.iconst 0, 1) := by decide +kernel
theorem dX4_become_91 : decode cX4_become 91 = .ok (.aload_n 0, 1) := by decide +kernel
theorem dX4_become_92 : decode cX4_become 92 = .ok (.getfield 18, 3) := by decide +kernel
theorem dX4_become_95 : decode cX4_become 95 = .ok (.iconst 0, 1) := by decide +kernel
theorem dX4_become_96 : decode cX4_become 96 = .ok (.bipush 40, 2) := by decide +kernel
theorem dX4_become_98 : decode cX4_become 98 = .ok (.invokestatic 62, 3) := by decide +kernel
theorem dX4_become_101 : decode cX4_become 101 = .ok (.aload_n 1, 1) := by decide +kernel
theorem dX4_become_102 : decode cX4_become 102 = .ok (.getfield 21, 3) := by decide +kernel
theorem dX4_become_105 : decode cX4_become 105 = .ok (.iconst 0, 1) := by decide +kernel
theorem dX4_become_106 : decode cX4_become 106 = .ok (.aload_n 0, 1) := by decide +kernel
theorem dX4_become_107 : decode cX4_become 107 = .ok (.getfield 21, 3) := by decide +kernel
theorem dX4_become_110 : decode cX4_become 110 = .ok (.iconst 0, 1) := by decide +kernel
theorem dX4_become_111 : decode cX4_become 111 = .ok (.bipush 40, 2) := by decide +kernel
theorem dX4_become_113 : decode cX4_become 113 = .ok (.invokestatic 62, 3) := by decide +kernel
theorem dX4_become_116 : decode cX4_become 116 = .ok (.return_, 1) := by decide +kernel
set_option maxRecDepth 20000 in
theorem w_X4_become_b0 {w : zWd} {X : zX} {l0 : Launch} {r : Unit} {S1 : zMem} (C : zC LC w X l0 cX4_become RX4 2 1 none) {c0 : Nat} {c1 : Nat} {S : zMem} {ls : Array Slot} (hl : lv_has ls 2 [(0, .ref (w.2.2.1 c0)), (1, .ref (w.2.2.1 c1))]) (hk_c0 : c0 < LC.1 ∧ LC.2.1 c0 = 6) (hk_c1 : c1 < LC.1 ∧ LC.2.1 c1 = 6) (h : X4_become_b0 c0 c1 S = some (r, S1)) : zV LC w X none S1 S 0 ls [] := by
  unfold X4_become_b0 at h
  refine v_aload_n 0 C dX4_become_0 rfl (lv_at hl 0 rfl) ?_
  refine v_aload_n 1 C dX4_become_1 rfl (lv_at hl 1 rfl) ?_
  refine v_geti 2 C dX4_become_2 fl_X4_28 rfl hk_c1 h (fun v1 h => ?_)
  refine v_putz 5 C dX4_become_5 fl_X4_28 fp_3_5 rfl hk_c0 h (fun S h => ?_)
  refine v_aload_n 8 C dX4_become_8 rfl (lv_at hl 0 rfl) ?_
  refine v_aload_n 9 C dX4_become_9 rfl (lv_at hl 1 rfl) ?_
  refine v_geti 10 C dX4_become_10 fl_X4_32 rfl hk_c1 h (fun v2 h => ?_)
  refine v_puti 13 C dX4_become_13 fl_X4_32 fp_3_6 rfl hk_c0 h (fun S h => ?_)
  refine v_aload_n 16 C dX4_become_16 rfl (lv_at hl 0 rfl) ?_
  refine v_aload_n 17 C dX4_become_17 rfl (lv_at hl 1 rfl) ?_
  refine v_geti 18 C dX4_become_18 fl_X4_36 rfl hk_c1 h (fun v3 h => ?_)
  refine v_puti 21 C dX4_become_21 fl_X4_36 fp_3_7 rfl hk_c0 h (fun S h => ?_)
  refine v_aload_n 24 C dX4_become_24 rfl (lv_at hl 0 rfl) ?_
  refine v_aload_n 25 C dX4_become_25 rfl (lv_at hl 1 rfl) ?_
  refine v_geti 26 C dX4_become_26 fl_X4_44 rfl hk_c1 h (fun v4 h => ?_)
  refine v_puti 29 C dX4_become_29 fl_X4_44 fp_3_8 rfl hk_c0 h (fun S h => ?_)
  refine v_aload_n 32 C dX4_become_32 rfl (lv_at hl 0 rfl) ?_
  refine v_aload_n 33 C dX4_become_33 rfl (lv_at hl 1 rfl) ?_
  refine v_geti 34 C dX4_become_34 fl_X4_50 rfl hk_c1 h (fun v5 h => ?_)
  refine v_puti 37 C dX4_become_37 fl_X4_50 fp_3_9 rfl hk_c0 h (fun S h => ?_)
  refine v_aload_n 40 C dX4_become_40 rfl (lv_at hl 0 rfl) ?_
  refine v_aload_n 41 C dX4_become_41 rfl (lv_at hl 1 rfl) ?_
  refine v_geti 42 C dX4_become_42 fl_X4_53 rfl hk_c1 h (fun v6 h => ?_)
  refine v_puti 45 C dX4_become_45 fl_X4_53 fp_3_10 rfl hk_c0 h (fun S h => ?_)
  refine v_aload_n 48 C dX4_become_48 rfl (lv_at hl 0 rfl) ?_
  refine v_aload_n 49 C dX4_become_49 rfl (lv_at hl 1 rfl) ?_
  refine v_geti 50 C dX4_become_50 fl_X4_56 rfl hk_c1 h (fun v7 h => ?_)
  refine v_puti 53 C dX4_become_53 fl_X4_56 fp_3_11 rfl hk_c0 h (fun S h => ?_)
  refine v_aload_n 56 C dX4_become_56 rfl (lv_at hl 1 rfl) ?_
  refine v_getr 57 (c1 + 1) C dX4_become_57 fl_X4_9 rfl hk_c1 (rP1 hk_c1) ?_
  refine v_iconst 60 C (v := (0 : Int32)) dX4_become_60 (by decide) ?_
  refine v_aload_n 61 C dX4_become_61 rfl (lv_at hl 0 rfl) ?_
  refine v_getr 62 (c0 + 1) C dX4_become_62 fl_X4_9 rfl hk_c0 (rP1 hk_c0) ?_
  refine v_iconst 65 C (v := (0 : Int32)) dX4_become_65 (by decide) ?_
  refine v_bipush 66 C (v := (6 : Int32)) dX4_become_66 (by decide) ?_
  refine v_copy 68 C dX4_become_68 ml_X4_62 hl.1 (by decide) (Nat.le_of_ble_eq_true rfl) (kP1 hk_c1) (kP1 hk_c0) (nP1 hk_c1) (nP1 hk_c0) h (fun S h => ?_)
  refine v_aload_n 71 C dX4_become_71 rfl (lv_at hl 1 rfl) ?_
  refine v_getr 72 (c1 + 2) C dX4_become_72 fl_X4_15 rfl hk_c1 (rP2 hk_c1) ?_
  refine v_iconst 75 C (v := (0 : Int32)) dX4_become_75 (by decide) ?_
  refine v_aload_n 76 C dX4_become_76 rfl (lv_at hl 0 rfl) ?_
  refine v_getr 77 (c0 + 2) C dX4_become_77 fl_X4_15 rfl hk_c0 (rP2 hk_c0) ?_
  refine v_iconst 80 C (v := (0 : Int32)) dX4_become_80 (by decide) ?_
  refine v_bipush 81 C (v := (6 : Int32)) dX4_become_81 (by decide) ?_
  refine v_copy 83 C dX4_become_83 ml_X4_62 hl.1 (by decide) (Nat.le_of_ble_eq_true rfl) (kP2 hk_c1) (kP2 hk_c0) (nP2 hk_c1) (nP2 hk_c0) h (fun S h => ?_)
  refine v_aload_n 86 C dX4_become_86 rfl (lv_at hl 1 rfl) ?_
  refine v_getr 87 (c1 + 3) C dX4_become_87 fl_X4_18 rfl hk_c1 (rP3 hk_c1) ?_
  refine v_iconst 90 C (v := (0 : Int32)) dX4_become_90 (by decide) ?_
  refine v_aload_n 91 C dX4_become_91 rfl (lv_at hl 0 rfl) ?_
  refine v_getr 92 (c0 + 3) C dX4_become_92 fl_X4_18 rfl hk_c0 (rP3 hk_c0) ?_
  refine v_iconst 95 C (v := (0 : Int32)) dX4_become_95 (by decide) ?_
  refine v_bipush 96 C (v := (40 : Int32)) dX4_become_96 (by decide) ?_
  refine v_copy 98 C dX4_become_98 ml_X4_62 hl.1 (by decide) (Nat.le_of_ble_eq_true rfl) (kP3 hk_c1) (kP3 hk_c0) (nP3 hk_c1) (nP3 hk_c0) h (fun S h => ?_)
  refine v_aload_n 101 C dX4_become_101 rfl (lv_at hl 1 rfl) ?_
  refine v_getr 102 (c1 + 4) C dX4_become_102 fl_X4_21 rfl hk_c1 (rP4 hk_c1) ?_
  refine v_iconst 105 C (v := (0 : Int32)) dX4_become_105 (by decide) ?_
  refine v_aload_n 106 C dX4_become_106 rfl (lv_at hl 0 rfl) ?_
  refine v_getr 107 (c0 + 4) C dX4_become_107 fl_X4_21 rfl hk_c0 (rP4 hk_c0) ?_
  refine v_iconst 110 C (v := (0 : Int32)) dX4_become_110 (by decide) ?_
  refine v_bipush 111 C (v := (40 : Int32)) dX4_become_111 (by decide) ?_
  refine v_copy 113 C dX4_become_113 ml_X4_62 hl.1 (by decide) (Nat.le_of_ble_eq_true rfl) (kP4 hk_c1) (kP4 hk_c0) (nP4 hk_c1) (nP4 hk_c0) h (fun S h => ?_)
  exact v_return 116 C dX4_become_116 h
theorem c_X4_become {w : zWd} {l0 : Launch} {c0 : Nat} {c1 : Nat} {S S1 : zMem} {r : Unit} (hk_c0 : c0 < LC.1 ∧ LC.2.1 c0 = 6) (hk_c1 : c1 < LC.1 ∧ LC.2.1 c1 = 6) (h : f_X4_become c0 c1 S = some (r, S1)) : zMet LC w l0 yX4_become cX4_become 2 none 1 [.ref (w.2.2.1 c0), .ref (w.2.2.1 c1)] S none S1 :=
  zMet_of (by decide +kernel) (Nat.le_of_ble_eq_true rfl) (fun X ls C hl => w_X4_become_b0 C hl hk_c0 hk_c1 h)
theorem ml_X8_216 : Cond.methodLink RX8 216 yX8_isPlace ∈ zT := zT_of (List.mem_of_getElem? (i := 634) (by decide +kernel)) rfl
theorem hy_X8_isPlace : zYs yX8_isPlace cX8_isPlace 1 (some .boolean) 1 := ⟨⟨zT_of (List.mem_of_getElem? (i := 636) (by decide +kernel)) rfl, zT_of (List.mem_of_getElem? (i := 70) (by decide +kernel)) rfl, by decide, by decide +kernel, by decide +kernel, by decide +kernel⟩, zT_of (List.mem_of_getElem? (i := 635) (by decide +kernel)) rfl⟩
theorem ml_X8_219 : Cond.methodLink RX8 219 yX4_become ∈ zT := zT_of (List.mem_of_getElem? (i := 637) (by decide +kernel)) rfl
theorem hy_X4_become : zYv yX4_become cX4_become 2 none 1 := ⟨⟨zT_of (List.mem_of_getElem? (i := 640) (by decide +kernel)) rfl, zT_of (List.mem_of_getElem? (i := 73) (by decide +kernel)) rfl, by decide, by decide +kernel, by decide +kernel, by decide +kernel⟩, zT_of (List.mem_of_getElem? (i := 638) (by decide +kernel)) rfl, zT_of (List.mem_of_getElem? (i := 639) (by decide +kernel)) rfl⟩
theorem dX8_keep_0 : decode cX8_keep 0 = .ok (.iload_n 1, 1) := by decide +kernel
theorem dX8_keep_1 : decode cX8_keep 1 = .ok (.invokestatic 216, 3) := by decide +kernel
theorem dX8_keep_4 : decode cX8_keep 4 = .ok (.ifCond .ne 5, 3) := by decide +kernel
theorem dX8_keep_7 : decode cX8_keep 7 = .ok (.iconst (-1), 1) := by decide +kernel
theorem dX8_keep_8 : decode cX8_keep 8 = .ok (.ireturn, 1) := by decide +kernel
theorem dX8_keep_9 : decode cX8_keep 9 = .ok (.aload_n 0, 1) := by decide +kernel
theorem dX8_keep_10 : decode cX8_keep 10 = .ok (.invokevirtual 196, 3) := by decide +kernel
theorem dX8_keep_13 : decode cX8_keep 13 = .ok (.ifCond .ne 6, 3) := by decide +kernel
theorem dX8_keep_16 : decode cX8_keep 16 = .ok (.bipush (-4), 2) := by decide +kernel
theorem dX8_keep_18 : decode cX8_keep 18 = .ok (.ireturn, 1) := by decide +kernel
theorem dX8_keep_19 : decode cX8_keep 19 = .ok (.aload_n 0, 1) := by decide +kernel
theorem dX8_keep_20 : decode cX8_keep 20 = .ok (.getfield 44, 3) := by decide +kernel
theorem dX8_keep_23 : decode cX8_keep 23 = .ok (.iload_n 1, 1) := by decide +kernel
theorem dX8_keep_24 : decode cX8_keep 24 = .ok (.aaload, 1) := by decide +kernel
theorem dX8_keep_25 : decode cX8_keep 25 = .ok (.aload_n 0, 1) := by decide +kernel
theorem dX8_keep_26 : decode cX8_keep 26 = .ok (.getfield 37, 3) := by decide +kernel
theorem dX8_keep_29 : decode cX8_keep 29 = .ok (.invokevirtual 219, 3) := by decide +kernel
theorem dX8_keep_32 : decode cX8_keep 32 = .ok (.aload_n 0, 1) := by decide +kernel
theorem dX8_keep_33 : decode cX8_keep 33 = .ok (.getfield 37, 3) := by decide +kernel
theorem dX8_keep_36 : decode cX8_keep 36 = .ok (.getfield 210, 3) := by decide +kernel
theorem dX8_keep_39 : decode cX8_keep 39 = .ok (.ireturn, 1) := by decide +kernel
set_option maxRecDepth 20000 in
theorem w_X8_keep_b0 {w : zWd} {X : zX} {l0 : Launch} {r : Int32} {S1 : zMem} (C : zC LC w X l0 cX8_keep RX8 2 3 (some .int)) {x1 : Int32} {S : zMem} {ls : Array Slot} (hl : lv_has ls 2 [(0, .ref (w.2.2.1 0)), (1, .int x1)]) (h : X8_keep_b0 x1 S = some (r, S1)) : zV LC w X (some (.int r)) S1 S 0 ls [] := by
  unfold X8_keep_b0 at h
  refine v_iload_n 0 C dX8_keep_0 rfl (lv_at hl 1 rfl) ?_
  obtain ⟨v1, S, hc, h⟩ := zb_e h
  refine v_callSi 1 C [] dX8_keep_1 ml_X8_216 hy_X8_isPlace (c_X8_isPlace  hc) (by decide) rfl hl.1 (Nat.le_of_ble_eq_true rfl) rfl ?_
  refine v_if_ne 4 9 C dX8_keep_4 (by decide) h (fun h => ?_) (fun h => ?_)
  · refine v_aload_n 9 C dX8_keep_9 rfl (lv_at hl 0 rfl) ?_
    obtain ⟨v2, S, hc, h⟩ := zb_e h
    refine v_callVi 10 C (ci := 7) [] dX8_keep_10 ml_X8_196 hy_X8_isPosted (c_X8_isPosted  hc) (by decide) rfl hl.1 kC_0 rfl (Nat.le_of_ble_eq_true rfl) rfl ?_
    refine v_if_ne 13 19 C dX8_keep_13 (by decide) h (fun h => ?_) (fun h => ?_)
    · refine v_aload_n 19 C dX8_keep_19 rfl (lv_at hl 0 rfl) ?_
      refine v_getr 20 (3) C dX8_keep_20 fl_X8_44 rfl kC_0 rfl ?_
      refine v_iload_n 23 C dX8_keep_23 rfl (lv_at hl 1 rfl) ?_
      refine v_aald 24 (45 + 5 * Int32.toNatClampNeg x1) C dX8_keep_24 kC_3 (Or.inr rfl) rfl rfl h (fun hz3 h => ?_)
      refine v_aload_n 25 C dX8_keep_25 rfl (lv_at hl 0 rfl) ?_
      refine v_getr 26 (35) C dX8_keep_26 fl_X8_37 rfl kC_0 rfl ?_
      obtain ⟨v4, S, hc, h⟩ := zb_e h
      refine v_callVv 29 C (ci := 3) [] dX8_keep_29 ml_X8_219 hy_X4_become (c_X4_become (kKpt hz3) kC_35 hc) (by decide) rfl hl.1 (kKpt hz3) rfl (Nat.le_of_ble_eq_true rfl) rfl ?_
      refine v_aload_n 32 C dX8_keep_32 rfl (lv_at hl 0 rfl) ?_
      refine v_getr 33 (35) C dX8_keep_33 fl_X8_37 rfl kC_0 rfl ?_
      refine v_geti 36 C dX8_keep_36 fl_X8_210 rfl kC_35 h (fun v5 h => ?_)
      exact v_ireturn 39 C dX8_keep_39 h
    · refine v_bipush 16 C (v := (-4 : Int32)) dX8_keep_16 (by decide) ?_
      exact v_ireturn 18 C dX8_keep_18 h
  · refine v_iconst 7 C (v := (-1 : Int32)) dX8_keep_7 (by decide) ?_
    exact v_ireturn 8 C dX8_keep_8 h
theorem c_X8_keep {w : zWd} {l0 : Launch} {x1 : Int32} {S S1 : zMem} {r : Int32} (h : f_X8_keep x1 S = some (r, S1)) : zMet LC w l0 yX8_keep cX8_keep 2 (some .int) 3 [.ref (w.2.2.1 0), .int x1] S (some (.int r)) S1 :=
  zMet_of (by decide +kernel) (Nat.le_of_ble_eq_true rfl) (fun X ls C hl => w_X8_keep_b0 C hl h)
theorem dX8_on_0 : decode cX8_on 0 = .ok (.iload_n 1, 1) := by decide +kernel
theorem dX8_on_1 : decode cX8_on 1 = .ok (.invokestatic 216, 3) := by decide +kernel
theorem dX8_on_4 : decode cX8_on 4 = .ok (.ifCond .ne 5, 3) := by decide +kernel
theorem dX8_on_7 : decode cX8_on 7 = .ok (.iconst (-1), 1) := by decide +kernel
theorem dX8_on_8 : decode cX8_on 8 = .ok (.ireturn, 1) := by decide +kernel
theorem dX8_on_9 : decode cX8_on 9 = .ok (.aload_n 0, 1) := by decide +kernel
theorem dX8_on_10 : decode cX8_on 10 = .ok (.getfield 44, 3) := by decide +kernel
theorem dX8_on_13 : decode cX8_on 13 = .ok (.iload_n 1, 1) := by decide +kernel
theorem dX8_on_14 : decode cX8_on 14 = .ok (.aaload, 1) := by decide +kernel
theorem dX8_on_15 : decode cX8_on 15 = .ok (.getfield 142, 3) := by decide +kernel
theorem dX8_on_18 : decode cX8_on 18 = .ok (.ifCond .ne 9, 3) := by decide +kernel
theorem dX8_on_21 : decode cX8_on 21 = .ok (.aload_n 0, 1) := by decide +kernel
theorem dX8_on_22 : decode cX8_on 22 = .ok (.iconst 1, 1) := by decide +kernel
theorem dX8_on_23 : decode cX8_on 23 = .ok (.invokevirtual 84, 3) := by decide +kernel
theorem dX8_on_26 : decode cX8_on 26 = .ok (.ireturn, 1) := by decide +kernel
theorem dX8_on_27 : decode cX8_on 27 = .ok (.aload_n 0, 1) := by decide +kernel
theorem dX8_on_28 : decode cX8_on 28 = .ok (.getfield 37, 3) := by decide +kernel
theorem dX8_on_31 : decode cX8_on 31 = .ok (.aload_n 0, 1) := by decide +kernel
theorem dX8_on_32 : decode cX8_on 32 = .ok (.getfield 44, 3) := by decide +kernel
theorem dX8_on_35 : decode cX8_on 35 = .ok (.iload_n 1, 1) := by decide +kernel
theorem dX8_on_36 : decode cX8_on 36 = .ok (.aaload, 1) := by decide +kernel
theorem dX8_on_37 : decode cX8_on 37 = .ok (.invokevirtual 219, 3) := by decide +kernel
theorem dX8_on_40 : decode cX8_on 40 = .ok (.aload_n 0, 1) := by decide +kernel
theorem dX8_on_41 : decode cX8_on 41 = .ok (.getfield 37, 3) := by decide +kernel
theorem dX8_on_44 : decode cX8_on 44 = .ok (.getfield 210, 3) := by decide +kernel
theorem dX8_on_47 : decode cX8_on 47 = .ok (.ireturn, 1) := by decide +kernel
set_option maxRecDepth 20000 in
theorem w_X8_on_b0 {w : zWd} {X : zX} {l0 : Launch} {r : Int32} {S1 : zMem} (C : zC LC w X l0 cX8_on RX8 2 3 (some .int)) {x1 : Int32} {S : zMem} {ls : Array Slot} (hl : lv_has ls 2 [(0, .ref (w.2.2.1 0)), (1, .int x1)]) (h : X8_on_b0 x1 S = some (r, S1)) : zV LC w X (some (.int r)) S1 S 0 ls [] := by
  unfold X8_on_b0 at h
  refine v_iload_n 0 C dX8_on_0 rfl (lv_at hl 1 rfl) ?_
  obtain ⟨v1, S, hc, h⟩ := zb_e h
  refine v_callSi 1 C [] dX8_on_1 ml_X8_216 hy_X8_isPlace (c_X8_isPlace  hc) (by decide) rfl hl.1 (Nat.le_of_ble_eq_true rfl) rfl ?_
  refine v_if_ne 4 9 C dX8_on_4 (by decide) h (fun h => ?_) (fun h => ?_)
  · refine v_aload_n 9 C dX8_on_9 rfl (lv_at hl 0 rfl) ?_
    refine v_getr 10 (3) C dX8_on_10 fl_X8_44 rfl kC_0 rfl ?_
    refine v_iload_n 13 C dX8_on_13 rfl (lv_at hl 1 rfl) ?_
    refine v_aald 14 (45 + 5 * Int32.toNatClampNeg x1) C dX8_on_14 kC_3 (Or.inr rfl) rfl rfl h (fun hz2 h => ?_)
    refine v_geti 15 C dX8_on_15 fl_X8_142 rfl (kKpt hz2) h (fun v3 h => ?_)
    refine v_if_ne 18 27 C dX8_on_18 (by decide) h (fun h => ?_) (fun h => ?_)
    · refine v_aload_n 27 C dX8_on_27 rfl (lv_at hl 0 rfl) ?_
      refine v_getr 28 (35) C dX8_on_28 fl_X8_37 rfl kC_0 rfl ?_
      refine v_aload_n 31 C dX8_on_31 rfl (lv_at hl 0 rfl) ?_
      refine v_getr 32 (3) C dX8_on_32 fl_X8_44 rfl kC_0 rfl ?_
      refine v_iload_n 35 C dX8_on_35 rfl (lv_at hl 1 rfl) ?_
      refine v_aald 36 (45 + 5 * Int32.toNatClampNeg x1) C dX8_on_36 kC_3 (Or.inr rfl) rfl rfl h (fun hz4 h => ?_)
      obtain ⟨v5, S, hc, h⟩ := zb_e h
      refine v_callVv 37 C (ci := 3) [] dX8_on_37 ml_X8_219 hy_X4_become (c_X4_become kC_35 (kKpt hz4) hc) (by decide) rfl hl.1 kC_35 rfl (Nat.le_of_ble_eq_true rfl) rfl ?_
      refine v_aload_n 40 C dX8_on_40 rfl (lv_at hl 0 rfl) ?_
      refine v_getr 41 (35) C dX8_on_41 fl_X8_37 rfl kC_0 rfl ?_
      refine v_geti 44 C dX8_on_44 fl_X8_210 rfl kC_35 h (fun v6 h => ?_)
      exact v_ireturn 47 C dX8_on_47 h
    · refine v_aload_n 21 C dX8_on_21 rfl (lv_at hl 0 rfl) ?_
      refine v_iconst 22 C (v := (1 : Int32)) dX8_on_22 (by decide) ?_
      obtain ⟨v7, S, hc, h⟩ := zb_e h
      refine v_callVi 23 C (ci := 7) [] dX8_on_23 ml_X8_84 hy_X8_refuse (c_X8_refuse  hc) (by decide) rfl hl.1 kC_0 rfl (Nat.le_of_ble_eq_true rfl) rfl ?_
      exact v_ireturn 26 C dX8_on_26 h
  · refine v_iconst 7 C (v := (-1 : Int32)) dX8_on_7 (by decide) ?_
    exact v_ireturn 8 C dX8_on_8 h
theorem c_X8_on {w : zWd} {l0 : Launch} {x1 : Int32} {S S1 : zMem} {r : Int32} (h : f_X8_on x1 S = some (r, S1)) : zMet LC w l0 yX8_on cX8_on 2 (some .int) 3 [.ref (w.2.2.1 0), .int x1] S (some (.int r)) S1 :=
  zMet_of (by decide +kernel) (Nat.le_of_ble_eq_true rfl) (fun X ls C hl => w_X8_on_b0 C hl h)
theorem ml_X8_222 : Cond.methodLink RX8 222 yX1_warmth ∈ zT := zT_of (List.mem_of_getElem? (i := 649) (by decide +kernel)) rfl
theorem dX8_ends_0 : decode cX8_ends 0 = .ok (.aload_n 0, 1) := by decide +kernel
theorem dX8_ends_1 : decode cX8_ends 1 = .ok (.iload_n 1, 1) := by decide +kernel
theorem dX8_ends_2 : decode cX8_ends 2 = .ok (.invokevirtual 159, 3) := by decide +kernel
theorem dX8_ends_5 : decode cX8_ends 5 = .ok (.ifCond .eq 21, 3) := by decide +kernel
theorem dX8_ends_8 : decode cX8_ends 8 = .ok (.iload_n 2, 1) := by decide +kernel
theorem dX8_ends_9 : decode cX8_ends 9 = .ok (.bipush 9, 2) := by decide +kernel
theorem dX8_ends_11 : decode cX8_ends 11 = .ok (.invokestatic 152, 3) := by decide +kernel
theorem dX8_ends_14 : decode cX8_ends 14 = .ok (.ifCond .eq 12, 3) := by decide +kernel
theorem dX8_ends_17 : decode cX8_ends 17 = .ok (.iload_n 3, 1) := by decide +kernel
theorem dX8_ends_18 : decode cX8_ends 18 = .ok (.bipush 9, 2) := by decide +kernel
theorem dX8_ends_20 : decode cX8_ends 20 = .ok (.invokestatic 152, 3) := by decide +kernel
theorem dX8_ends_23 : decode cX8_ends 23 = .ok (.ifCond .ne 5, 3) := by decide +kernel
theorem dX8_ends_26 : decode cX8_ends 26 = .ok (.iconst (-1), 1) := by decide +kernel
theorem dX8_ends_27 : decode cX8_ends 27 = .ok (.ireturn, 1) := by decide +kernel
theorem dX8_ends_28 : decode cX8_ends 28 = .ok (.aload_n 0, 1) := by decide +kernel
theorem dX8_ends_29 : decode cX8_ends 29 = .ok (.getfield 21, 3) := by decide +kernel
theorem dX8_ends_32 : decode cX8_ends 32 = .ok (.getfield 167, 3) := by decide +kernel
theorem dX8_ends_35 : decode cX8_ends 35 = .ok (.iload_n 1, 1) := by decide +kernel
theorem dX8_ends_36 : decode cX8_ends 36 = .ok (.iaload, 1) := by decide +kernel
theorem dX8_ends_37 : decode cX8_ends 37 = .ok (.iload_n 2, 1) := by decide +kernel
theorem dX8_ends_38 : decode cX8_ends 38 = .ok (.iload_n 3, 1) := by decide +kernel
theorem dX8_ends_39 : decode cX8_ends 39 = .ok (.invokestatic 222, 3) := by decide +kernel
theorem dX8_ends_42 : decode cX8_ends 42 = .ok (.ireturn, 1) := by decide +kernel
set_option maxRecDepth 20000 in
theorem w_X8_ends_b26 {w : zWd} {X : zX} {l0 : Launch} {r : Int32} {S1 : zMem} (C : zC LC w X l0 cX8_ends RX8 4 3 (some .int)) {S : zMem} {ls : Array Slot} (hl : lv_has ls 4 []) (h : X8_ends_b26  S = some (r, S1)) : zV LC w X (some (.int r)) S1 S 26 ls [] := by
  unfold X8_ends_b26 at h
  refine v_iconst 26 C (v := (-1 : Int32)) dX8_ends_26 (by decide) ?_
  exact v_ireturn 27 C dX8_ends_27 h
set_option maxRecDepth 20000 in
theorem w_X8_ends_b0 {w : zWd} {X : zX} {l0 : Launch} {r : Int32} {S1 : zMem} (C : zC LC w X l0 cX8_ends RX8 4 3 (some .int)) {x1 : Int32} {x2 : Int32} {x3 : Int32} {S : zMem} {ls : Array Slot} (hl : lv_has ls 4 [(0, .ref (w.2.2.1 0)), (1, .int x1), (2, .int x2), (3, .int x3)]) (h : X8_ends_b0 x1 x2 x3 S = some (r, S1)) : zV LC w X (some (.int r)) S1 S 0 ls [] := by
  unfold X8_ends_b0 at h
  refine v_aload_n 0 C dX8_ends_0 rfl (lv_at hl 0 rfl) ?_
  refine v_iload_n 1 C dX8_ends_1 rfl (lv_at hl 1 rfl) ?_
  obtain ⟨v1, S, hc, h⟩ := zb_e h
  refine v_callVi 2 C (ci := 7) [] dX8_ends_2 ml_X8_159 hy_X8_isLetter (c_X8_isLetter  hc) (by decide) rfl hl.1 kC_0 rfl (Nat.le_of_ble_eq_true rfl) rfl ?_
  refine v_if_eq 5 26 C dX8_ends_5 (by decide) h (fun h => ?_) (fun h => ?_)
  · exact w_X8_ends_b26 C (lv_sub hl [] rfl) h
  · refine v_iload_n 8 C dX8_ends_8 rfl (lv_at hl 2 rfl) ?_
    refine v_bipush 9 C (v := (9 : Int32)) dX8_ends_9 (by decide) ?_
    obtain ⟨v2, S, hc, h⟩ := zb_e h
    refine v_callSi 11 C [] dX8_ends_11 ml_X8_152 hy_X8_within (c_X8_within  hc) (by decide) rfl hl.1 (Nat.le_of_ble_eq_true rfl) rfl ?_
    refine v_if_eq 14 26 C dX8_ends_14 (by decide) h (fun h => ?_) (fun h => ?_)
    · exact w_X8_ends_b26 C (lv_sub hl [] rfl) h
    · refine v_iload_n 17 C dX8_ends_17 rfl (lv_at hl 3 rfl) ?_
      refine v_bipush 18 C (v := (9 : Int32)) dX8_ends_18 (by decide) ?_
      obtain ⟨v3, S, hc, h⟩ := zb_e h
      refine v_callSi 20 C [] dX8_ends_20 ml_X8_152 hy_X8_within (c_X8_within  hc) (by decide) rfl hl.1 (Nat.le_of_ble_eq_true rfl) rfl ?_
      refine v_if_ne 23 28 C dX8_ends_23 (by decide) h (fun h => ?_) (fun h => ?_)
      · refine v_aload_n 28 C dX8_ends_28 rfl (lv_at hl 0 rfl) ?_
        refine v_getr 29 (24) C dX8_ends_29 fl_X8_21 rfl kC_0 rfl ?_
        refine v_getr 32 (26) C dX8_ends_32 fl_X8_167 rfl kC_24 rfl ?_
        refine v_iload_n 35 C dX8_ends_35 rfl (lv_at hl 1 rfl) ?_
        refine v_iald 36 C dX8_ends_36 kC_26 rfl h (fun v4 h => ?_)
        refine v_iload_n 37 C dX8_ends_37 rfl (lv_at hl 2 rfl) ?_
        refine v_iload_n 38 C dX8_ends_38 rfl (lv_at hl 3 rfl) ?_
        obtain ⟨v5, S, hc, h⟩ := zb_e h
        refine v_callSi 39 C [] dX8_ends_39 ml_X8_222 hy_X1_warmth (c_X1_warmth  hc) (by decide) rfl hl.1 (Nat.le_of_ble_eq_true rfl) rfl ?_
        exact v_ireturn 42 C dX8_ends_42 h
      · exact w_X8_ends_b26 C (lv_sub hl [] rfl) h
theorem c_X8_ends {w : zWd} {l0 : Launch} {x1 : Int32} {x2 : Int32} {x3 : Int32} {S S1 : zMem} {r : Int32} (h : f_X8_ends x1 x2 x3 S = some (r, S1)) : zMet LC w l0 yX8_ends cX8_ends 4 (some .int) 3 [.ref (w.2.2.1 0), .int x1, .int x2, .int x3] S (some (.int r)) S1 :=
  zMet_of (by decide +kernel) (Nat.le_of_ble_eq_true rfl) (fun X ls C hl => w_X8_ends_b0 C hl h)
theorem ml_X8_230 : Cond.methodLink RX8 230 yX6_moodBehind ∈ zT := zT_of (List.mem_of_getElem? (i := 654) (by decide +kernel)) rfl
theorem ml_X8_239 : Cond.methodLink RX8 239 yX6_bondBehind ∈ zT := zT_of (List.mem_of_getElem? (i := 655) (by decide +kernel)) rfl
theorem dX8_bond_0 : decode cX8_bond 0 = .ok (.aload_n 0, 1) := by decide +kernel
theorem dX8_bond_1 : decode cX8_bond 1 = .ok (.iload_n 1, 1) := by decide +kernel
theorem dX8_bond_2 : decode cX8_bond 2 = .ok (.invokevirtual 159, 3) := by decide +kernel
theorem dX8_bond_5 : decode cX8_bond 5 = .ok (.ifCond .ne 5, 3) := by decide +kernel
theorem dX8_bond_8 : decode cX8_bond 8 = .ok (.iconst (-1), 1) := by decide +kernel
theorem dX8_bond_9 : decode cX8_bond 9 = .ok (.ireturn, 1) := by decide +kernel
theorem dX8_bond_10 : decode cX8_bond 10 = .ok (.aload_n 0, 1) := by decide +kernel
theorem dX8_bond_11 : decode cX8_bond 11 = .ok (.iload_n 1, 1) := by decide +kernel
theorem dX8_bond_12 : decode cX8_bond 12 = .ok (.iconst 0, 1) := by decide +kernel
theorem dX8_bond_13 : decode cX8_bond 13 = .ok (.invokevirtual 225, 3) := by decide +kernel
theorem dX8_bond_16 : decode cX8_bond 16 = .ok (.istore_n 2, 1) := by decide +kernel
theorem dX8_bond_17 : decode cX8_bond 17 = .ok (.aload_n 0, 1) := by decide +kernel
theorem dX8_bond_18 : decode cX8_bond 18 = .ok (.getfield 21, 3) := by decide +kernel
theorem dX8_bond_21 : decode cX8_bond 21 = .ok (.iload_n 1, 1) := by decide +kernel
theorem dX8_bond_22 : decode cX8_bond 22 = .ok (.iload_n 2, 1) := by decide +kernel
theorem dX8_bond_23 : decode cX8_bond 23 = .ok (.invokevirtual 228, 3) := by decide +kernel
theorem dX8_bond_26 : decode cX8_bond 26 = .ok (.istore_n 3, 1) := by decide +kernel
theorem dX8_bond_27 : decode cX8_bond 27 = .ok (.aload_n 0, 1) := by decide +kernel
theorem dX8_bond_28 : decode cX8_bond 28 = .ok (.aload_n 0, 1) := by decide +kernel
theorem dX8_bond_29 : decode cX8_bond 29 = .ok (.getfield 21, 3) := by decide +kernel
theorem dX8_bond_32 : decode cX8_bond 32 = .ok (.iload_n 1, 1) := by decide +kernel
theorem dX8_bond_33 : decode cX8_bond 33 = .ok (.iload_n 2, 1) := by decide +kernel
theorem dX8_bond_34 : decode cX8_bond 34 = .ok (.iload_n 3, 1) := by decide +kernel
theorem dX8_bond_35 : decode cX8_bond 35 = .ok (.invokevirtual 230, 3) := by decide +kernel
theorem dX8_bond_38 : decode cX8_bond 38 = .ok (.invokevirtual 102, 3) := by decide +kernel
theorem dX8_bond_41 : decode cX8_bond 41 = .ok (.pop, 1) := by decide +kernel
theorem dX8_bond_42 : decode cX8_bond 42 = .ok (.aload_n 0, 1) := by decide +kernel
theorem dX8_bond_43 : decode cX8_bond 43 = .ok (.getfield 37, 3) := by decide +kernel
theorem dX8_bond_46 : decode cX8_bond 46 = .ok (.getfield 233, 3) := by decide +kernel
theorem dX8_bond_49 : decode cX8_bond 49 = .ok (.aload_n 0, 1) := by decide +kernel
theorem dX8_bond_50 : decode cX8_bond 50 = .ok (.getfield 21, 3) := by decide +kernel
theorem dX8_bond_53 : decode cX8_bond 53 = .ok (.getfield 236, 3) := by decide +kernel
theorem dX8_bond_56 : decode cX8_bond 56 = .ok (.iload_n 1, 1) := by decide +kernel
theorem dX8_bond_57 : decode cX8_bond 57 = .ok (.iaload, 1) := by decide +kernel
theorem dX8_bond_58 : decode cX8_bond 58 = .ok (.iaload, 1) := by decide +kernel
theorem dX8_bond_59 : decode cX8_bond 59 = .ok (.iload_n 3, 1) := by decide +kernel
theorem dX8_bond_60 : decode cX8_bond 60 = .ok (.invokestatic 239, 3) := by decide +kernel
theorem dX8_bond_63 : decode cX8_bond 63 = .ok (.ireturn, 1) := by decide +kernel
set_option maxRecDepth 20000 in
theorem w_X8_bond_b0 {w : zWd} {X : zX} {l0 : Launch} {r : Int32} {S1 : zMem} (C : zC LC w X l0 cX8_bond RX8 4 4 (some .int)) {x1 : Int32} {S : zMem} {ls : Array Slot} (hl : lv_has ls 4 [(0, .ref (w.2.2.1 0)), (1, .int x1)]) (h : X8_bond_b0 x1 S = some (r, S1)) : zV LC w X (some (.int r)) S1 S 0 ls [] := by
  unfold X8_bond_b0 at h
  refine v_aload_n 0 C dX8_bond_0 rfl (lv_at hl 0 rfl) ?_
  refine v_iload_n 1 C dX8_bond_1 rfl (lv_at hl 1 rfl) ?_
  obtain ⟨v1, S, hc, h⟩ := zb_e h
  refine v_callVi 2 C (ci := 7) [] dX8_bond_2 ml_X8_159 hy_X8_isLetter (c_X8_isLetter  hc) (by decide) rfl hl.1 kC_0 rfl (Nat.le_of_ble_eq_true rfl) rfl ?_
  refine v_if_ne 5 10 C dX8_bond_5 (by decide) h (fun h => ?_) (fun h => ?_)
  · refine v_aload_n 10 C dX8_bond_10 rfl (lv_at hl 0 rfl) ?_
    refine v_iload_n 11 C dX8_bond_11 rfl (lv_at hl 1 rfl) ?_
    refine v_iconst 12 C (v := (0 : Int32)) dX8_bond_12 (by decide) ?_
    obtain ⟨v2, S, hc, h⟩ := zb_e h
    refine v_callVi 13 C (ci := 7) [] dX8_bond_13 ml_X8_225 hy_X8_arrivingWith (c_X8_arrivingWith  hc) (by decide) rfl hl.1 kC_0 rfl (Nat.le_of_ble_eq_true rfl) rfl ?_
    refine v_istore_n 16 C [(2, .int v2), (0, .ref (w.2.2.1 0)), (1, .int x1)] dX8_bond_16 rfl hl (by decide) rfl (fun ls hl => ?_)
    refine v_aload_n 17 C dX8_bond_17 rfl (lv_at hl 1 rfl) ?_
    refine v_getr 18 (24) C dX8_bond_18 fl_X8_21 rfl kC_0 rfl ?_
    refine v_iload_n 21 C dX8_bond_21 rfl (lv_at hl 2 rfl) ?_
    refine v_iload_n 22 C dX8_bond_22 rfl (lv_at hl 0 rfl) ?_
    obtain ⟨v3, S, hc, h⟩ := zb_e h
    refine v_callVi 23 C (ci := 5) [] dX8_bond_23 ml_X8_228 hy_X6_warmth (c_X6_warmth  hc) (by decide) rfl hl.1 kC_24 rfl (Nat.le_of_ble_eq_true rfl) rfl ?_
    refine v_istore_n 26 C [(3, .int v3), (2, .int v2), (0, .ref (w.2.2.1 0)), (1, .int x1)] dX8_bond_26 rfl hl (by decide) rfl (fun ls hl => ?_)
    refine v_aload_n 27 C dX8_bond_27 rfl (lv_at hl 2 rfl) ?_
    refine v_aload_n 28 C dX8_bond_28 rfl (lv_at hl 2 rfl) ?_
    refine v_getr 29 (24) C dX8_bond_29 fl_X8_21 rfl kC_0 rfl ?_
    refine v_iload_n 32 C dX8_bond_32 rfl (lv_at hl 3 rfl) ?_
    refine v_iload_n 33 C dX8_bond_33 rfl (lv_at hl 1 rfl) ?_
    refine v_iload_n 34 C dX8_bond_34 rfl (lv_at hl 0 rfl) ?_
    obtain ⟨v4, S, hc, h⟩ := zb_e h
    refine v_callVi 35 C (ci := 5) [.ref (w.2.2.1 0)] dX8_bond_35 ml_X8_230 hy_X6_moodBehind (c_X6_moodBehind  hc) (by decide) rfl hl.1 kC_24 rfl (Nat.le_of_ble_eq_true rfl) rfl ?_
    obtain ⟨v5, S, hc, h⟩ := zb_e h
    refine v_callVi 38 C (ci := 7) [] dX8_bond_38 ml_X8_102 hy_X8_tell (c_X8_tell  hc) (by decide) rfl hl.1 kC_0 rfl (Nat.le_of_ble_eq_true rfl) rfl ?_
    refine v_pop 41 C dX8_bond_41 rfl ?_
    refine v_aload_n 42 C dX8_bond_42 rfl (lv_at hl 2 rfl) ?_
    refine v_getr 43 (35) C dX8_bond_43 fl_X8_37 rfl kC_0 rfl ?_
    refine v_getr 46 (36) C dX8_bond_46 fl_X8_233 rfl kC_35 rfl ?_
    refine v_aload_n 49 C dX8_bond_49 rfl (lv_at hl 2 rfl) ?_
    refine v_getr 50 (24) C dX8_bond_50 fl_X8_21 rfl kC_0 rfl ?_
    refine v_getr 53 (27) C dX8_bond_53 fl_X8_236 rfl kC_24 rfl ?_
    refine v_iload_n 56 C dX8_bond_56 rfl (lv_at hl 3 rfl) ?_
    refine v_iald 57 C dX8_bond_57 kC_27 rfl h (fun v6 h => ?_)
    refine v_iald 58 C dX8_bond_58 kC_36 rfl h (fun v7 h => ?_)
    refine v_iload_n 59 C dX8_bond_59 rfl (lv_at hl 0 rfl) ?_
    obtain ⟨v8, S, hc, h⟩ := zb_e h
    refine v_callSi 60 C [] dX8_bond_60 ml_X8_239 hy_X6_bondBehind (c_X6_bondBehind  hc) (by decide) rfl hl.1 (Nat.le_of_ble_eq_true rfl) rfl ?_
    exact v_ireturn 63 C dX8_bond_63 h
  · refine v_iconst 8 C (v := (-1 : Int32)) dX8_bond_8 (by decide) ?_
    exact v_ireturn 9 C dX8_bond_9 h
theorem c_X8_bond {w : zWd} {l0 : Launch} {x1 : Int32} {S S1 : zMem} {r : Int32} (h : f_X8_bond x1 S = some (r, S1)) : zMet LC w l0 yX8_bond cX8_bond 4 (some .int) 4 [.ref (w.2.2.1 0), .int x1] S (some (.int r)) S1 :=
  zMet_of (by decide +kernel) (Nat.le_of_ble_eq_true rfl) (fun X ls C hl => w_X8_bond_b0 C hl h)
theorem dX8_least_0 : decode cX8_least 0 = .ok (.aload_n 0, 1) := by decide +kernel
theorem dX8_least_1 : decode cX8_least 1 = .ok (.iload_n 1, 1) := by decide +kernel
theorem dX8_least_2 : decode cX8_least 2 = .ok (.invokevirtual 159, 3) := by decide +kernel
theorem dX8_least_5 : decode cX8_least 5 = .ok (.ifCond .eq 12, 3) := by decide +kernel
theorem dX8_least_8 : decode cX8_least 8 = .ok (.iload_n 2, 1) := by decide +kernel
theorem dX8_least_9 : decode cX8_least 9 = .ok (.bipush 9, 2) := by decide +kernel
theorem dX8_least_11 : decode cX8_least 11 = .ok (.invokestatic 152, 3) := by decide +kernel
theorem dX8_least_14 : decode cX8_least 14 = .ok (.ifCond .ne 5, 3) := by decide +kernel
theorem dX8_least_17 : decode cX8_least 17 = .ok (.iconst (-1), 1) := by decide +kernel
theorem dX8_least_18 : decode cX8_least 18 = .ok (.ireturn, 1) := by decide +kernel
theorem dX8_least_19 : decode cX8_least 19 = .ok (.iconst 0, 1) := by decide +kernel
theorem dX8_least_20 : decode cX8_least 20 = .ok (.istore_n 3, 1) := by decide +kernel
theorem dX8_least_21 : decode cX8_least 21 = .ok (.iload_n 3, 1) := by decide +kernel
theorem dX8_least_22 : decode cX8_least 22 = .ok (.bipush 9, 2) := by decide +kernel
theorem dX8_least_24 : decode cX8_least 24 = .ok (.if_icmp .gt 29, 3) := by decide +kernel
theorem dX8_least_27 : decode cX8_least 27 = .ok (.aload_n 0, 1) := by decide +kernel
theorem dX8_least_28 : decode cX8_least 28 = .ok (.getfield 21, 3) := by decide +kernel
theorem dX8_least_31 : decode cX8_least 31 = .ok (.iload_n 1, 1) := by decide +kernel
theorem dX8_least_32 : decode cX8_least 32 = .ok (.aload_n 0, 1) := by decide +kernel
theorem dX8_least_33 : decode cX8_least 33 = .ok (.iload_n 1, 1) := by decide +kernel
theorem dX8_least_34 : decode cX8_least 34 = .ok (.iload_n 3, 1) := by decide +kernel
theorem dX8_least_35 : decode cX8_least 35 = .ok (.invokevirtual 225, 3) := by decide +kernel
theorem dX8_least_38 : decode cX8_least 38 = .ok (.invokevirtual 228, 3) := by decide +kernel
theorem dX8_least_41 : decode cX8_least 41 = .ok (.iload_n 2, 1) := by decide +kernel
theorem dX8_least_42 : decode cX8_least 42 = .ok (.if_icmp .lt 5, 3) := by decide +kernel
theorem dX8_least_45 : decode cX8_least 45 = .ok (.iload_n 3, 1) := by decide +kernel
theorem dX8_least_46 : decode cX8_least 46 = .ok (.ireturn, 1) := by decide +kernel
theorem dX8_least_47 : decode cX8_least 47 = .ok (.iinc 3 1, 3) := by decide +kernel
theorem dX8_least_50 : decode cX8_least 50 = .ok (.goto (-29), 3) := by decide +kernel
theorem dX8_least_53 : decode cX8_least 53 = .ok (.bipush (-9), 2) := by decide +kernel
theorem dX8_least_55 : decode cX8_least 55 = .ok (.ireturn, 1) := by decide +kernel
set_option maxRecDepth 20000 in
theorem w_X8_least_b17 {w : zWd} {X : zX} {l0 : Launch} {r : Int32} {S1 : zMem} (C : zC LC w X l0 cX8_least RX8 4 4 (some .int)) {S : zMem} {ls : Array Slot} (hl : lv_has ls 4 []) (h : X8_least_b17  S = some (r, S1)) : zV LC w X (some (.int r)) S1 S 17 ls [] := by
  unfold X8_least_b17 at h
  refine v_iconst 17 C (v := (-1 : Int32)) dX8_least_17 (by decide) ?_
  exact v_ireturn 18 C dX8_least_18 h
set_option maxRecDepth 20000 in
theorem w_X8_least_b21 {w : zWd} {X : zX} {l0 : Launch} {r : Int32} {S1 : zMem} (C : zC LC w X l0 cX8_least RX8 4 4 (some .int)) {k21 : Int32 → Int32 → Int32 → zMem → Option (Int32 × zMem)} (hc21 : ∀ (x1 : Int32) (x2 : Int32) (x3 : Int32) (S : zMem) (ls : Array Slot), lv_has ls 4 [(0, .ref (w.2.2.1 0)), (1, .int x1), (2, .int x2), (3, .int x3)] → k21 x1 x2 x3 S = some (r, S1) → zV LC w X (some (.int r)) S1 S 21 ls []) {x1 : Int32} {x2 : Int32} {x3 : Int32} {S : zMem} {ls : Array Slot} (hl : lv_has ls 4 [(0, .ref (w.2.2.1 0)), (1, .int x1), (2, .int x2), (3, .int x3)]) (h : X8_least_b21 k21 x1 x2 x3 S = some (r, S1)) : zV LC w X (some (.int r)) S1 S 21 ls [] := by
  unfold X8_least_b21 at h
  refine v_iload_n 21 C dX8_least_21 rfl (lv_at hl 3 rfl) ?_
  refine v_bipush 22 C (v := (9 : Int32)) dX8_least_22 (by decide) ?_
  refine v_icmp_gt 24 53 C dX8_least_24 (by decide) h (fun h => ?_) (fun h => ?_)
  · refine v_bipush 53 C (v := (-9 : Int32)) dX8_least_53 (by decide) ?_
    exact v_ireturn 55 C dX8_least_55 h
  · refine v_aload_n 27 C dX8_least_27 rfl (lv_at hl 0 rfl) ?_
    refine v_getr 28 (24) C dX8_least_28 fl_X8_21 rfl kC_0 rfl ?_
    refine v_iload_n 31 C dX8_least_31 rfl (lv_at hl 1 rfl) ?_
    refine v_aload_n 32 C dX8_least_32 rfl (lv_at hl 0 rfl) ?_
    refine v_iload_n 33 C dX8_least_33 rfl (lv_at hl 1 rfl) ?_
    refine v_iload_n 34 C dX8_least_34 rfl (lv_at hl 3 rfl) ?_
    obtain ⟨v1, S, hc, h⟩ := zb_e h
    refine v_callVi 35 C (ci := 7) [.int x1, .ref (w.2.2.1 24)] dX8_least_35 ml_X8_225 hy_X8_arrivingWith (c_X8_arrivingWith  hc) (by decide) rfl hl.1 kC_0 rfl (Nat.le_of_ble_eq_true rfl) rfl ?_
    obtain ⟨v2, S, hc, h⟩ := zb_e h
    refine v_callVi 38 C (ci := 5) [] dX8_least_38 ml_X8_228 hy_X6_warmth (c_X6_warmth  hc) (by decide) rfl hl.1 kC_24 rfl (Nat.le_of_ble_eq_true rfl) rfl ?_
    refine v_iload_n 41 C dX8_least_41 rfl (lv_at hl 2 rfl) ?_
    refine v_icmp_lt 42 47 C dX8_least_42 (by decide) h (fun h => ?_) (fun h => ?_)
    · refine v_iinc 47 C (nn := (1 : Int32)) (fun v => [(3, .int v), (0, .ref (w.2.2.1 0)), (1, .int x1), (2, .int x2)]) dX8_least_47 hl (k := 3) rfl (by decide) (by decide) (fun _ => rfl) h (fun v3 ls hl h => ?_)
      refine v_goto 50 21 C dX8_least_50 (by decide) ?_
      exact hc21 _ _ _ _ _ (lv_sub hl [1, 2, 3, 0] rfl) h
    · refine v_iload_n 45 C dX8_least_45 rfl (lv_at hl 3 rfl) ?_
      exact v_ireturn 46 C dX8_least_46 h
theorem w_X8_least_l21 {w : zWd} {X : zX} {l0 : Launch} {r : Int32} {S1 : zMem} (C : zC LC w X l0 cX8_least RX8 4 4 (some .int)) : ∀ (n : Nat) (x1 : Int32) (x2 : Int32) (x3 : Int32) (S : zMem) (ls : Array Slot), lv_has ls 4 [(0, .ref (w.2.2.1 0)), (1, .int x1), (2, .int x2), (3, .int x3)] → X8_least_l21 n x1 x2 x3 S = some (r, S1) → zV LC w X (some (.int r)) S1 S 21 ls [] := by
  intro n
  induction n with
  | zero =>
    intro x1 x2 x3 S ls hl h
    cases (show (none : Option (Int32 × zMem)) = some _ from h)
  | succ n ih =>
    intro x1 x2 x3 S ls hl h
    exact w_X8_least_b21 C ih hl h
set_option maxRecDepth 20000 in
theorem w_X8_least_b0 {w : zWd} {X : zX} {l0 : Launch} {r : Int32} {S1 : zMem} (C : zC LC w X l0 cX8_least RX8 4 4 (some .int)) {x1 : Int32} {x2 : Int32} {S : zMem} {ls : Array Slot} (hl : lv_has ls 4 [(0, .ref (w.2.2.1 0)), (1, .int x1), (2, .int x2)]) (h : X8_least_b0 x1 x2 S = some (r, S1)) : zV LC w X (some (.int r)) S1 S 0 ls [] := by
  unfold X8_least_b0 at h
  refine v_aload_n 0 C dX8_least_0 rfl (lv_at hl 0 rfl) ?_
  refine v_iload_n 1 C dX8_least_1 rfl (lv_at hl 1 rfl) ?_
  obtain ⟨v1, S, hc, h⟩ := zb_e h
  refine v_callVi 2 C (ci := 7) [] dX8_least_2 ml_X8_159 hy_X8_isLetter (c_X8_isLetter  hc) (by decide) rfl hl.1 kC_0 rfl (Nat.le_of_ble_eq_true rfl) rfl ?_
  refine v_if_eq 5 17 C dX8_least_5 (by decide) h (fun h => ?_) (fun h => ?_)
  · exact w_X8_least_b17 C (lv_sub hl [] rfl) h
  · refine v_iload_n 8 C dX8_least_8 rfl (lv_at hl 2 rfl) ?_
    refine v_bipush 9 C (v := (9 : Int32)) dX8_least_9 (by decide) ?_
    obtain ⟨v2, S, hc, h⟩ := zb_e h
    refine v_callSi 11 C [] dX8_least_11 ml_X8_152 hy_X8_within (c_X8_within  hc) (by decide) rfl hl.1 (Nat.le_of_ble_eq_true rfl) rfl ?_
    refine v_if_ne 14 19 C dX8_least_14 (by decide) h (fun h => ?_) (fun h => ?_)
    · refine v_iconst 19 C (v := (0 : Int32)) dX8_least_19 (by decide) ?_
      refine v_istore_n 20 C [(3, .int (0 : Int32)), (0, .ref (w.2.2.1 0)), (1, .int x1), (2, .int x2)] dX8_least_20 rfl hl (by decide) rfl (fun ls hl => ?_)
      exact w_X8_least_l21 C zF _ _ _ _ _ (lv_sub hl [1, 2, 3, 0] rfl) h
    · exact w_X8_least_b17 C (lv_sub hl [] rfl) h
theorem c_X8_least {w : zWd} {l0 : Launch} {x1 : Int32} {x2 : Int32} {S S1 : zMem} {r : Int32} (h : f_X8_least x1 x2 S = some (r, S1)) : zMet LC w l0 yX8_least cX8_least 4 (some .int) 4 [.ref (w.2.2.1 0), .int x1, .int x2] S (some (.int r)) S1 :=
  zMet_of (by decide +kernel) (Nat.le_of_ble_eq_true rfl) (fun X ls C hl => w_X8_least_b0 C hl h)
theorem dX6_allLetters_0 : decode cX6_allLetters 0 = .ok (.iconst 1, 1) := by decide +kernel
theorem dX6_allLetters_1 : decode cX6_allLetters 1 = .ok (.aload_n 0, 1) := by decide +kernel
theorem dX6_allLetters_2 : decode cX6_allLetters 2 = .ok (.getfield 28, 3) := by decide +kernel
theorem dX6_allLetters_5 : decode cX6_allLetters 5 = .ok (.ishl, 1) := by decide +kernel
theorem dX6_allLetters_6 : decode cX6_allLetters 6 = .ok (.iconst 1, 1) := by decide +kernel
theorem dX6_allLetters_7 : decode cX6_allLetters 7 = .ok (.isub, 1) := by decide +kernel
theorem dX6_allLetters_8 : decode cX6_allLetters 8 = .ok (.ireturn, 1) := by decide +kernel
set_option maxRecDepth 20000 in
theorem w_X6_allLetters_b0 {w : zWd} {X : zX} {l0 : Launch} {r : Int32} {S1 : zMem} (C : zC LC w X l0 cX6_allLetters RX6 1 1 (some .int)) {S : zMem} {ls : Array Slot} (hl : lv_has ls 1 [(0, .ref (w.2.2.1 24))]) (h : X6_allLetters_b0  S = some (r, S1)) : zV LC w X (some (.int r)) S1 S 0 ls [] := by
  unfold X6_allLetters_b0 at h
  refine v_iconst 0 C (v := (1 : Int32)) dX6_allLetters_0 (by decide) ?_
  refine v_aload_n 1 C dX6_allLetters_1 rfl (lv_at hl 0 rfl) ?_
  refine v_geti 2 C dX6_allLetters_2 fl_X6_28 rfl kC_24 h (fun v1 h => ?_)
  refine v_ishl 5 C dX6_allLetters_5 h (fun v2 h => ?_)
  refine v_iconst 6 C (v := (1 : Int32)) dX6_allLetters_6 (by decide) ?_
  refine v_isub 7 C dX6_allLetters_7 h (fun v3 h => ?_)
  exact v_ireturn 8 C dX6_allLetters_8 h
theorem c_X6_allLetters {w : zWd} {l0 : Launch} {S S1 : zMem} {r : Int32} (h : f_X6_allLetters  S = some (r, S1)) : zMet LC w l0 yX6_allLetters cX6_allLetters 1 (some .int) 1 [.ref (w.2.2.1 24)] S (some (.int r)) S1 :=
  zMet_of (by decide +kernel) (Nat.le_of_ble_eq_true rfl) (fun X ls C hl => w_X6_allLetters_b0 C hl h)
theorem fl_X3_29 : zFL RX3 29 2 4 := ⟨_, rfl, by decide, zT_of (List.mem_of_getElem? (i := 232) (by decide +kernel)) rfl⟩
theorem fp_2_4 : zFP 2 4 .int := fun q h => by cases h; exact ⟨rfl, by decide +kernel⟩
theorem fl_X3_9 : zFL RX3 9 2 1 := ⟨_, rfl, by decide, zT_of (List.mem_of_getElem? (i := 227) (by decide +kernel)) rfl⟩
theorem fl_X3_15 : zFL RX3 15 2 2 := ⟨_, rfl, by decide, zT_of (List.mem_of_getElem? (i := 229) (by decide +kernel)) rfl⟩
theorem ml_X3_42 : Cond.methodLink RX3 42 arraycopyName ∈ zT := zT_of (List.mem_of_getElem? (i := 676) (by decide +kernel)) rfl
theorem fl_X3_18 : zFL RX3 18 2 0 := ⟨_, rfl, by decide, zT_of (List.mem_of_getElem? (i := 226) (by decide +kernel)) rfl⟩
theorem fl_X3_48 : zFL RX3 48 5 5 := ⟨_, rfl, by decide, zT_of (List.mem_of_getElem? (i := 120) (by decide +kernel)) rfl⟩
theorem fl_X3_28 : zFL RX3 28 2 3 := ⟨_, rfl, by decide, zT_of (List.mem_of_getElem? (i := 231) (by decide +kernel)) rfl⟩
theorem ml_X3_53 : Cond.methodLink RX3 53 yX6_moodAtDoor ∈ zT := zT_of (List.mem_of_getElem? (i := 677) (by decide +kernel)) rfl
theorem ml_X3_57 : Cond.methodLink RX3 57 yX6_warmth ∈ zT := zT_of (List.mem_of_getElem? (i := 678) (by decide +kernel)) rfl
theorem ml_X3_61 : Cond.methodLink RX3 61 yX6_moodBehind ∈ zT := zT_of (List.mem_of_getElem? (i := 679) (by decide +kernel)) rfl
theorem fl_X3_65 : zFL RX3 65 5 2 := ⟨_, rfl, by decide, zT_of (List.mem_of_getElem? (i := 106) (by decide +kernel)) rfl⟩
theorem ml_X3_38 : Cond.methodLink RX3 38 yX3_tryWarmer ∈ zT := zT_of (List.mem_of_getElem? (i := 672) (by decide +kernel)) rfl
theorem hy_X3_tryWarmer : zYv yX3_tryWarmer cX3_tryWarmer 10 none 5 := ⟨⟨zT_of (List.mem_of_getElem? (i := 675) (by decide +kernel)) rfl, zT_of (List.mem_of_getElem? (i := 74) (by decide +kernel)) rfl, by decide, by decide +kernel, by decide +kernel, by decide +kernel⟩, zT_of (List.mem_of_getElem? (i := 674) (by decide +kernel)) rfl, zT_of (List.mem_of_getElem? (i := 12) (by decide +kernel)) rfl⟩
theorem dX3_tryWarmer_0 : decode cX3_tryWarmer 0 = .ok (.iload_n 2, 1) := by decide +kernel
theorem dX3_tryWarmer_1 : decode cX3_tryWarmer 1 = .ok (.ifCond .eq 9, 3) := by decide +kernel
theorem dX3_tryWarmer_4 : decode cX3_tryWarmer 4 = .ok (.iload_n 1, 1) := by decide +kernel
theorem dX3_tryWarmer_5 : decode cX3_tryWarmer 5 = .ok (.bipush 6, 2) := by decide +kernel
theorem dX3_tryWarmer_7 : decode cX3_tryWarmer 7 = .ok (.if_icmp .lt 34, 3) := by decide +kernel
theorem dX3_tryWarmer_10 : decode cX3_tryWarmer 10 = .ok (.iload 5, 2) := by decide +kernel
theorem dX3_tryWarmer_12 : decode cX3_tryWarmer 12 = .ok (.aload_n 0, 1) := by decide +kernel
theorem dX3_tryWarmer_13 : decode cX3_tryWarmer 13 = .ok (.getfield 29, 3) := by decide +kernel
theorem dX3_tryWarmer_16 : decode cX3_tryWarmer 16 = .ok (.if_icmp .le 24, 3) := by decide +kernel
theorem dX3_tryWarmer_19 : decode cX3_tryWarmer 19 = .ok (.aload_n 0, 1) := by decide +kernel
theorem dX3_tryWarmer_20 : decode cX3_tryWarmer 20 = .ok (.iload 5, 2) := by decide +kernel
theorem dX3_tryWarmer_22 : decode cX3_tryWarmer 22 = .ok (.putfield 29, 3) := by decide +kernel
theorem dX3_tryWarmer_25 : decode cX3_tryWarmer 25 = .ok (.aload_n 0, 1) := by decide +kernel
theorem dX3_tryWarmer_26 : decode cX3_tryWarmer 26 = .ok (.getfield 9, 3) := by decide +kernel
theorem dX3_tryWarmer_29 : decode cX3_tryWarmer 29 = .ok (.iconst 0, 1) := by decide +kernel
theorem dX3_tryWarmer_30 : decode cX3_tryWarmer 30 = .ok (.aload_n 0, 1) := by decide +kernel
theorem dX3_tryWarmer_31 : decode cX3_tryWarmer 31 = .ok (.getfield 15, 3) := by decide +kernel
theorem dX3_tryWarmer_34 : decode cX3_tryWarmer 34 = .ok (.iconst 0, 1) := by decide +kernel
theorem dX3_tryWarmer_35 : decode cX3_tryWarmer 35 = .ok (.bipush 6, 2) := by decide +kernel
theorem dX3_tryWarmer_37 : decode cX3_tryWarmer 37 = .ok (.invokestatic 42, 3) := by decide +kernel
theorem dX3_tryWarmer_40 : decode cX3_tryWarmer 40 = .ok (.return_, 1) := by decide +kernel
theorem dX3_tryWarmer_41 : decode cX3_tryWarmer 41 = .ok (.iconst 0, 1) := by decide +kernel
theorem dX3_tryWarmer_42 : decode cX3_tryWarmer 42 = .ok (.istore 6, 2) := by decide +kernel
theorem dX3_tryWarmer_44 : decode cX3_tryWarmer 44 = .ok (.iload 6, 2) := by decide +kernel
theorem dX3_tryWarmer_46 : decode cX3_tryWarmer 46 = .ok (.aload_n 0, 1) := by decide +kernel
theorem dX3_tryWarmer_47 : decode cX3_tryWarmer 47 = .ok (.getfield 18, 3) := by decide +kernel
theorem dX3_tryWarmer_50 : decode cX3_tryWarmer 50 = .ok (.getfield 48, 3) := by decide +kernel
theorem dX3_tryWarmer_53 : decode cX3_tryWarmer 53 = .ok (.if_icmp .ge 104, 3) := by decide +kernel
theorem dX3_tryWarmer_56 : decode cX3_tryWarmer 56 = .ok (.iload_n 2, 1) := by decide +kernel
theorem dX3_tryWarmer_57 : decode cX3_tryWarmer 57 = .ok (.iload 6, 2) := by decide +kernel
theorem dX3_tryWarmer_59 : decode cX3_tryWarmer 59 = .ok (.ishr, 1) := by decide +kernel
theorem dX3_tryWarmer_60 : decode cX3_tryWarmer 60 = .ok (.iconst 1, 1) := by decide +kernel
theorem dX3_tryWarmer_61 : decode cX3_tryWarmer 61 = .ok (.iand, 1) := by decide +kernel
theorem dX3_tryWarmer_62 : decode cX3_tryWarmer 62 = .ok (.ifCond .eq 89, 3) := by decide +kernel
theorem dX3_tryWarmer_65 : decode cX3_tryWarmer 65 = .ok (.aload_n 0, 1) := by decide +kernel
theorem dX3_tryWarmer_66 : decode cX3_tryWarmer 66 = .ok (.getfield 9, 3) := by decide +kernel
theorem dX3_tryWarmer_69 : decode cX3_tryWarmer 69 = .ok (.iload_n 1, 1) := by decide +kernel
theorem dX3_tryWarmer_70 : decode cX3_tryWarmer 70 = .ok (.iload 6, 2) := by decide +kernel
theorem dX3_tryWarmer_72 : decode cX3_tryWarmer 72 = .ok (.iastore, 1) := by decide +kernel
theorem dX3_tryWarmer_73 : decode cX3_tryWarmer 73 = .ok (.aload_n 0, 1) := by decide +kernel
theorem dX3_tryWarmer_74 : decode cX3_tryWarmer 74 = .ok (.getfield 18, 3) := by decide +kernel
theorem dX3_tryWarmer_77 : decode cX3_tryWarmer 77 = .ok (.iload 6, 2) := by decide +kernel
theorem dX3_tryWarmer_79 : decode cX3_tryWarmer 79 = .ok (.iload_n 3, 1) := by decide +kernel
theorem dX3_tryWarmer_80 : decode cX3_tryWarmer 80 = .ok (.iload 4, 2) := by decide +kernel
theorem dX3_tryWarmer_82 : decode cX3_tryWarmer 82 = .ok (.aload_n 0, 1) := by decide +kernel
theorem dX3_tryWarmer_83 : decode cX3_tryWarmer 83 = .ok (.getfield 28, 3) := by decide +kernel
theorem dX3_tryWarmer_86 : decode cX3_tryWarmer 86 = .ok (.invokevirtual 53, 3) := by decide +kernel
theorem dX3_tryWarmer_89 : decode cX3_tryWarmer 89 = .ok (.istore 7, 2) := by decide +kernel
theorem dX3_tryWarmer_91 : decode cX3_tryWarmer 91 = .ok (.aload_n 0, 1) := by decide +kernel
theorem dX3_tryWarmer_92 : decode cX3_tryWarmer 92 = .ok (.getfield 18, 3) := by decide +kernel
theorem dX3_tryWarmer_95 : decode cX3_tryWarmer 95 = .ok (.iload 6, 2) := by decide +kernel
theorem dX3_tryWarmer_97 : decode cX3_tryWarmer 97 = .ok (.iload 7, 2) := by decide +kernel
theorem dX3_tryWarmer_99 : decode cX3_tryWarmer 99 = .ok (.invokevirtual 57, 3) := by decide +kernel
theorem dX3_tryWarmer_102 : decode cX3_tryWarmer 102 = .ok (.istore 8, 2) := by decide +kernel
theorem dX3_tryWarmer_104 : decode cX3_tryWarmer 104 = .ok (.aload_n 0, 1) := by decide +kernel
theorem dX3_tryWarmer_105 : decode cX3_tryWarmer 105 = .ok (.getfield 18, 3) := by decide +kernel
theorem dX3_tryWarmer_108 : decode cX3_tryWarmer 108 = .ok (.iload 6, 2) := by decide +kernel
theorem dX3_tryWarmer_110 : decode cX3_tryWarmer 110 = .ok (.iload 7, 2) := by decide +kernel
theorem dX3_tryWarmer_112 : decode cX3_tryWarmer 112 = .ok (.iload 8, 2) := by decide +kernel
theorem dX3_tryWarmer_114 : decode cX3_tryWarmer 114 = .ok (.invokevirtual 61, 3) := by decide +kernel
theorem dX3_tryWarmer_117 : decode cX3_tryWarmer 117 = .ok (.istore 9, 2) := by decide +kernel
theorem dX3_tryWarmer_119 : decode cX3_tryWarmer 119 = .ok (.aload_n 0, 1) := by decide +kernel
theorem dX3_tryWarmer_120 : decode cX3_tryWarmer 120 = .ok (.iload_n 1, 1) := by decide +kernel
theorem dX3_tryWarmer_121 : decode cX3_tryWarmer 121 = .ok (.iconst 1, 1) := by decide +kernel
theorem dX3_tryWarmer_122 : decode cX3_tryWarmer 122 = .ok (.iadd, 1) := by decide +kernel
theorem dX3_tryWarmer_123 : decode cX3_tryWarmer 123 = .ok (.iload_n 2, 1) := by decide +kernel
theorem dX3_tryWarmer_124 : decode cX3_tryWarmer 124 = .ok (.iconst 1, 1) := by decide +kernel
theorem dX3_tryWarmer_125 : decode cX3_tryWarmer 125 = .ok (.iload 6, 2) := by decide +kernel
theorem dX3_tryWarmer_127 : decode cX3_tryWarmer 127 = .ok (.ishl, 1) := by decide +kernel
theorem dX3_tryWarmer_128 : decode cX3_tryWarmer 128 = .ok (.iconst (-1), 1) := by decide +kernel
theorem dX3_tryWarmer_129 : decode cX3_tryWarmer 129 = .ok (.ixor, 1) := by decide +kernel
theorem dX3_tryWarmer_130 : decode cX3_tryWarmer 130 = .ok (.iand, 1) := by decide +kernel
theorem dX3_tryWarmer_131 : decode cX3_tryWarmer 131 = .ok (.iload 9, 2) := by decide +kernel
theorem dX3_tryWarmer_133 : decode cX3_tryWarmer 133 = .ok (.aload_n 0, 1) := by decide +kernel
theorem dX3_tryWarmer_134 : decode cX3_tryWarmer 134 = .ok (.getfield 18, 3) := by decide +kernel
theorem dX3_tryWarmer_137 : decode cX3_tryWarmer 137 = .ok (.getfield 65, 3) := by decide +kernel
theorem dX3_tryWarmer_140 : decode cX3_tryWarmer 140 = .ok (.iload 6, 2) := by decide +kernel
theorem dX3_tryWarmer_142 : decode cX3_tryWarmer 142 = .ok (.iaload, 1) := by decide +kernel
theorem dX3_tryWarmer_143 : decode cX3_tryWarmer 143 = .ok (.iload 5, 2) := by decide +kernel
theorem dX3_tryWarmer_145 : decode cX3_tryWarmer 145 = .ok (.iload 8, 2) := by decide +kernel
theorem dX3_tryWarmer_147 : decode cX3_tryWarmer 147 = .ok (.iadd, 1) := by decide +kernel
theorem dX3_tryWarmer_148 : decode cX3_tryWarmer 148 = .ok (.invokevirtual 38, 3) := by decide +kernel
theorem dX3_tryWarmer_151 : decode cX3_tryWarmer 151 = .ok (.iinc 6 1, 3) := by decide +kernel
theorem dX3_tryWarmer_154 : decode cX3_tryWarmer 154 = .ok (.goto (-110), 3) := by decide +kernel
theorem dX3_tryWarmer_157 : decode cX3_tryWarmer 157 = .ok (.return_, 1) := by decide +kernel
set_option maxRecDepth 20000 in
theorem w_X3_tryWarmer_b40 {w : zWd} {X : zX} {l0 : Launch} {r : Unit} {S1 : zMem} {d : Nat} (C : zC LC w X l0 cX3_tryWarmer RX3 10 (3 + d + 1) none) {rec : Int32 → Int32 → Int32 → Int32 → Int32 → zMem → Option (Unit × zMem)} (hrec : ∀ (x1 : Int32) (x2 : Int32) (x3 : Int32) (x4 : Int32) (x5 : Int32) (S : zMem) (r : Unit) (S1 : zMem), rec x1 x2 x3 x4 x5 S = some (r, S1) → zMet LC w l0 yX3_tryWarmer cX3_tryWarmer 10 none (3 + d) [.ref (w.2.2.1 60), .int x1, .int x2, .int x3, .int x4, .int x5] S none S1) {S : zMem} {ls : Array Slot} (hl : lv_has ls 10 []) (h : X3_tryWarmer_b40 rec  S = some (r, S1)) : zV LC w X none S1 S 40 ls [] := by
  unfold X3_tryWarmer_b40 at h
  exact v_return 40 C dX3_tryWarmer_40 h
set_option maxRecDepth 20000 in
theorem w_X3_tryWarmer_b10 {w : zWd} {X : zX} {l0 : Launch} {r : Unit} {S1 : zMem} {d : Nat} (C : zC LC w X l0 cX3_tryWarmer RX3 10 (3 + d + 1) none) {rec : Int32 → Int32 → Int32 → Int32 → Int32 → zMem → Option (Unit × zMem)} (hrec : ∀ (x1 : Int32) (x2 : Int32) (x3 : Int32) (x4 : Int32) (x5 : Int32) (S : zMem) (r : Unit) (S1 : zMem), rec x1 x2 x3 x4 x5 S = some (r, S1) → zMet LC w l0 yX3_tryWarmer cX3_tryWarmer 10 none (3 + d) [.ref (w.2.2.1 60), .int x1, .int x2, .int x3, .int x4, .int x5] S none S1) {x5 : Int32} {S : zMem} {ls : Array Slot} (hl : lv_has ls 10 [(0, .ref (w.2.2.1 60)), (5, .int x5)]) (h : X3_tryWarmer_b10 rec x5 S = some (r, S1)) : zV LC w X none S1 S 10 ls [] := by
  unfold X3_tryWarmer_b10 at h
  refine v_iload 10 C dX3_tryWarmer_10 (lv_at hl 1 rfl) ?_
  refine v_aload_n 12 C dX3_tryWarmer_12 rfl (lv_at hl 0 rfl) ?_
  refine v_geti 13 C dX3_tryWarmer_13 fl_X3_29 rfl kC_60 h (fun v1 h => ?_)
  refine v_icmp_le 16 40 C dX3_tryWarmer_16 (by decide) h (fun h => ?_) (fun h => ?_)
  · exact w_X3_tryWarmer_b40 C hrec (lv_sub hl [] rfl) h
  · refine v_aload_n 19 C dX3_tryWarmer_19 rfl (lv_at hl 0 rfl) ?_
    refine v_iload 20 C dX3_tryWarmer_20 (lv_at hl 1 rfl) ?_
    refine v_puti 22 C dX3_tryWarmer_22 fl_X3_29 fp_2_4 rfl kC_60 h (fun S h => ?_)
    refine v_aload_n 25 C dX3_tryWarmer_25 rfl (lv_at hl 0 rfl) ?_
    refine v_getr 26 (61) C dX3_tryWarmer_26 fl_X3_9 rfl kC_60 rfl ?_
    refine v_iconst 29 C (v := (0 : Int32)) dX3_tryWarmer_29 (by decide) ?_
    refine v_aload_n 30 C dX3_tryWarmer_30 rfl (lv_at hl 0 rfl) ?_
    refine v_getr 31 (62) C dX3_tryWarmer_31 fl_X3_15 rfl kC_60 rfl ?_
    refine v_iconst 34 C (v := (0 : Int32)) dX3_tryWarmer_34 (by decide) ?_
    refine v_bipush 35 C (v := (6 : Int32)) dX3_tryWarmer_35 (by decide) ?_
    refine v_copy 37 C dX3_tryWarmer_37 ml_X3_42 hl.1 (by omega) (Nat.le_of_ble_eq_true rfl) kC_61 kC_62 rfl rfl h (fun S h => ?_)
    exact w_X3_tryWarmer_b40 C hrec (lv_sub hl [] rfl) h
set_option maxRecDepth 20000 in
theorem w_X3_tryWarmer_b151 {w : zWd} {X : zX} {l0 : Launch} {r : Unit} {S1 : zMem} {d : Nat} (C : zC LC w X l0 cX3_tryWarmer RX3 10 (3 + d + 1) none) {rec : Int32 → Int32 → Int32 → Int32 → Int32 → zMem → Option (Unit × zMem)} (hrec : ∀ (x1 : Int32) (x2 : Int32) (x3 : Int32) (x4 : Int32) (x5 : Int32) (S : zMem) (r : Unit) (S1 : zMem), rec x1 x2 x3 x4 x5 S = some (r, S1) → zMet LC w l0 yX3_tryWarmer cX3_tryWarmer 10 none (3 + d) [.ref (w.2.2.1 60), .int x1, .int x2, .int x3, .int x4, .int x5] S none S1) {k44 : Int32 → Int32 → Int32 → Int32 → Int32 → Int32 → zMem → Option (Unit × zMem)} (hc44 : ∀ (x1 : Int32) (x2 : Int32) (x3 : Int32) (x4 : Int32) (x5 : Int32) (x6 : Int32) (S : zMem) (ls : Array Slot), lv_has ls 10 [(0, .ref (w.2.2.1 60)), (1, .int x1), (2, .int x2), (3, .int x3), (4, .int x4), (5, .int x5), (6, .int x6)] → k44 x1 x2 x3 x4 x5 x6 S = some (r, S1) → zV LC w X none S1 S 44 ls []) {x1 : Int32} {x2 : Int32} {x3 : Int32} {x4 : Int32} {x5 : Int32} {x6 : Int32} {S : zMem} {ls : Array Slot} (hl : lv_has ls 10 [(0, .ref (w.2.2.1 60)), (1, .int x1), (2, .int x2), (3, .int x3), (4, .int x4), (5, .int x5), (6, .int x6)]) (h : X3_tryWarmer_b151 rec k44 x1 x2 x3 x4 x5 x6 S = some (r, S1)) : zV LC w X none S1 S 151 ls [] := by
  unfold X3_tryWarmer_b151 at h
  refine v_iinc 151 C (nn := (1 : Int32)) (fun v => [(6, .int v), (0, .ref (w.2.2.1 60)), (1, .int x1), (2, .int x2), (3, .int x3), (4, .int x4), (5, .int x5)]) dX3_tryWarmer_151 hl (k := 6) rfl (by decide) (by decide) (fun _ => rfl) h (fun v1 ls hl h => ?_)
  refine v_goto 154 44 C dX3_tryWarmer_154 (by decide) ?_
  exact hc44 _ _ _ _ _ _ _ _ (lv_sub hl [1, 2, 3, 4, 5, 6, 0] rfl) h
set_option maxRecDepth 20000 in
theorem w_X3_tryWarmer_b44 {w : zWd} {X : zX} {l0 : Launch} {r : Unit} {S1 : zMem} {d : Nat} (C : zC LC w X l0 cX3_tryWarmer RX3 10 (3 + d + 1) none) {rec : Int32 → Int32 → Int32 → Int32 → Int32 → zMem → Option (Unit × zMem)} (hrec : ∀ (x1 : Int32) (x2 : Int32) (x3 : Int32) (x4 : Int32) (x5 : Int32) (S : zMem) (r : Unit) (S1 : zMem), rec x1 x2 x3 x4 x5 S = some (r, S1) → zMet LC w l0 yX3_tryWarmer cX3_tryWarmer 10 none (3 + d) [.ref (w.2.2.1 60), .int x1, .int x2, .int x3, .int x4, .int x5] S none S1) {k44 : Int32 → Int32 → Int32 → Int32 → Int32 → Int32 → zMem → Option (Unit × zMem)} (hc44 : ∀ (x1 : Int32) (x2 : Int32) (x3 : Int32) (x4 : Int32) (x5 : Int32) (x6 : Int32) (S : zMem) (ls : Array Slot), lv_has ls 10 [(0, .ref (w.2.2.1 60)), (1, .int x1), (2, .int x2), (3, .int x3), (4, .int x4), (5, .int x5), (6, .int x6)] → k44 x1 x2 x3 x4 x5 x6 S = some (r, S1) → zV LC w X none S1 S 44 ls []) {x1 : Int32} {x2 : Int32} {x3 : Int32} {x4 : Int32} {x5 : Int32} {x6 : Int32} {S : zMem} {ls : Array Slot} (hl : lv_has ls 10 [(0, .ref (w.2.2.1 60)), (1, .int x1), (2, .int x2), (3, .int x3), (4, .int x4), (5, .int x5), (6, .int x6)]) (h : X3_tryWarmer_b44 rec k44 x1 x2 x3 x4 x5 x6 S = some (r, S1)) : zV LC w X none S1 S 44 ls [] := by
  unfold X3_tryWarmer_b44 at h
  refine v_iload 44 C dX3_tryWarmer_44 (lv_at hl 6 rfl) ?_
  refine v_aload_n 46 C dX3_tryWarmer_46 rfl (lv_at hl 0 rfl) ?_
  refine v_getr 47 (24) C dX3_tryWarmer_47 fl_X3_18 rfl kC_60 rfl ?_
  refine v_geti 50 C dX3_tryWarmer_50 fl_X3_48 rfl kC_24 h (fun v1 h => ?_)
  refine v_icmp_ge 53 157 C dX3_tryWarmer_53 (by decide) h (fun h => ?_) (fun h => ?_)
  · exact v_return 157 C dX3_tryWarmer_157 h
  · refine v_iload_n 56 C dX3_tryWarmer_56 rfl (lv_at hl 2 rfl) ?_
    refine v_iload 57 C dX3_tryWarmer_57 (lv_at hl 6 rfl) ?_
    refine v_ishr 59 C dX3_tryWarmer_59 h (fun v2 h => ?_)
    refine v_iconst 60 C (v := (1 : Int32)) dX3_tryWarmer_60 (by decide) ?_
    refine v_iand 61 C dX3_tryWarmer_61 h (fun v3 h => ?_)
    refine v_if_eq 62 151 C dX3_tryWarmer_62 (by decide) h (fun h => ?_) (fun h => ?_)
    · exact w_X3_tryWarmer_b151 C hrec hc44 (lv_sub hl [0, 1, 2, 3, 4, 5, 6] rfl) h
    · refine v_aload_n 65 C dX3_tryWarmer_65 rfl (lv_at hl 0 rfl) ?_
      refine v_getr 66 (61) C dX3_tryWarmer_66 fl_X3_9 rfl kC_60 rfl ?_
      refine v_iload_n 69 C dX3_tryWarmer_69 rfl (lv_at hl 1 rfl) ?_
      refine v_iload 70 C dX3_tryWarmer_70 (lv_at hl 6 rfl) ?_
      refine v_iast 72 C dX3_tryWarmer_72 kC_61 rfl h (fun S h => ?_)
      refine v_aload_n 73 C dX3_tryWarmer_73 rfl (lv_at hl 0 rfl) ?_
      refine v_getr 74 (24) C dX3_tryWarmer_74 fl_X3_18 rfl kC_60 rfl ?_
      refine v_iload 77 C dX3_tryWarmer_77 (lv_at hl 6 rfl) ?_
      refine v_iload_n 79 C dX3_tryWarmer_79 rfl (lv_at hl 3 rfl) ?_
      refine v_iload 80 C dX3_tryWarmer_80 (lv_at hl 4 rfl) ?_
      refine v_aload_n 82 C dX3_tryWarmer_82 rfl (lv_at hl 0 rfl) ?_
      refine v_geti 83 C dX3_tryWarmer_83 fl_X3_28 rfl kC_60 h (fun v4 h => ?_)
      obtain ⟨v5, S, hc, h⟩ := zb_e h
      refine v_callVi 86 C (ci := 5) [] dX3_tryWarmer_86 ml_X3_53 hy_X6_moodAtDoor (c_X6_moodAtDoor  hc) (by omega) rfl hl.1 kC_24 rfl (Nat.le_of_ble_eq_true rfl) rfl ?_
      refine v_istore 89 C [(7, .int v5), (0, .ref (w.2.2.1 60)), (1, .int x1), (2, .int x2), (3, .int x3), (4, .int x4), (5, .int x5), (6, .int x6)] dX3_tryWarmer_89 hl (by decide) rfl (fun ls hl => ?_)
      refine v_aload_n 91 C dX3_tryWarmer_91 rfl (lv_at hl 1 rfl) ?_
      refine v_getr 92 (24) C dX3_tryWarmer_92 fl_X3_18 rfl kC_60 rfl ?_
      refine v_iload 95 C dX3_tryWarmer_95 (lv_at hl 7 rfl) ?_
      refine v_iload 97 C dX3_tryWarmer_97 (lv_at hl 0 rfl) ?_
      obtain ⟨v6, S, hc, h⟩ := zb_e h
      refine v_callVi 99 C (ci := 5) [] dX3_tryWarmer_99 ml_X3_57 hy_X6_warmth (c_X6_warmth  hc) (by omega) rfl hl.1 kC_24 rfl (Nat.le_of_ble_eq_true rfl) rfl ?_
      refine v_istore 102 C [(8, .int v6), (7, .int v5), (0, .ref (w.2.2.1 60)), (1, .int x1), (2, .int x2), (3, .int x3), (4, .int x4), (5, .int x5), (6, .int x6)] dX3_tryWarmer_102 hl (by decide) rfl (fun ls hl => ?_)
      refine v_aload_n 104 C dX3_tryWarmer_104 rfl (lv_at hl 2 rfl) ?_
      refine v_getr 105 (24) C dX3_tryWarmer_105 fl_X3_18 rfl kC_60 rfl ?_
      refine v_iload 108 C dX3_tryWarmer_108 (lv_at hl 8 rfl) ?_
      refine v_iload 110 C dX3_tryWarmer_110 (lv_at hl 1 rfl) ?_
      refine v_iload 112 C dX3_tryWarmer_112 (lv_at hl 0 rfl) ?_
      obtain ⟨v7, S, hc, h⟩ := zb_e h
      refine v_callVi 114 C (ci := 5) [] dX3_tryWarmer_114 ml_X3_61 hy_X6_moodBehind (c_X6_moodBehind  hc) (by omega) rfl hl.1 kC_24 rfl (Nat.le_of_ble_eq_true rfl) rfl ?_
      refine v_istore 117 C [(9, .int v7), (8, .int v6), (7, .int v5), (0, .ref (w.2.2.1 60)), (1, .int x1), (2, .int x2), (3, .int x3), (4, .int x4), (5, .int x5), (6, .int x6)] dX3_tryWarmer_117 hl (by decide) rfl (fun ls hl => ?_)
      refine v_aload_n 119 C dX3_tryWarmer_119 rfl (lv_at hl 3 rfl) ?_
      refine v_iload_n 120 C dX3_tryWarmer_120 rfl (lv_at hl 4 rfl) ?_
      refine v_iconst 121 C (v := (1 : Int32)) dX3_tryWarmer_121 (by decide) ?_
      refine v_iadd 122 C dX3_tryWarmer_122 h (fun v8 h => ?_)
      refine v_iload_n 123 C dX3_tryWarmer_123 rfl (lv_at hl 5 rfl) ?_
      refine v_iconst 124 C (v := (1 : Int32)) dX3_tryWarmer_124 (by decide) ?_
      refine v_iload 125 C dX3_tryWarmer_125 (lv_at hl 9 rfl) ?_
      refine v_ishl 127 C dX3_tryWarmer_127 h (fun v9 h => ?_)
      refine v_iconst 128 C (v := (-1 : Int32)) dX3_tryWarmer_128 (by decide) ?_
      refine v_ixor 129 C dX3_tryWarmer_129 h (fun v10 h => ?_)
      refine v_iand 130 C dX3_tryWarmer_130 h (fun v11 h => ?_)
      refine v_iload 131 C dX3_tryWarmer_131 (lv_at hl 0 rfl) ?_
      refine v_aload_n 133 C dX3_tryWarmer_133 rfl (lv_at hl 3 rfl) ?_
      refine v_getr 134 (24) C dX3_tryWarmer_134 fl_X3_18 rfl kC_60 rfl ?_
      refine v_getr 137 (27) C dX3_tryWarmer_137 fl_X3_65 rfl kC_24 rfl ?_
      refine v_iload 140 C dX3_tryWarmer_140 (lv_at hl 9 rfl) ?_
      refine v_iald 142 C dX3_tryWarmer_142 kC_27 rfl h (fun v12 h => ?_)
      refine v_iload 143 C dX3_tryWarmer_143 (lv_at hl 8 rfl) ?_
      refine v_iload 145 C dX3_tryWarmer_145 (lv_at hl 1 rfl) ?_
      refine v_iadd 147 C dX3_tryWarmer_147 h (fun v13 h => ?_)
      obtain ⟨v14, S, hc, h⟩ := zb_e h
      refine v_callVv 148 C (ci := 2) [] dX3_tryWarmer_148 ml_X3_38 hy_X3_tryWarmer (hrec _ _ _ _ _ _ _ _  hc) (by omega) rfl hl.1 kC_60 rfl (Nat.le_of_ble_eq_true rfl) rfl ?_
      exact w_X3_tryWarmer_b151 C hrec hc44 (lv_sub hl [3, 4, 5, 6, 7, 8, 9] rfl) h
theorem w_X3_tryWarmer_l44 {w : zWd} {X : zX} {l0 : Launch} {r : Unit} {S1 : zMem} {d : Nat} (C : zC LC w X l0 cX3_tryWarmer RX3 10 (3 + d + 1) none) {rec : Int32 → Int32 → Int32 → Int32 → Int32 → zMem → Option (Unit × zMem)} (hrec : ∀ (x1 : Int32) (x2 : Int32) (x3 : Int32) (x4 : Int32) (x5 : Int32) (S : zMem) (r : Unit) (S1 : zMem), rec x1 x2 x3 x4 x5 S = some (r, S1) → zMet LC w l0 yX3_tryWarmer cX3_tryWarmer 10 none (3 + d) [.ref (w.2.2.1 60), .int x1, .int x2, .int x3, .int x4, .int x5] S none S1) : ∀ (n : Nat) (x1 : Int32) (x2 : Int32) (x3 : Int32) (x4 : Int32) (x5 : Int32) (x6 : Int32) (S : zMem) (ls : Array Slot), lv_has ls 10 [(0, .ref (w.2.2.1 60)), (1, .int x1), (2, .int x2), (3, .int x3), (4, .int x4), (5, .int x5), (6, .int x6)] → X3_tryWarmer_l44 rec n x1 x2 x3 x4 x5 x6 S = some (r, S1) → zV LC w X none S1 S 44 ls [] := by
  intro n
  induction n with
  | zero =>
    intro x1 x2 x3 x4 x5 x6 S ls hl h
    cases (show (none : Option (Unit × zMem)) = some _ from h)
  | succ n ih =>
    intro x1 x2 x3 x4 x5 x6 S ls hl h
    exact w_X3_tryWarmer_b44 C hrec ih hl h
set_option maxRecDepth 20000 in
theorem w_X3_tryWarmer_b0 {w : zWd} {X : zX} {l0 : Launch} {r : Unit} {S1 : zMem} {d : Nat} (C : zC LC w X l0 cX3_tryWarmer RX3 10 (3 + d + 1) none) {rec : Int32 → Int32 → Int32 → Int32 → Int32 → zMem → Option (Unit × zMem)} (hrec : ∀ (x1 : Int32) (x2 : Int32) (x3 : Int32) (x4 : Int32) (x5 : Int32) (S : zMem) (r : Unit) (S1 : zMem), rec x1 x2 x3 x4 x5 S = some (r, S1) → zMet LC w l0 yX3_tryWarmer cX3_tryWarmer 10 none (3 + d) [.ref (w.2.2.1 60), .int x1, .int x2, .int x3, .int x4, .int x5] S none S1) {x1 : Int32} {x2 : Int32} {x3 : Int32} {x4 : Int32} {x5 : Int32} {S : zMem} {ls : Array Slot} (hl : lv_has ls 10 [(0, .ref (w.2.2.1 60)), (1, .int x1), (2, .int x2), (3, .int x3), (4, .int x4), (5, .int x5)]) (h : X3_tryWarmer_b0 rec x1 x2 x3 x4 x5 S = some (r, S1)) : zV LC w X none S1 S 0 ls [] := by
  unfold X3_tryWarmer_b0 at h
  refine v_iload_n 0 C dX3_tryWarmer_0 rfl (lv_at hl 2 rfl) ?_
  refine v_if_eq 1 10 C dX3_tryWarmer_1 (by decide) h (fun h => ?_) (fun h => ?_)
  · exact w_X3_tryWarmer_b10 C hrec (lv_sub hl [0, 5] rfl) h
  · refine v_iload_n 4 C dX3_tryWarmer_4 rfl (lv_at hl 1 rfl) ?_
    refine v_bipush 5 C (v := (6 : Int32)) dX3_tryWarmer_5 (by decide) ?_
    refine v_icmp_lt 7 41 C dX3_tryWarmer_7 (by decide) h (fun h => ?_) (fun h => ?_)
    · refine v_iconst 41 C (v := (0 : Int32)) dX3_tryWarmer_41 (by decide) ?_
      refine v_istore 42 C [(6, .int (0 : Int32)), (0, .ref (w.2.2.1 60)), (1, .int x1), (2, .int x2), (3, .int x3), (4, .int x4), (5, .int x5)] dX3_tryWarmer_42 hl (by decide) rfl (fun ls hl => ?_)
      exact w_X3_tryWarmer_l44 C hrec zF _ _ _ _ _ _ _ _ (lv_sub hl [1, 2, 3, 4, 5, 6, 0] rfl) h
    · exact w_X3_tryWarmer_b10 C hrec (lv_sub hl [0, 5] rfl) h
theorem c_X3_tryWarmer_all {w : zWd} {l0 : Launch} : ∀ d : Nat, ∀ (x1 : Int32) (x2 : Int32) (x3 : Int32) (x4 : Int32) (x5 : Int32) (S : zMem) (r : Unit) (S1 : zMem), f_X3_tryWarmer d x1 x2 x3 x4 x5 S = some (r, S1) → zMet LC w l0 yX3_tryWarmer cX3_tryWarmer 10 none (3 + d) [.ref (w.2.2.1 60), .int x1, .int x2, .int x3, .int x4, .int x5] S none S1 := by
  intro d
  induction d with
  | zero =>
    intro x1 x2 x3 x4 x5 S r S1 h
    cases (show (none : Option (Unit × zMem)) = some _ from h)
  | succ d ih =>
    intro x1 x2 x3 x4 x5 S r S1 h
    exact zMet_of (lev := 3 + d + 1) (by decide +kernel) (Nat.le_of_ble_eq_true rfl) (fun X ls C hl => w_X3_tryWarmer_b0 C ih hl h)
theorem c_X3_tryWarmer {w : zWd} {l0 : Launch} (d : Nat) {x1 : Int32} {x2 : Int32} {x3 : Int32} {x4 : Int32} {x5 : Int32} {S S1 : zMem} {r : Unit} (h : f_X3_tryWarmer d x1 x2 x3 x4 x5 S = some (r, S1)) : zMet LC w l0 yX3_tryWarmer cX3_tryWarmer 10 none (3 + d) [.ref (w.2.2.1 60), .int x1, .int x2, .int x3, .int x4, .int x5] S none S1 := c_X3_tryWarmer_all d _ _ _ _ _ _ _ _ h
