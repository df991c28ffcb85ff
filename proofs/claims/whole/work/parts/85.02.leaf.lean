/-! what letters do: the words of the document as numbers -/
def pW (k w m : Nat) : Nat := if k = 1 then w else if k = 2 then max 5 ((w + m) / 2) else if k = 3 then min 9 (w + m) else if k = 4 then max 5 w else if k = 5 then min 9 (w + m) else (w + m) / 2
def pTurn (k warm mood : Nat) : Nat := if k = 5 then mood else if 6 ≤ warm then min 9 (mood + 1) else if warm ≤ 3 then mood - 1 else mood
def pWalk (mood d we : Nat) : Nat := if we = 0 then mood - d else if we = 2 then min 9 (mood + d) else mood
def pDist (a b : Nat) : Nat := if a ≤ b then b - a else a - b
def pBond (bond warm : Nat) : Nat := min 20 (bond + warm - 5)
theorem pW_le {k w m : Nat} (hw : w ≤ 9) (hm : m ≤ 9) : pW k w m ≤ 9 := by
  unfold pW
  repeat' split
  all_goals omega
theorem pTurn_le {k a m : Nat} (hm : m ≤ 9) : pTurn k a m ≤ 9 := by
  unfold pTurn
  repeat' split
  all_goals omega
theorem pWalk_le {m d e : Nat} (hm : m ≤ 9) : pWalk m d e ≤ 9 := by
  unfold pWalk
  repeat' split
  all_goals omega
theorem pBond_le {a b : Nat} : pBond a b ≤ 20 := by
  unfold pBond
  omega
theorem pDist_le {a b n : Nat} (ha : a ≤ n) (hb : b ≤ n) : pDist a b ≤ n := by
  unfold pDist
  split <;> omega
/-- two answers alike, by their numbers -/
theorem so_eq {a b : Int} {S : zMem} (h : a = b) : some (iI a, S) = some (iI b, S) := by rw [h]
theorem X1_warmth_eq {k w m : Nat} (hk : k ≤ 5) (hw : w ≤ 9) (hm : m ≤ 9) (S : zMem) : f_X1_warmth (iI k) (iI w) (iI m) S = some (iI (pW k w m), S) := by
  simp (disch := omega) only [X1_warmth_b48, X1_warmth_b0, f_X1_warmth, zl_e, zc_true, zb_some, iI_add, iI_sub, iI_mul, iI_neg, iI_lt, iI_le, iI_eq, lit_0, lit_1, lit_2, lit_3, lit_4, lit_5, lit_6, lit_7, lit_8, lit_9, lit_10, lit_11, lit_12, lit_13, lit_14, lit_15, lit_16, lit_17, lit_18, lit_19, lit_20, lit_21, lit_22, lit_23, lit_24, lit_25, lit_26, lit_27, lit_28, lit_29, lit_30, lit_31, lit_32, lit_33, lit_34, lit_35, lit_36, lit_37, lit_38, lit_39, lit_40, lit_41, lit_42, lit_43, lit_44, lit_45, lit_46, lit_47, lit_48, lit_49, lit_50, lit_51, lit_52, lit_53, lit_54, lit_55, lit_56, lit_57, lit_58, lit_59, lit_60, lit_61, lit_62, lit_63, lit_64, lit_98, lit_102, lit_104, lit_107, lit_108, lit_112, lit_116, lit_118, lit_240, lit_698, lit_1000, lit_2792, lit_2794, lit_2795, lit_2796, lit_2797, lit_2798, lit_2799, lit_2804, lit_99999, litm_1, litm_2, litm_3, litm_4, litm_6, litm_9, iI_div]
  unfold pW
  repeat' split
  all_goals first | omega | (refine so_eq ?_; omega)
theorem X9_endsBy_eq {k w m : Nat} (hk : k ≤ 5) (hw : w ≤ 9) (hm : m ≤ 9) (S : zMem) : f_X9_endsBy (iI k) (iI w) (iI m) S = some (iI (pW k w m), S) := by
  simp (disch := omega) only [X9_endsBy_b52, X9_endsBy_b69, X9_endsBy_b53, X9_endsBy_b80, X9_endsBy_b0, f_X9_endsBy, zl_e, zc_true, zb_some, iI_add, iI_sub, iI_mul, iI_neg, iI_lt, iI_le, iI_eq, lit_0, lit_1, lit_2, lit_3, lit_4, lit_5, lit_6, lit_7, lit_8, lit_9, lit_10, lit_11, lit_12, lit_13, lit_14, lit_15, lit_16, lit_17, lit_18, lit_19, lit_20, lit_21, lit_22, lit_23, lit_24, lit_25, lit_26, lit_27, lit_28, lit_29, lit_30, lit_31, lit_32, lit_33, lit_34, lit_35, lit_36, lit_37, lit_38, lit_39, lit_40, lit_41, lit_42, lit_43, lit_44, lit_45, lit_46, lit_47, lit_48, lit_49, lit_50, lit_51, lit_52, lit_53, lit_54, lit_55, lit_56, lit_57, lit_58, lit_59, lit_60, lit_61, lit_62, lit_63, lit_64, lit_98, lit_102, lit_104, lit_107, lit_108, lit_112, lit_116, lit_118, lit_240, lit_698, lit_1000, lit_2792, lit_2794, lit_2795, lit_2796, lit_2797, lit_2798, lit_2799, lit_2804, lit_99999, litm_1, litm_2, litm_3, litm_4, litm_6, litm_9, iI_div]
  unfold pW
  repeat' split
  all_goals first | omega | (refine so_eq ?_; omega)
theorem X6_moodWithin_eq {z : Int} (h1 : -100 ≤ z) (h2 : z ≤ 100) (S : zMem) : f_X6_moodWithin (iI z) S = some (iI (max 0 (min 9 z)), S) := by
  simp (disch := omega) only [X6_moodWithin_b0, f_X6_moodWithin, zl_e, zc_true, zb_some, iI_add, iI_sub, iI_mul, iI_neg, iI_lt, iI_le, iI_eq, lit_0, lit_1, lit_2, lit_3, lit_4, lit_5, lit_6, lit_7, lit_8, lit_9, lit_10, lit_11, lit_12, lit_13, lit_14, lit_15, lit_16, lit_17, lit_18, lit_19, lit_20, lit_21, lit_22, lit_23, lit_24, lit_25, lit_26, lit_27, lit_28, lit_29, lit_30, lit_31, lit_32, lit_33, lit_34, lit_35, lit_36, lit_37, lit_38, lit_39, lit_40, lit_41, lit_42, lit_43, lit_44, lit_45, lit_46, lit_47, lit_48, lit_49, lit_50, lit_51, lit_52, lit_53, lit_54, lit_55, lit_56, lit_57, lit_58, lit_59, lit_60, lit_61, lit_62, lit_63, lit_64, lit_98, lit_102, lit_104, lit_107, lit_108, lit_112, lit_116, lit_118, lit_240, lit_698, lit_1000, lit_2792, lit_2794, lit_2795, lit_2796, lit_2797, lit_2798, lit_2799, lit_2804, lit_99999, litm_1, litm_2, litm_3, litm_4, litm_6, litm_9]
  repeat' split
  all_goals simp (disch := omega) only [iI_lt, iI_le, iI_eq] at *
  all_goals first | omega | (refine so_eq ?_; omega)
theorem X9_kept_eq {z n : Int} (h1 : -1000 ≤ z) (h2 : z ≤ 1000) (h3 : 0 ≤ n) (h4 : n ≤ 1000) (S : zMem) : f_X9_kept (iI z) (iI n) S = some (iI (max 0 (min n z)), S) := by
  simp (disch := omega) only [X9_kept_b18, X9_kept_b0, f_X9_kept, zl_e, zc_true, zb_some, iI_add, iI_sub, iI_mul, iI_neg, iI_lt, iI_le, iI_eq, lit_0, lit_1, lit_2, lit_3, lit_4, lit_5, lit_6, lit_7, lit_8, lit_9, lit_10, lit_11, lit_12, lit_13, lit_14, lit_15, lit_16, lit_17, lit_18, lit_19, lit_20, lit_21, lit_22, lit_23, lit_24, lit_25, lit_26, lit_27, lit_28, lit_29, lit_30, lit_31, lit_32, lit_33, lit_34, lit_35, lit_36, lit_37, lit_38, lit_39, lit_40, lit_41, lit_42, lit_43, lit_44, lit_45, lit_46, lit_47, lit_48, lit_49, lit_50, lit_51, lit_52, lit_53, lit_54, lit_55, lit_56, lit_57, lit_58, lit_59, lit_60, lit_61, lit_62, lit_63, lit_64, lit_98, lit_102, lit_104, lit_107, lit_108, lit_112, lit_116, lit_118, lit_240, lit_698, lit_1000, lit_2792, lit_2794, lit_2795, lit_2796, lit_2797, lit_2798, lit_2799, lit_2804, lit_99999, litm_1, litm_2, litm_3, litm_4, litm_6, litm_9]
  repeat' split
  all_goals first | omega | (refine so_eq ?_; omega)
theorem X6_bondBehind_eq {a b : Nat} (ha : a ≤ 20) (hb : b ≤ 9) (S : zMem) : f_X6_bondBehind (iI a) (iI b) S = some (iI (pBond a b), S) := by
  simp (disch := omega) only [X6_bondBehind_b0, f_X6_bondBehind, zl_e, zc_true, zb_some, iI_add, iI_sub, iI_mul, iI_neg, iI_lt, iI_le, iI_eq, lit_0, lit_1, lit_2, lit_3, lit_4, lit_5, lit_6, lit_7, lit_8, lit_9, lit_10, lit_11, lit_12, lit_13, lit_14, lit_15, lit_16, lit_17, lit_18, lit_19, lit_20, lit_21, lit_22, lit_23, lit_24, lit_25, lit_26, lit_27, lit_28, lit_29, lit_30, lit_31, lit_32, lit_33, lit_34, lit_35, lit_36, lit_37, lit_38, lit_39, lit_40, lit_41, lit_42, lit_43, lit_44, lit_45, lit_46, lit_47, lit_48, lit_49, lit_50, lit_51, lit_52, lit_53, lit_54, lit_55, lit_56, lit_57, lit_58, lit_59, lit_60, lit_61, lit_62, lit_63, lit_64, lit_98, lit_102, lit_104, lit_107, lit_108, lit_112, lit_116, lit_118, lit_240, lit_698, lit_1000, lit_2792, lit_2794, lit_2795, lit_2796, lit_2797, lit_2798, lit_2799, lit_2804, lit_99999, litm_1, litm_2, litm_3, litm_4, litm_6, litm_9]
  unfold pBond
  repeat' split
  all_goals simp (disch := omega) only [iI_lt, iI_le, iI_eq] at *
  all_goals first | omega | (refine so_eq ?_; omega)
theorem X1_turnBy_eq {k a : Nat} (hk : k ≤ 5) (ha : a ≤ 9) (S : zMem) : f_X1_turnBy (iI k) (iI a) S = some (iI (if k = 5 then 0 else if 6 ≤ a then 1 else if a ≤ 3 then -1 else 0), S) := by
  simp (disch := omega) only [X1_turnBy_b27, X1_turnBy_b0, f_X1_turnBy, zl_e, zc_true, zb_some, iI_add, iI_sub, iI_mul, iI_neg, iI_lt, iI_le, iI_eq, lit_0, lit_1, lit_2, lit_3, lit_4, lit_5, lit_6, lit_7, lit_8, lit_9, lit_10, lit_11, lit_12, lit_13, lit_14, lit_15, lit_16, lit_17, lit_18, lit_19, lit_20, lit_21, lit_22, lit_23, lit_24, lit_25, lit_26, lit_27, lit_28, lit_29, lit_30, lit_31, lit_32, lit_33, lit_34, lit_35, lit_36, lit_37, lit_38, lit_39, lit_40, lit_41, lit_42, lit_43, lit_44, lit_45, lit_46, lit_47, lit_48, lit_49, lit_50, lit_51, lit_52, lit_53, lit_54, lit_55, lit_56, lit_57, lit_58, lit_59, lit_60, lit_61, lit_62, lit_63, lit_64, lit_98, lit_102, lit_104, lit_107, lit_108, lit_112, lit_116, lit_118, lit_240, lit_698, lit_1000, lit_2792, lit_2794, lit_2795, lit_2796, lit_2797, lit_2798, lit_2799, lit_2804, lit_99999, litm_1, litm_2, litm_3, litm_4, litm_6, litm_9]
  repeat' split
  all_goals first | omega | (refine so_eq ?_; omega)
/-- within, in -/
theorem X8_within_eq (x m : Int32) (S : zMem) : f_X8_within x m S = some (b01 (0 ≤ x.toInt ∧ x.toInt ≤ m.toInt), S) := by
  simp only [X8_within_b14, X8_within_b13, X8_within_b0, f_X8_within, Int32.lt_iff_toInt_lt, zbo_0, zbo_1, zc_true]
  have e0 : (0 : Int32).toInt = 0 := rfl
  rw [e0]
  unfold b01
  repeat' split
  all_goals first | rfl | omega
theorem X9_in_eq (x lo hi : Int32) (S : zMem) : f_X9_in x.toInt64 lo.toInt64 hi.toInt64 S = some (b01 (lo.toInt ≤ x.toInt ∧ x.toInt ≤ hi.toInt), S) := by
  simp only [X9_in_b18, X9_in_b17, X9_in_b0, f_X9_in, zl_e, lg_cmp_lt, lg_cmp_gt, Int64.lt_iff_toInt_lt, Int32.toInt_toInt64, zbo_0, zbo_1, zc_true]
  unfold b01
  repeat' split
  all_goals first | rfl | omega
