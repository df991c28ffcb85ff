theorem row_M (x n : Int32) : okM (f_X9_row x n) (qRow x n) := by
  intro S g hg h
  unfold qRow
  cases hj : pIn x 6 with
  | none =>
    simp only [X9_row_b13, X9_row_b0, f_X9_row, misRow_f hj, zb_some, zero_0, if_true]
    exact ⟨S, rfl, h⟩
  | some j =>
    obtain ⟨rfl, hj6⟩ := pIn_some hj
    obtain ⟨z, hz1, hz2, rfl⟩ := int_of n
    simp only [X9_row_b13, X9_row_b0, f_X9_row, misRow_t hj6, zb_some, one_0, if_false, iI_toInt hz1 hz2]
    simp (disch := omega) only [lit_40, lit_0, iI_le]
    by_cases h1 : z ≤ 40
    · rw [if_pos h1, if_neg (show ¬ 40 < z by omega)]
      by_cases h2 : 0 ≤ z
      · rw [if_pos h2, if_neg (show ¬ z < 0 by omega)]
        obtain ⟨n, rfl⟩ := Int.eq_ofNat_of_zero_le h2
        obtain ⟨S1, e1, e2, e3, e4, e5, e6⟩ := makeRow_eq (r := j) (n := n) S hj6 (by omega)
        rw [e1]
        refine ⟨S1, rfl, h.rows ?_ e3 (fun c h5 h6 => e2 c h5 h6)⟩
        intro r hr
        have hr2 := h.2.1 r hr
        by_cases hrj : r = j
        · subst hrj
          refine ⟨by simp [va_up, e4, upd_at], fun k hk => ?_⟩
          simp only [va_up, if_true] at hk ⊢
          rw [e5 k (by omega)]
          rfl
        · simp only [va_up, if_neg hrj]
          refine ⟨by rw [e4, upd_at, if_neg hrj]; exact hr2.1, fun k hk => ?_⟩
          have hb := hg.1 r hr
          rw [e6 _ (by omega)]
          exact hr2.2 k hk
      · rw [if_neg h2, if_pos (show z < 0 by omega)]
        obtain ⟨S1, e1, e2⟩ := ref_M (f := 5) (by omega) h
        have e1' : f_X9_find (5 : Int32) S = some (-3, S1) := e1
        rw [e1']
        exact ⟨S1, rfl, e2⟩
    · rw [if_neg h1, if_pos (show 40 < z by omega)]
      exact ⟨S, rfl, h⟩
/-! a place of a row: is it there -/
theorem isThere_t {c : Nat} {S : zMem} {z : Int} (h : S.1 c 1 = iI z) (h1 : 0 ≤ z) (h2 : z ≤ 60) : f_X7_isThere c S = some (1, S) := by
  simp only [X7_isThere_b13, X7_isThere_b0, f_X7_isThere, zl_e, h]
  simp (disch := omega) only [litm_1, iI_eq]
  rw [if_neg (by omega)]
  rfl
theorem isThere_f {c : Nat} {S : zMem} (h : S.1 c 1 = iI (-1)) : f_X7_isThere c S = some (0, S) := by
  simp only [X7_isThere_b13, X7_isThere_b0, f_X7_isThere, zl_e, h]
  rfl
theorem has_t {c n k : Nat} {S : zMem} (h : S.1 c 1 = iI n) (h1 : k < n) (h2 : n ≤ 60) : f_X7_has c (iI k) S = some (1, S) := by
  simp only [X7_has_b17, X7_has_b16, X7_has_b0, f_X7_has, zl_e, h]
  simp (disch := omega) only [lit_0, iI_lt, iI_le]
  rw [if_neg (by omega), if_neg (by omega)]
  rfl
theorem has_f {c n : Nat} {S : zMem} {x : Int32} (h : S.1 c 1 = iI n) (h1 : pIn x n = none) (h2 : n ≤ 60) : f_X7_has c x S = some (0, S) := by
  have h3 := pIn_none h1
  obtain ⟨z, hz1, hz2, rfl⟩ := int_of x
  rw [iI_toInt hz1 hz2] at h3
  simp only [X7_has_b17, X7_has_b16, X7_has_b0, f_X7_has, zl_e, h]
  simp (disch := omega) only [lit_0, iI_lt, iI_le]
  by_cases h4 : z < 0
  · rw [if_pos h4]
    rfl
  · rw [if_neg h4, if_pos (by omega)]
    rfl
/-- a size that is there -/
theorem sz_of {z : Int} (h : -1 ≤ z) (h2 : ¬ z < 0) : ∃ n : Nat, z = n := ⟨z.toNat, by omega⟩
def qLay (x i v : Int32) (g : pSig) : Int32 × pSig := match pIn x 6 with
  | none => (-1, g)
  | some j => if (gR g j).1 < 0 then qRef 1 g else match pIn i (gR g j).1.toNat with
    | none => qRef 2 g
    | some k => qTell ((gR g j).2 k) (gR_ g (va_up (gR g) j ((gR g j).1, upd (gR g j).2 k v)))
def qAt (x i : Int32) (g : pSig) : Int32 × pSig := match pIn x 6 with
  | none => (-1, g)
  | some j => if (gR g j).1 < 0 then qRef 1 g else match pIn i (gR g j).1.toNat with
    | none => qRef 2 g
    | some k => qTell ((gR g j).2 k) g
def qTear (x : Int32) (g : pSig) : Int32 × pSig := match pIn x 6 with
  | none => (-1, g)
  | some j => if (gR g j).1 < 0 then qRef 1 g else (1, gR_ g (va_up (gR g) j (-1, (gR g j).2)))
theorem wf_row {g : pSig} {j : Nat} {z : Int} {f : Nat → Int32} (h : pWf g) (h1 : -1 ≤ z) (h2 : z ≤ 40) : pWf (gR_ g (va_up (gR g) j (z, f))) := by
  refine ⟨fun r hr => ?_, h.2⟩
  show -1 ≤ (va_up (gR g) j (z, f) r).1 ∧ (va_up (gR g) j (z, f) r).1 ≤ 40
  unfold va_up
  split
  · exact ⟨h1, h2⟩
  · exact h.1 r hr
theorem lay_wf (x i v : Int32) : ∀ g, pWf g → pWf (qLay x i v g).2 := by
  intro g h
  unfold qLay
  split
  · exact h
  · next j hj =>
    have hb := h.1 j (pIn_some hj).2
    split
    · exact h
    · split
      · exact h
      · exact wf_row h hb.1 hb.2
theorem at_wf (x i : Int32) : ∀ g, pWf g → pWf (qAt x i g).2 := by
  intro g h
  unfold qAt
  repeat' split
  all_goals exact h
theorem tear_wf (x : Int32) : ∀ g, pWf g → pWf (qTear x g).2 := by
  intro g h
  unfold qTear
  repeat' split
  · exact h
  · exact h
  · exact wf_row h (by omega) (by omega)
theorem ref_Ce {S : zMem} {g : pSig} (f : Nat) (hf : f < 6) (h : RC S g) {k : Int32 → zMem → Option (Int32 × zMem)} (hk : k = fun v S => some (v, S)) : ∃ S1, zb (f_X8_refuse (iI f) S) k = some ((qRef f g).1, S1) ∧ RC S1 (qRef f g).2 := by
  obtain ⟨S1, e1, e2⟩ := ref_C hf h
  rw [e1, hk]
  exact ⟨S1, rfl, e2⟩
theorem ref_Me {S : zMem} {g : pSig} (f : Nat) (hf : f < 6) (h : RM S g) {k : Int32 → zMem → Option (Int32 × zMem)} (hk : k = fun v S => some (v, S)) : ∃ S1, zb (f_X9_find (iI f) S) k = some ((qRef f g).1, S1) ∧ RM S1 (qRef f g).2 := by
  obtain ⟨S1, e1, e2⟩ := ref_M hf h
  rw [e1, hk]
  exact ⟨S1, rfl, e2⟩
theorem lay_C (x i v : Int32) : okC (f_X8_lay x i v) (qLay x i v) := by
  intro S g hg h
  unfold qLay
  cases hj : pIn x 6 with
  | none =>
    simp only [X8_lay_b0, f_X8_lay, isRow_f hj, zb_some, zero_0, if_true]
    exact ⟨S, rfl, h⟩
  | some j =>
    obtain ⟨rfl, hj6⟩ := pIn_some hj
    have hb := hg.1 j hj6
    have hr := h.2.1 j hj6
    have hz : zi (iI (j : Int)) 6 = true := zi_I (by omega) (by omega) (by omega)
    dsimp only
    by_cases hs : (gR g j).1 < 0
    · rw [if_pos hs]
      have e1 : (gR g j).1 = -1 := by omega
      rw [e1] at hr
      simp only [X8_lay_b0, f_X8_lay, isRow_t hj6, zb_some, one_0, if_false, hz, zc_true, iI_cln (show j < 2147483648 by omega), isThere_f hr.1, zero_0, if_true]
      exact ref_Ce 1 (by omega) h rfl
    · rw [if_neg hs]
      obtain ⟨n, hn⟩ := sz_of hb.1 hs
      rw [hn] at hr hb
      have hL := lnC_row j hj6
      simp only [X8_lay_b0, f_X8_lay, isRow_t hj6, zb_some, one_0, if_false, hz, zc_true, iI_cln (show j < 2147483648 by omega), isThere_t hr.1 (by omega) (by omega)]
      rw [show (gR g j).1.toNat = n by omega]
      cases hk : pIn i n with
      | none =>
        simp only [has_f hr.1 hk (by omega), zb_some, zero_0, if_true]
        exact ref_Ce 2 (by omega) h rfl
      | some k =>
        obtain ⟨rfl, hkn⟩ := pIn_some hk
        simp (disch := omega) only [has_t hr.1 hkn (by omega), zb_some, one_0, if_false, hL, zi_I, zc_true, zl_e, iI_cln]
        have h2 : RC (zp S (4 + 2 * j + 1) (upd (S.1 (4 + 2 * j + 1)) k v)) (gR_ g (va_up (gR g) j ((gR g j).1, upd (gR g j).2 k v))) := by
          refine h.rows (fun r hr6 => ?_) (by rw [zp_at, if_neg (by omega)]) rfl (fun c hc => by rw [zp_at, if_neg (by omega)])
          have hr3 := h.2.1 r hr6
          by_cases hrj : r = j
          · subst hrj
            simp only [va_up, if_true]
            refine ⟨by rw [zp_at, if_neg (by omega)]; exact hr3.1, fun q hq => ?_⟩
            rw [zp_at, if_pos rfl, upd_at, upd_at, hr3.2 q hq]
          · simp only [va_up, if_neg hrj]
            rw [zp_at, if_neg (by omega), zp_at, if_neg (by omega)]
            exact hr3
        obtain ⟨S1, e1, e2, -⟩ := tell_C (S.1 (4 + 2 * j + 1) k) h2
        rw [e1]
        rw [hr.2 k (by omega)] at e2
        exact ⟨S1, rfl, e2⟩
theorem at_C (x i : Int32) : okC (f_X8_at x i) (qAt x i) := by
  intro S g hg h
  unfold qAt
  cases hj : pIn x 6 with
  | none =>
    simp only [X8_at_b0, f_X8_at, isRow_f hj, zb_some, zero_0, if_true]
    exact ⟨S, rfl, h⟩
  | some j =>
    obtain ⟨rfl, hj6⟩ := pIn_some hj
    have hb := hg.1 j hj6
    have hr := h.2.1 j hj6
    have hz : zi (iI (j : Int)) 6 = true := zi_I (by omega) (by omega) (by omega)
    dsimp only
    by_cases hs : (gR g j).1 < 0
    · rw [if_pos hs]
      have e1 : (gR g j).1 = -1 := by omega
      rw [e1] at hr
      simp only [X8_at_b0, f_X8_at, isRow_t hj6, zb_some, one_0, if_false, hz, zc_true, iI_cln (show j < 2147483648 by omega), isThere_f hr.1, zero_0, if_true]
      exact ref_Ce 1 (by omega) h rfl
    · rw [if_neg hs]
      obtain ⟨n, hn⟩ := sz_of hb.1 hs
      rw [hn] at hr hb
      have hL := lnC_row j hj6
      simp only [X8_at_b0, f_X8_at, isRow_t hj6, zb_some, one_0, if_false, hz, zc_true, iI_cln (show j < 2147483648 by omega), isThere_t hr.1 (by omega) (by omega)]
      rw [show (gR g j).1.toNat = n by omega]
      cases hk : pIn i n with
      | none =>
        simp only [has_f hr.1 hk (by omega), zb_some, zero_0, if_true]
        exact ref_Ce 2 (by omega) h rfl
      | some k =>
        obtain ⟨rfl, hkn⟩ := pIn_some hk
        simp (disch := omega) only [has_t hr.1 hkn (by omega), zb_some, one_0, if_false, hL, zi_I, zc_true, zl_e, iI_cln]
        obtain ⟨S1, e1, e2, -⟩ := tell_C (S.1 (4 + 2 * j + 1) k) h
        rw [e1]
        rw [hr.2 k (by omega)] at e2
        exact ⟨S1, rfl, e2⟩
theorem tear_C (x : Int32) : okC (f_X8_tear x) (qTear x) := by
  intro S g hg h
  unfold qTear
  cases hj : pIn x 6 with
  | none =>
    simp only [X8_tear_b0, f_X8_tear, isRow_f hj, zb_some, zero_0, if_true]
    exact ⟨S, rfl, h⟩
  | some j =>
    obtain ⟨rfl, hj6⟩ := pIn_some hj
    have hb := hg.1 j hj6
    have hr := h.2.1 j hj6
    have hz : zi (iI (j : Int)) 6 = true := zi_I (by omega) (by omega) (by omega)
    dsimp only
    by_cases hs : (gR g j).1 < 0
    · rw [if_pos hs]
      have e1 : (gR g j).1 = -1 := by omega
      rw [e1] at hr
      simp only [X8_tear_b0, f_X8_tear, isRow_t hj6, zb_some, one_0, if_false, hz, zc_true, iI_cln (show j < 2147483648 by omega), isThere_f hr.1, zero_0, if_true]
      exact ref_Ce 1 (by omega) h rfl
    · rw [if_neg hs]
      obtain ⟨n, hn⟩ := sz_of hb.1 hs
      rw [hn] at hr hb
      simp only [X8_tear_b0, f_X8_tear, isRow_t hj6, zb_some, one_0, if_false, hz, zc_true, iI_cln (show j < 2147483648 by omega), isThere_t hr.1 (by omega) (by omega), X7_goMissing_b0, f_X7_goMissing, zl_e]
      refine ⟨_, rfl, h.rows (fun r hr6 => ?_) (by rw [zp_at, if_neg (by omega)]) rfl (fun c hc => by rw [zp_at, if_neg (by omega)])⟩
      have hr3 := h.2.1 r hr6
      by_cases hrj : r = j
      · subst hrj
        simp only [va_up, if_true]
        refine ⟨by rw [zp_at, if_pos rfl, upd_at, if_pos rfl]; rfl, fun q hq => ?_⟩
        omega
      · simp only [va_up, if_neg hrj]
        rw [zp_at, if_neg (by omega), zp_at, if_neg (by omega)]
        exact hr3
/-! the reference: a place of a row -/
theorem in_s1 {k n : Nat} (h : k < n) (hn : n < 1000000) (S : zMem) : f_X9_in (iI k).toInt64 (iI 0).toInt64 (iI ((n : Int) - 1)).toInt64 S = some (1, S) := by
  rw [X9_in_eq, iI_toInt (by omega) (by omega), iI_toInt (by omega) (by omega), iI_toInt (by omega) (by omega)]
  unfold b01
  rw [if_pos (by omega)]
theorem in_s {x : Int32} {n : Nat} (h : pIn x n = none) (hn : n < 1000000) (S : zMem) : f_X9_in x.toInt64 (iI 0).toInt64 (iI ((n : Int) - 1)).toInt64 S = some (0, S) := by
  have h1 := pIn_none h
  rw [X9_in_eq, iI_toInt (z := (n : Int) - 1) (by omega) (by omega), iI_toInt (z := 0) (by omega) (by omega)]
  unfold b01
  rw [if_neg (by omega)]
theorem within_s1 {k n : Nat} (h : k < n) (hn : n < 1000000) (S : zMem) : f_X8_within (iI k) (iI ((n : Int) - 1)) S = some (1, S) := by
  rw [X8_within_eq, iI_toInt (by omega) (by omega), iI_toInt (by omega) (by omega)]
  unfold b01
  rw [if_pos (by omega)]
theorem within_s {x : Int32} {n : Nat} (h : pIn x n = none) (hn : n < 1000000) (S : zMem) : f_X8_within x (iI ((n : Int) - 1)) S = some (0, S) := by
  have h1 := pIn_none h
  rw [X8_within_eq, iI_toInt (z := (n : Int) - 1) (by omega) (by omega)]
  unfold b01
  rw [if_neg (by omega)]
theorem refused_b {x i : Int32} (h : pIn x 6 = none) (S : zMem) : f_X9_refused x i S = some (-1, S) := by
  simp only [X9_refused_b55, X9_refused_b0, f_X9_refused, misRow_f h, zb_some, zero_0, if_true]
theorem refused_1 {j : Nat} {i : Int32} {S : zMem} (hj : j < 6) (h : S.1 5 j = iI (-1)) : f_X9_refused (iI j) i S = zb (f_X9_find (iI 1) S) fun v S => some (v, S) := by
  simp (disch := omega) only [X9_refused_b55, X9_refused_b0, f_X9_refused, misRow_t hj, zb_some, one_0, if_false, zi_I, zc_true, zl_e, iI_cln, h]
  simp (disch := omega) only [lit_0, iI_le, lit_1]
  rw [if_neg (by omega)]
theorem refused_2 {j n : Nat} {i : Int32} {S : zMem} (hj : j < 6) (h : S.1 5 j = iI n) (hn : n ≤ 40) (hi : pIn i n = none) : f_X9_refused (iI j) i S = zb (f_X9_find (iI 2) S) fun v S => some (v, S) := by
  simp (disch := omega) only [X9_refused_b55, X9_refused_b0, f_X9_refused, misRow_t hj, zb_some, one_0, if_false, zi_I, zc_true, zl_e, iI_cln, h]
  rw [lit_1, lit_2, iI_sub, lo_0, in_s hi (by omega)]
  simp (disch := omega) only [zb_some, zero_0, if_true]
  simp (disch := omega) only [lit_0, iI_le]
  rw [if_pos (by omega)]
theorem refused_0 {j n k : Nat} {S : zMem} (hj : j < 6) (h : S.1 5 j = iI n) (hn : n ≤ 40) (hk : k < n) : f_X9_refused (iI j) (iI k) S = some (0, S) := by
  simp (disch := omega) only [X9_refused_b55, X9_refused_b0, f_X9_refused, misRow_t hj, zb_some, one_0, if_false, zi_I, zc_true, zl_e, iI_cln, h]
  rw [lit_1, iI_sub, lo_0, in_s1 hk (by omega)]
  simp (disch := omega) only [zb_some, one_0, if_false]
  simp (disch := omega) only [lit_0, iI_le]
  rw [if_pos (by omega)]
theorem m3_0 : ((-3 : Int32) = 0) ↔ False := by decide
theorem m1_0 : ((-1 : Int32) = 0) ↔ False := by decide
theorem lay_M (x i v : Int32) : okM (f_X9_lay x i v) (qLay x i v) := by
  intro S g hg h
  unfold qLay
  cases hj : pIn x 6 with
  | none =>
    simp only [X9_lay_b0, f_X9_lay, refused_b hj, zb_some, m1_0, if_false]
    exact ⟨S, rfl, h⟩
  | some j =>
    obtain ⟨rfl, hj6⟩ := pIn_some hj
    have hb := hg.1 j hj6
    have hr := h.2.1 j hj6
    dsimp only
    by_cases hs : (gR g j).1 < 0
    · rw [if_pos hs]
      have e1 : (gR g j).1 = -1 := by omega
      rw [e1] at hr
      obtain ⟨S1, e1, e2⟩ := ref_M (f := 1) (by omega) h
      have e1' : f_X9_find (iI 1) S = some (-3, S1) := e1
      simp only [X9_lay_b0, f_X9_lay, refused_1 hj6 hr.1, e1', zb_some, m3_0, if_false]
      exact ⟨S1, rfl, e2⟩
    · rw [if_neg hs]
      obtain ⟨n, hn⟩ := sz_of hb.1 hs
      rw [hn] at hr hb
      rw [show (gR g j).1.toNat = n by omega]
      cases hk : pIn i n with
      | none =>
        obtain ⟨S1, e1, e2⟩ := ref_M (f := 2) (by omega) h
        have e1' : f_X9_find (iI 2) S = some (-3, S1) := e1
        simp only [X9_lay_b0, f_X9_lay, refused_2 hj6 hr.1 (by omega) hk, e1', zb_some, m3_0, if_false]
        exact ⟨S1, rfl, e2⟩
      | some k =>
        obtain ⟨rfl, hkn⟩ := pIn_some hk
        simp only [X9_lay_b0, f_X9_lay, refused_0 hj6 hr.1 (by omega) hkn, zb_some, zero_0, if_true, zl_e]
        simp (disch := omega) only [lit_40, iI_mul, iI_add, zi_I, zc_true, iI_cl]
        rw [show ((40 : Int) * j + k).toNat = 40 * j + k by omega]
        have h2 : RM (zp S 6 (upd (S.1 6) (40 * j + k) v)) (gR_ g (va_up (gR g) j ((gR g j).1, upd (gR g j).2 k v))) := by
          refine h.rows (fun r hr6 => ?_) rfl (fun c h5 h6 => by rw [zp_at, if_neg h6])
          have hr3 := h.2.1 r hr6
          have hb3 := hg.1 r hr6
          rw [zp_at, if_neg (by omega), zp_at, if_pos rfl]
          by_cases hrj : r = j
          · subst hrj
            simp only [va_up, if_true]
            refine ⟨hr3.1, fun q hq => ?_⟩
            rw [upd_at, upd_at]
            by_cases hqk : q = k
            · rw [if_pos (by omega), if_pos hqk]
            · rw [if_neg (by omega), if_neg hqk]
              exact hr3.2 q hq
          · simp only [va_up, if_neg hrj]
            refine ⟨hr3.1, fun q hq => ?_⟩
            rw [upd_at, if_neg (by omega)]
            exact hr3.2 q hq
        obtain ⟨S1, e1, e2⟩ := tell_M (S.1 6 (40 * j + k)) h2
        rw [e1]
        rw [hr.2 k (by omega)] at e2
        exact ⟨S1, rfl, e2⟩
theorem at_M (x i : Int32) : okM (f_X9_at x i) (qAt x i) := by
  intro S g hg h
  unfold qAt
  cases hj : pIn x 6 with
  | none =>
    simp only [X9_at_b30, X9_at_b0, f_X9_at, refused_b hj, zb_some, m1_0, if_false]
    exact ⟨S, rfl, h⟩
  | some j =>
    obtain ⟨rfl, hj6⟩ := pIn_some hj
    have hb := hg.1 j hj6
    have hr := h.2.1 j hj6
    dsimp only
    by_cases hs : (gR g j).1 < 0
    · rw [if_pos hs]
      have e1 : (gR g j).1 = -1 := by omega
      rw [e1] at hr
      obtain ⟨S1, e1, e2⟩ := ref_M (f := 1) (by omega) h
      have e1' : f_X9_find (iI 1) S = some (-3, S1) := e1
      simp only [X9_at_b30, X9_at_b0, f_X9_at, refused_1 hj6 hr.1, e1', zb_some, m3_0, if_false]
      exact ⟨S1, rfl, e2⟩
    · rw [if_neg hs]
      obtain ⟨n, hn⟩ := sz_of hb.1 hs
      rw [hn] at hr hb
      rw [show (gR g j).1.toNat = n by omega]
      cases hk : pIn i n with
      | none =>
        obtain ⟨S1, e1, e2⟩ := ref_M (f := 2) (by omega) h
        have e1' : f_X9_find (iI 2) S = some (-3, S1) := e1
        simp only [X9_at_b30, X9_at_b0, f_X9_at, refused_2 hj6 hr.1 (by omega) hk, e1', zb_some, m3_0, if_false]
        exact ⟨S1, rfl, e2⟩
      | some k =>
        obtain ⟨rfl, hkn⟩ := pIn_some hk
        simp only [X9_at_b30, X9_at_b0, f_X9_at, refused_0 hj6 hr.1 (by omega) hkn, zb_some, zero_0, if_true, zl_e]
        simp (disch := omega) only [lit_40, iI_mul, iI_add, zi_I, zc_true, iI_cl]
        rw [show ((40 : Int) * j + k).toNat = 40 * j + k by omega]
        obtain ⟨S1, e1, e2⟩ := tell_M (S.1 6 (40 * j + k)) h
        rw [e1]
        rw [hr.2 k (by omega)] at e2
        exact ⟨S1, rfl, e2⟩
theorem tear_M (x : Int32) : okM (f_X9_tear x) (qTear x) := by
  intro S g hg h
  unfold qTear
  cases hj : pIn x 6 with
  | none =>
    simp only [X9_tear_b0, f_X9_tear, misRow_f hj, zb_some, zero_0, if_true]
    exact ⟨S, rfl, h⟩
  | some j =>
    obtain ⟨rfl, hj6⟩ := pIn_some hj
    have hb := hg.1 j hj6
    have hr := h.2.1 j hj6
    dsimp only
    by_cases hs : (gR g j).1 < 0
    · rw [if_pos hs]
      have e1 : (gR g j).1 = -1 := by omega
      rw [e1] at hr
      simp (disch := omega) only [X9_tear_b0, f_X9_tear, misRow_t hj6, zb_some, one_0, if_false, zi_I, zc_true, zl_e, iI_cln, hr.1]
      simp (disch := omega) only [lit_0, iI_le, lit_1]
      rw [if_neg (by omega)]
      exact ref_Me 1 (by omega) h rfl
    · rw [if_neg hs]
      obtain ⟨n, hn⟩ := sz_of hb.1 hs
      rw [hn] at hr hb
      simp (disch := omega) only [X9_tear_b0, f_X9_tear, misRow_t hj6, zb_some, one_0, if_false, zi_I, zc_true, zl_e, iI_cln, hr.1]
      simp (disch := omega) only [lit_0, iI_le]
      rw [if_pos (by omega)]
      refine ⟨_, rfl, h.rows (fun r hr6 => ?_) rfl (fun c h5 h6 => by rw [zp_at, if_neg h5])⟩
      have hr3 := h.2.1 r hr6
      rw [zp_at, if_pos rfl, zp_at, if_neg (by omega)]
      by_cases hrj : r = j
      · subst hrj
        simp only [va_up, if_true]
        refine ⟨by rw [upd_at, if_pos rfl]; rfl, fun q hq => ?_⟩
        omega
      · simp only [va_up, if_neg hrj]
        rw [upd_at, if_neg hrj]
        exact hr3
