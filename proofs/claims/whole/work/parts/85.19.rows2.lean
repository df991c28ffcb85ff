/-! mean, text, put, copy -/
def pAcc (f : Nat → Int32) : Nat → Int64
  | 0 => 0
  | n + 1 => pAcc f n + (f n).toInt64
theorem pAcc_cg {f f2 : Nat → Int32} : ∀ {n : Nat}, (∀ i, i < n → f i = f2 i) → pAcc f n = pAcc f2 n := by
  intro n
  induction n with
  | zero => exact fun _ => rfl
  | succ n ih =>
    intro h
    show pAcc f n + (f n).toInt64 = pAcc f2 n + (f2 n).toInt64
    rw [ih (fun i hi => h i (by omega)), h n (by omega)]
def qMean (x : Int32) (g : pSig) : Int32 × pSig := match pIn x 6 with
  | none => (-1, g)
  | some j => if (gR g j).1 < 0 then qRef 1 g else if (gR g j).1 = 0 then qRef 4 g else qTell ((pAcc (gR g j).2 (gR g j).1.toNat / iJ (gR g j).1).toInt32) g
theorem mean_wf (x : Int32) : ∀ g, pWf g → pWf (qMean x g).2 := by
  intro g h
  unfold qMean
  repeat' split
  all_goals exact h
theorem sum_C {S : zMem} {c n : Nat} {f : Nat → Int32} (hl : n ≤ lnC (c + 1)) (hn : n ≤ 60) (hl2 : lnC (c + 1) ≤ 60) (h1 : S.1 c 1 = iI n) (h2 : ∀ k, k < n → S.1 (c + 1) k = f k) : f_X7_sum c S = some (pAcc f n, S) := by
  refine zfor (F := fun f1 i => X7_sum_l4 f1 c (pAcc f i) (iI (i : Nat)) S) (n := n) (fun f1 i hi => ?_) (fun f1 => ?_) (zF_gt (by omega))
  · simp (disch := omega) only [X7_sum_l4, X7_sum_b4, zl_e, h1, iI_le]
    rw [if_neg (by omega)]
    simp (disch := omega) only [zi_I, zc_true, iI_cln, h2 i hi, lit_1, iI_add]
    rfl
  · simp (disch := omega) only [X7_sum_l4, X7_sum_b4, zl_e, h1, iI_le]
    rw [if_pos (by omega)]
theorem iJ_0 {n : Nat} (h : 0 < n) (h2 : n < 1000) : decide (¬ iJ (n : Int) = (0 : Int64)) = true := by
  rw [decide_eq_true_iff, show (0 : Int64) = iJ 0 from rfl, iJ_eq (by omega) (by omega) (by omega) (by omega)]
  omega
theorem mean_C (x : Int32) : okC (f_X8_mean x) (qMean x) := by
  intro S g hg h
  unfold qMean
  cases hj : pIn x 6 with
  | none =>
    simp only [f_X8_mean, X8_mean_b0, isRow_f hj, zb_some, zero_0, if_true]
    exact ⟨S, rfl, h⟩
  | some j =>
    obtain ⟨rfl, hj6⟩ := pIn_some hj
    have hb := hg.1 j hj6
    have hr := h.2.1 j hj6
    have hz : zi (iI (j : Int)) 6 = true := zi_I (by omega) (by omega) (by omega)
    dsimp only
    by_cases hs : (gR g j).1 < 0
    · rw [if_pos hs]
      have e1 : (gR g j).1 = -1 := by omega
      rw [e1] at hr
      simp only [f_X8_mean, X8_mean_b0, isRow_t hj6, zb_some, one_0, if_false, hz, zc_true, iI_cln (show j < 2147483648 by omega), isThere_f hr.1, zero_0, if_true]
      exact ref_Ce 1 (by omega) h rfl
    · rw [if_neg hs]
      obtain ⟨n, hn⟩ := sz_of hb.1 hs
      rw [hn] at hr hb
      have hL := lnC_row j hj6
      simp only [f_X8_mean, X8_mean_b0, isRow_t hj6, zb_some, one_0, if_false, hz, zc_true, iI_cln (show j < 2147483648 by omega), isThere_t hr.1 (by omega) (by omega), zl_e, hr.1]
      simp (disch := omega) only [show ((0 : Int32) = iI 0) from rfl, iI_eq]
      rw [hn]
      by_cases h0 : (n : Int) = 0
      · rw [if_pos h0, if_pos h0]
        exact ref_Ce 4 (by omega) h rfl
      · rw [if_neg h0, if_neg h0, sum_C (by rw [hL]; omega) (by omega) (by rw [hL]; omega) hr.1 (fun k hk => hr.2 k (by omega))]
        simp only [zb_some, hr.1]
        rw [iI_j (by omega) (by omega), iJ_0 (by omega) (by omega), zc_true]
        obtain ⟨S1, e1, e2, -⟩ := tell_C ((pAcc (gR g j).2 n / iJ n).toInt32) h
        rw [e1]
        exact ⟨S1, rfl, e2⟩
theorem mean_M (x : Int32) : okM (f_X9_mean x) (qMean x) := by
  intro S g hg h
  unfold qMean
  cases hj : pIn x 6 with
  | none =>
    simp only [f_X9_mean, X9_mean_b0, misRow_f hj, zb_some, zero_0, if_true]
    exact ⟨S, rfl, h⟩
  | some j =>
    obtain ⟨rfl, hj6⟩ := pIn_some hj
    have hb := hg.1 j hj6
    have hr := h.2.1 j hj6
    dsimp only
    by_cases hs : (gR g j).1 < 0
    · rw [if_pos hs]
      have e1 : (gR g j).1 = -1 := by omega
      rw [e1] at hr
      simp (disch := omega) only [f_X9_mean, X9_mean_b0, misRow_t hj6, zb_some, one_0, if_false, zi_I, zc_true, zl_e, iI_cln, hr.1]
      rw [if_neg (by decide)]
      exact ref_Me 1 (by omega) h rfl
    · rw [if_neg hs]
      obtain ⟨n, hn⟩ := sz_of hb.1 hs
      rw [hn] at hr hb
      simp (disch := omega) only [f_X9_mean, X9_mean_b0, misRow_t hj6, zb_some, one_0, if_false, zi_I, zc_true, zl_e, iI_cln, hr.1]
      have q0 : (0 : Int32) ≤ iI (n : Int) ↔ (0 : Int) ≤ (n : Int) := iI_le (a := 0) (by omega) (by omega) (by omega) (by omega)
      have q1 : iI (n : Int) = (0 : Int32) ↔ (n : Int) = (0 : Int) := iI_eq (b := 0) (by omega) (by omega) (by omega) (by omega)
      simp only [q0, q1]
      rw [if_pos (by omega), hn]
      by_cases h0 : (n : Int) = 0
      · rw [if_pos h0, if_pos h0]
        exact ref_Me 4 (by omega) h rfl
      · rw [if_neg h0, if_neg h0]
        obtain ⟨S1, e1, e2⟩ := tell_M ((pAcc (gR g j).2 n / iJ n).toInt32) h
        refine ⟨S1, ?_, e2⟩
        refine zfor (F := fun f i => X9_mean_l44 f (iI j) (pAcc (gR g j).2 i) (iI (i : Nat)) S) (n := n) (fun f i hi => ?_) (fun f => ?_) (zF_gt (by omega))
        · simp (disch := omega) only [X9_mean_l44, X9_mean_b44, zi_I, zc_true, zl_e, iI_cln, hr.1, iI_le]
          rw [if_neg (by omega)]
          simp (disch := omega) only [lit_40, iI_mul, iI_add, zi_I, zc_true, iI_cl]
          rw [show ((40 : Int) * (j : Int) + (i : Int)).toNat = 40 * j + i by omega, hr.2 i (by omega), lit_1, iI_add]
          rfl
        · simp (disch := omega) only [X9_mean_l44, X9_mean_b44, zi_I, zc_true, zl_e, iI_cln, hr.1, iI_le]
          rw [if_pos (by omega), iI_j (by omega) (by omega), iJ_0 (by omega) (by omega), zc_true, e1]
          rfl
/-! text -/
def qText (x n : Int32) (g : pSig) : Int32 × pSig := match pIn x 4 with
  | none => (-1, g)
  | some j => if 60 < n.toInt then (-1, g) else if n.toInt < 0 then qRef 5 g else (n, gX_ g (va_up (gX g) j (n.toInt, fun _ => 32)))
theorem wf_text {g : pSig} {j : Nat} {z : Int} {f : Nat → Int32} (h : pWf g) (h1 : -1 ≤ z) (h2 : z ≤ 60) : pWf (gX_ g (va_up (gX g) j (z, f))) := by
  refine ⟨h.1, fun r hr => ?_, h.2.2⟩
  show -1 ≤ (va_up (gX g) j (z, f) r).1 ∧ (va_up (gX g) j (z, f) r).1 ≤ 60
  unfold va_up
  split
  · exact ⟨h1, h2⟩
  · exact h.2.1 r hr
theorem text_wf (x n : Int32) : ∀ g, pWf g → pWf (qText x n g).2 := by
  intro g h
  unfold qText
  split
  · exact h
  · next j hj =>
    split
    · exact h
    · split
      · exact h
      · exact wf_text h (by omega) (by omega)
theorem text_C (x n : Int32) : okC (f_X8_text x n) (qText x n) := by
  intro S g hg h
  unfold qText
  cases hj : pIn x 4 with
  | none =>
    simp only [X8_text_b13, X8_text_b0, f_X8_text, isText_f hj, zb_some, zero_0, if_true]
    exact ⟨S, rfl, h⟩
  | some j =>
    obtain ⟨rfl, hj6⟩ := pIn_some hj
    obtain ⟨z, hz1, hz2, rfl⟩ := int_of n
    simp only [X8_text_b13, X8_text_b0, f_X8_text, isText_t hj6, zb_some, one_0, if_false, iI_toInt hz1 hz2]
    simp (disch := omega) only [lit_60, lit_0, iI_le]
    by_cases h1 : z ≤ 60
    · rw [if_pos h1, if_neg (show ¬ 60 < z by omega)]
      by_cases h2 : 0 ≤ z
      · rw [if_pos h2, if_neg (show ¬ z < 0 by omega)]
        obtain ⟨n, rfl⟩ := Int.eq_ofNat_of_zero_le h2
        obtain ⟨S1, e1, e2, e3, e4, e5⟩ := lieAnew_eq (c := 16 + 2 * j) (n := n) (v := (32 : Int32)) S (by rw [lnC_txt j hj6]; omega) (by rw [lnC_txt j hj6]; omega)
        simp (disch := omega) only [zi_I, zc_true, iI_cln]
        have e1' : f_X7_lieAnew (16 + 2 * j) (iI ↑n) (32 : Int32) S = some ((), S1) := e1
        rw [e1']
        refine ⟨S1, rfl, h.texts ?_ e3 (fun c hc => e2 c (by omega) (by omega))⟩
        intro r hr
        have hr2 := h.2.2.1 r hr
        by_cases hrj : r = j
        · subst hrj
          refine ⟨by simpa [va_up] using e4, fun k hk => ?_⟩
          simp only [va_up, if_true] at hk ⊢
          rw [e5 k (by omega)]
        · simp only [va_up, if_neg hrj]
          rw [e2 (16 + 2 * r) (by omega) (by omega), e2 (16 + 2 * r + 1) (by omega) (by omega)]
          exact hr2
      · rw [if_neg h2, if_pos (show z < 0 by omega)]
        exact ref_Ce 5 (by omega) h rfl
    · rw [if_neg h1, if_pos (show 60 < z by omega)]
      exact ⟨S, rfl, h⟩
theorem text_loop {j : Nat} {v : Int32} (hj : j < 4) : ∀ (m i fuel : Nat) (S : zMem), i + m = 60 → m < fuel → ∃ S1, X9_text_l34 fuel (iI j) v (iI i) S = some (v, S1) ∧ (∀ q, q ≠ 8 → S1.1 q = S.1 q) ∧ S1.2 = S.2 ∧ (∀ k, i ≤ k → k < 60 → S1.1 8 (60 * j + k) = 32) ∧ ∀ q, q < 60 * j + i ∨ 60 * j + 60 ≤ q → S1.1 8 q = S.1 8 q := by
  intro m
  induction m with
  | zero =>
    intro i fuel S hi hf
    obtain ⟨f, rfl⟩ : ∃ f, fuel = f + 1 := ⟨fuel - 1, by omega⟩
    refine ⟨S, ?_, fun _ _ => rfl, rfl, fun k h1 h2 => by omega, fun _ _ => rfl⟩
    simp (disch := omega) only [X9_text_l34, X9_text_b34, lit_60, iI_le]
    rw [if_pos (by omega)]
  | succ m ih =>
    intro i fuel S hi hf
    obtain ⟨f, rfl⟩ : ∃ f, fuel = f + 1 := ⟨fuel - 1, by omega⟩
    obtain ⟨S1, e1, e2, e3, e4, e5⟩ := ih (i + 1) f (zp S 8 (upd (S.1 8) (60 * j + i) 32)) (by omega) (by omega)
    refine ⟨S1, ?_, fun q hq => ?_, by rw [e3]; rfl, fun k h1 h2 => ?_, fun q h1 => ?_⟩
    · simp (disch := omega) only [X9_text_l34, X9_text_b34, lit_60, iI_le]
      rw [if_neg (by omega)]
      simp (disch := omega) only [zl_e, iI_mul, iI_add, zi_I, zc_true, iI_cl, lit_1]
      rw [show ((60 : Int) * j + i).toNat = 60 * j + i by omega]
      exact e1
    · rw [e2 q hq, zp_ne hq]
    · by_cases hk : k = i
      · subst hk
        rw [e5 _ (by omega), zp_eq, upd_eq]
      · exact e4 k (by omega) h2
    · rw [e5 _ (by omega), zp_eq, upd_ne (by omega)]
theorem misText_t2 {j : Nat} (h : j < 4) (S : zMem) : f_X9_isText (iI j) S = some (1, S) := misText_t h S
theorem text_M (x n : Int32) : okM (f_X9_text x n) (qText x n) := by
  intro S g hg h
  unfold qText
  cases hj : pIn x 4 with
  | none =>
    simp only [f_X9_text, X9_text_b0, X9_text_b13, misText_f hj, zb_some, zero_0, if_true]
    exact ⟨S, rfl, h⟩
  | some j =>
    obtain ⟨rfl, hj6⟩ := pIn_some hj
    obtain ⟨z, hz1, hz2, rfl⟩ := int_of n
    simp only [f_X9_text, X9_text_b0, X9_text_b13, misText_t hj6, zb_some, one_0, if_false, iI_toInt hz1 hz2]
    simp (disch := omega) only [lit_60, show ((0 : Int32) = iI 0) from rfl, iI_le]
    by_cases h1 : z ≤ 60
    · rw [if_pos h1, if_neg (show ¬ 60 < z by omega)]
      by_cases h2 : 0 ≤ z
      · rw [if_pos h2, if_neg (show ¬ z < 0 by omega)]
        simp (disch := omega) only [zi_I, zc_true, zl_e, iI_cln]
        obtain ⟨S1, e1, e2, e3, e4, e5⟩ := text_loop (v := iI z) hj6 60 0 zF (zp S 7 (upd (S.1 7) j (iI z))) rfl (zF_gt (by omega))
        have e1' : X9_text_l34 zF (iI j) (iI z) (iI 0) (zp S 7 (upd (S.1 7) j (iI z))) = some (iI z, S1) := e1
        rw [e1']
        refine ⟨S1, rfl, h.texts ?_ (by rw [e3]; rfl) (fun c h5 h6 => by rw [e2 c h6, zp_ne h5])⟩
        intro r hr
        have hr2 := h.2.2.1 r hr
        have hb := hg.2.1 r hr
        rw [e2 7 (by omega), zp_eq]
        by_cases hrj : r = j
        · subst hrj
          refine ⟨by rw [upd_eq, up_eq], fun k hk => ?_⟩
          rw [up_eq] at hk ⊢
          dsimp only at hk ⊢
          rw [e4 k (by omega) (by omega)]
        · rw [up_ne hrj, upd_ne hrj]
          refine ⟨hr2.1, fun k hk => ?_⟩
          rw [e5 _ (by omega), zp_ne (by omega)]
          exact hr2.2 k hk
      · rw [if_neg h2, if_pos (show z < 0 by omega)]
        exact ref_Me 5 (by omega) h rfl
    · rw [if_neg h1, if_pos (show 60 < z by omega)]
      exact ⟨S, rfl, h⟩
/-! put -/
def qPut (x i v : Int32) (g : pSig) : Int32 × pSig := match pIn x 4 with
  | none => (-1, g)
  | some j => if (gX g j).1 < 0 then qRef 1 g else match pIn i (gX g j).1.toNat with
    | none => qRef 2 g
    | some k => ((gX g j).2 k + 1000, gX_ g (va_up (gX g) j ((gX g j).1, upd (gX g j).2 k (Int32.toInt8 v).toInt32)))
theorem put_wf (x i v : Int32) : ∀ g, pWf g → pWf (qPut x i v g).2 := by
  intro g h
  unfold qPut
  split
  · exact h
  · next j hj =>
    have hb := h.2.1 j (pIn_some hj).2
    split
    · exact h
    · split
      · exact h
      · exact wf_text h hb.1 hb.2
theorem put_C (x i v : Int32) : okC (f_X8_put x i v) (qPut x i v) := by
  intro S g hg h
  unfold qPut
  cases hj : pIn x 4 with
  | none =>
    simp only [X8_put_b0, f_X8_put, isText_f hj, zb_some, zero_0, if_true]
    exact ⟨S, rfl, h⟩
  | some j =>
    obtain ⟨rfl, hj6⟩ := pIn_some hj
    have hb := hg.2.1 j hj6
    have hr := h.2.2.1 j hj6
    have hz : zi (iI (j : Int)) 4 = true := zi_I (by omega) (by omega) (by omega)
    dsimp only
    by_cases hs : (gX g j).1 < 0
    · rw [if_pos hs]
      have e1 : (gX g j).1 = -1 := by omega
      rw [e1] at hr
      simp only [X8_put_b0, f_X8_put, isText_t hj6, zb_some, one_0, if_false, hz, zc_true, iI_cln (show j < 2147483648 by omega), isThere_f hr.1, zero_0, if_true]
      exact ref_Ce 1 (by omega) h rfl
    · rw [if_neg hs]
      obtain ⟨n, hn⟩ := sz_of hb.1 hs
      rw [hn] at hr hb
      have hL := lnC_txt j hj6
      simp only [X8_put_b0, f_X8_put, isText_t hj6, zb_some, one_0, if_false, hz, zc_true, iI_cln (show j < 2147483648 by omega), isThere_t hr.1 (by omega) (by omega)]
      rw [show (gX g j).1.toNat = n by omega]
      cases hk : pIn i n with
      | none =>
        simp only [has_f hr.1 hk (by omega), zb_some, zero_0, if_true]
        exact ref_Ce 2 (by omega) h rfl
      | some k =>
        obtain ⟨rfl, hkn⟩ := pIn_some hk
        simp (disch := omega) only [has_t hr.1 hkn (by omega), zb_some, one_0, if_false, hL, zi_I, zc_true, zl_e, iI_cln]
        rw [hr.2 k (by omega)]
        refine ⟨_, rfl, h.texts (fun r hr6 => ?_) rfl (fun c hc => by rw [zp_ne (by omega)])⟩
        have hr3 := h.2.2.1 r hr6
        by_cases hrj : r = j
        · subst hrj
          rw [up_eq]
          refine ⟨by rw [zp_ne (by omega)]; exact hr3.1, fun q hq => ?_⟩
          dsimp only at hq ⊢
          rw [zp_eq, upd_at, upd_at, hr3.2 q hq]
        · rw [up_ne hrj, zp_ne (by omega), zp_ne (by omega)]
          exact hr3
theorem put_M (x i v : Int32) : okM (f_X9_put x i v) (qPut x i v) := by
  intro S g hg h
  unfold qPut
  cases hj : pIn x 4 with
  | none =>
    simp only [X9_put_b0, f_X9_put, misText_f hj, zb_some, zero_0, if_true]
    exact ⟨S, rfl, h⟩
  | some j =>
    obtain ⟨rfl, hj6⟩ := pIn_some hj
    have hb := hg.2.1 j hj6
    have hr := h.2.2.1 j hj6
    dsimp only
    by_cases hs : (gX g j).1 < 0
    · rw [if_pos hs]
      have e1 : (gX g j).1 = -1 := by omega
      rw [e1] at hr
      simp (disch := omega) only [X9_put_b0, f_X9_put, misText_t hj6, zb_some, one_0, if_false, zi_I, zc_true, zl_e, iI_cln, hr.1]
      rw [if_neg (by decide)]
      exact ref_Me 1 (by omega) h rfl
    · rw [if_neg hs]
      obtain ⟨n, hn⟩ := sz_of hb.1 hs
      rw [hn] at hr hb
      simp (disch := omega) only [X9_put_b0, f_X9_put, misText_t hj6, zb_some, one_0, if_false, zi_I, zc_true, zl_e, iI_cln, hr.1]
      have q0 : (0 : Int32) ≤ iI (n : Int) ↔ (0 : Int) ≤ (n : Int) := iI_le (a := 0) (by omega) (by omega) (by omega) (by omega)
      simp only [q0]
      rw [if_pos (by omega), show (gX g j).1.toNat = n by omega, lit_1, iI_sub, lo_0]
      cases hk : pIn i n with
      | none =>
        rw [in_s hk (by omega)]
        simp only [zb_some, zero_0, if_true]
        exact ref_Me 2 (by omega) h rfl
      | some k =>
        obtain ⟨rfl, hkn⟩ := pIn_some hk
        rw [in_s1 hkn (by omega)]
        simp only [zb_some, one_0, if_false]
        simp (disch := omega) only [lit_60, iI_mul, iI_add, zi_I, zc_true, iI_cl]
        rw [show ((60 : Int) * j + k).toNat = 60 * j + k by omega, hr.2 k (by omega)]
        refine ⟨_, rfl, h.texts (fun r hr6 => ?_) rfl (fun c h5 h6 => by rw [zp_ne h6])⟩
        have hr3 := h.2.2.1 r hr6
        have hb3 := hg.2.1 r hr6
        rw [zp_ne (by omega), zp_eq]
        by_cases hrj : r = j
        · subst hrj
          rw [up_eq]
          refine ⟨hr3.1, fun q hq => ?_⟩
          dsimp only at hq ⊢
          rw [upd_at, upd_at]
          by_cases hqk : q = k
          · rw [if_pos (by omega), if_pos hqk]
          · rw [if_neg (by omega), if_neg hqk]
            exact hr3.2 q hq
        · rw [up_ne hrj]
          refine ⟨hr3.1, fun q hq => ?_⟩
          rw [upd_ne (by omega)]
          exact hr3.2 q hq
