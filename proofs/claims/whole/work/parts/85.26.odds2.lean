/-! odds, mid: the reference -/
/-- only the trying part of the long row differs -/
def zTr (S T : zMem) : Prop := (∀ c, c ≠ 1 → T.1 c = S.1 c) ∧ T.2 = S.2 ∧ ∀ q, q < 2792 → T.1 1 q = S.1 1 q
theorem zTr_0 (S : zMem) : zTr S S := ⟨fun _ _ => rfl, rfl, fun _ _ => rfl⟩
theorem zTr_t {S T U : zMem} (h : zTr S T) (h2 : zTr T U) : zTr S U := ⟨fun c hc => (h2.1 c hc).trans (h.1 c hc), h2.2.1.trans h.2.1, fun q hq => (h2.2.2 q hq).trans (h.2.2 q hq)⟩
theorem zTr_R {S T : zMem} {g : pSig} (h : zTr S T) (hg : pWf g) (hR : RM S g) : RM T g := hR.tried hg h.1 h.2.1 h.2.2
theorem zTr_cp (S : zMem) : zTr S (cpb S 0 2792 18) := ⟨fun c hc => cpb_ne hc, rfl, fun q hq => cpb_out (by omega)⟩
theorem endLifted_M {S : zMem} {g : pSig} {j x n : Nat} (hg : pWf g) (h : RM S g) (hj : j < 6) (hx : x < 64) (hn : (gR g j).1 = n) (hn6 : n ≤ 6) (hlet : ∀ i, i < n → ∃ l, l < rN (gO g) ∧ (gR g j).2 i = iI (l : Nat)) : ∃ S1, f_X9_endLifted (iI j) (iI x) S = some (iI (pLsum (gO g) (pLf (gR g j)) (gS g) x n), S1) ∧ zTr S S1 := by
  have hN := hg.o.2.1
  have hlf : ∀ i, i < n → pLf (gR g j) i < rN (gO g) := fun i hi => by
    obtain ⟨l, e1, e2⟩ := hlet i hi
    rw [pLf_eq (by omega) e2]
    exact e1
  have hok : ∀ i, i ≤ n → pSok (gO g) (pLs (gO g) (pLf (gR g j)) (gS g) x i) := by
    intro i
    induction i with
    | zero => exact fun _ => hg.ok
    | succ i ih => exact fun hi => pDel_ok hg.o (pLift_ok (ih (by omega))) (hlf i (by omega))
  simp only [f_X9_endLifted, X9_endLifted_b0, layTried_eq, zb_some]
  refine zforI (F := fun f i T => X9_endLifted_l9 f (iI j) (iI x) (iI (pLsum (gO g) (pLf (gR g j)) (gS g) x i : Nat)) (iI (i : Nat)) T) (n := n) (P := fun i T => zTr S T ∧ sMo T (2792 + 1) (gO g) (pLs (gO g) (pLf (gR g j)) (gS g) x i)) (Q := fun r => ∃ S1, r = some (iI (pLsum (gO g) (pLf (gR g j)) (gS g) x n), S1) ∧ zTr S S1) (fun f i T hi hT => ?_) (fun f T hT => ?_) (zF_gt (by omega)) (a := cpb S 0 2792 18) ⟨zTr_cp S, tried_0 hg h⟩
  · left
    obtain ⟨t1, t2⟩ := hT
    have hR := zTr_R t1 hg h
    have hr := hR.2.1 j hj
    rw [hn] at hr
    obtain ⟨l, e1, e2⟩ := hlet i hi
    have hki := hok i (by omega)
    have hM := hki.1
    simp (disch := omega) only [X9_endLifted_l9, X9_endLifted_b9, zi_I, zc_true, zl_e, iI_cln, hr.1, iI_le]
    rw [if_neg (by omega), show zi (2794 : Int32) 2810 = true from rfl, show T.1 1 (Int32.toNatClampNeg 2794) = iI (sM (pLs (gO g) (pLf (gR g j)) (gS g) x i)) from t2.2.1, mhas_eq hx (by omega)]
    simp only [zc_true, zb_some]
    have eb : ∀ k9 : Int32 → Int32 → Int32 → Int32 → zMem → Option (Int32 × zMem), (if (if x.testBit i = true then (1 : Int32) else 0) = 0 then X9_endLifted_b49 k9 (iI j) (iI x) (iI (pLsum (gO g) (pLf (gR g j)) (gS g) x i : Nat)) (iI i) (2794 : Int32) (iI (sM (pLs (gO g) (pLf (gR g j)) (gS g) x i))) (0 : Int32) T else X9_endLifted_b49 k9 (iI j) (iI x) (iI (pLsum (gO g) (pLf (gR g j)) (gS g) x i : Nat)) (iI i) (2794 : Int32) (iI (sM (pLs (gO g) (pLf (gR g j)) (gS g) x i))) (1 : Int32) T) = X9_endLifted_b49 k9 (iI j) (iI x) (iI (pLsum (gO g) (pLf (gR g j)) (gS g) x i : Nat)) (iI i) (2794 : Int32) (iI (sM (pLs (gO g) (pLf (gR g j)) (gS g) x i))) (iI (pBt x i : Nat)) T := by
      intro k9
      unfold pBt
      by_cases hb : x.testBit i = true
      · rw [if_pos hb, if_pos hb, if_neg (by decide)]
        rfl
      · rw [if_neg hb, if_neg hb, if_pos rfl]
        rfl
    rw [eb]
    have hb1 : pBt x i ≤ 1 := by unfold pBt; split <;> omega
    generalize hs : pLs (gO g) (pLf (gR g j)) (gS g) x i = s at *
    simp only [X9_endLifted_b49, zl_e, iI_add, lit_9]
    rw [X9_kept_eq (by omega) (by omega) (by omega) (by omega), show max 0 (min 9 ((sM s : Int) + (pBt x i : Int))) = ((min 9 (sM s + pBt x i) : Nat) : Int) by omega]
    simp only [zb_some, show zi (2794 : Int32) 2810 = true from rfl, zc_true]
    rw [show Int32.toNatClampNeg 2794 = 2794 from rfl]
    obtain ⟨T1, w1, w2, w3, w4, w5⟩ := wr T 1 2794 (iI ((min 9 (sM s + pBt x i) : Nat) : Int))
    rw [w1]
    simp (disch := omega) only [lit_40, iI_mul, iI_add, zi_I, zc_true, iI_cl]
    rw [show ((40 : Int) * (j : Int) + (i : Int)).toNat = 40 * j + i by omega, w4 6 (by omega), hr.2 i (by omega), e2]
    have hsl : sMo T1 (2792 + 1) (gO g) (pLift s (pBt x i)) := by
      obtain ⟨a1, a2, a3, a4, a5, a6, a7⟩ := t2
      exact ⟨(w3 _ (by omega)).trans a1, w2, (w3 _ (by omega)).trans a3, (w3 _ (by omega)).trans a4, (w3 _ (by omega)).trans a5, fun q hq => (w3 _ (by omega)).trans (a6 q hq), fun q hq hb => (w3 _ (by omega)).trans (a7 q hq hb)⟩
    have ho1 : oM T1 (gO g) := hR.o.cg (by rw [w4 0 (by omega)]) (by rw [w4 0 (by omega)]) (w4 2 (by omega)) (w4 3 (by omega)) (w4 4 (by omega))
    obtain ⟨T2, g1, g2, g3, g4, g5⟩ := carries_M (B := 2792) (by omega) hg.o ho1 hsl (pLift_ok hki) e1
    have g1' : f_X9_carries (2792 : Int32) (iI ↑l) T1 = some (iI ↑(pEnd (gO g) (pLift s (pBt x i)) l), T2) := g1
    rw [g1']
    refine ⟨T2, ⟨zTr_t t1 ⟨fun c hc => by rw [g3 c hc, w4 c hc], by rw [g4, w5], fun q hq => by rw [g5 q (by omega), w3 q (by omega)]⟩, ?_⟩, ?_⟩
    · show sMo T2 (2792 + 1) (gO g) (pDel (gO g) (pLift (pLs (gO g) (pLf (gR g j)) (gS g) x i) (pBt x i)) (pLf (gR g j) i))
      rw [pLf_eq (by omega) e2, hs]
      exact g2
    · simp only [zb_some, iI_nadd, lit_1, iI_add]
      show _ = X9_endLifted_l9 f (iI j) (iI x) (iI ((pLsum (gO g) (pLf (gR g j)) (gS g) x i + pEnd (gO g) (pLift (pLs (gO g) (pLf (gR g j)) (gS g) x i) (pBt x i)) (pLf (gR g j) i) : Nat) : Int)) (iI ((i + 1 : Nat) : Int)) T2
      rw [hs, pLf_eq (by omega) e2]
      rfl
  · obtain ⟨t1, t2⟩ := hT
    have hR := zTr_R t1 hg h
    have hr := hR.2.1 j hj
    rw [hn] at hr
    simp (disch := omega) only [X9_endLifted_l9, X9_endLifted_b9, zi_I, zc_true, zl_e, iI_cln, hr.1, iI_le]
    rw [if_pos (by omega)]
    exact ⟨T, rfl, t1⟩
theorem shl_7 : ∀ n, n < 7 → ((1 : Int32) <<< (iI (n : Nat) &&& 31)) = iI ((2 ^ n : Nat) : Int) := by decide +kernel
theorem tellParts_M {S : zMem} {g : pSig} {up low : Nat} (h : RM S g) (hu : up < 4611686018427387904) (h0 : 0 < low) (hl : low < 2 ^ 40) : ∃ S1, f_X9_tellParts (iJ up) (iJ low) S = some ((), S1) ∧ RM S1 (gPart up low g) := by
  have h40 : (2 : Nat) ^ 40 = 1099511627776 := rfl
  have hg0 : 0 < Nat.gcd up low := Nat.gcd_pos_of_pos_right _ h0
  have hgl : Nat.gcd up low ≤ low := Nat.gcd_le_right _ h0
  obtain ⟨r, hr⟩ : ∃ r : zMem, zq (zq S 0 (vp_updL (S.2 0) 11 (iJ ((up / Nat.gcd up low : Nat) : Int)))) 0 (vp_updL ((zq S 0 (vp_updL (S.2 0) 11 (iJ ((up / Nat.gcd up low : Nat) : Int)))).2 0) 12 (iJ ((low / Nat.gcd up low : Nat) : Int))) = r := ⟨_, rfl⟩
  refine ⟨r, ?_, ?_⟩
  · refine gcd_M 40 up low zF hl hu (by omega) (zF_gt (by omega)) (fun f => ?_)
    rw [X9_tellParts_l6, X9_tellParts_b6, zl_e]
    simp only [show lg_cmp (0 : Int64) 0 = 0 from (lg_cmp_eq 0 0).mpr rfl, if_true]
    rw [iJ_nz (by omega) (by omega), zc_true, zl_e, iJ_divn (by omega) hg0 (by omega), zl_e, zc_true, zl_e, iJ_divn (by omega) hg0 (by omega), zl_e, hr]
  · rw [← hr]
    refine h.told ?_ rfl rfl (fun c _ _ => rfl)
    obtain ⟨a1, a2, a3, a4, a5⟩ := h.1
    refine ⟨a1, ?_, ?_, a4, a5⟩
    · rw [zq_eq, updL_at, if_neg (by decide), zq_eq, updL_at, if_pos rfl]
    · rw [zq_eq, updL_at, if_pos rfl]
theorem tellLifts_M {S : zMem} {g : pSig} {j v p : Nat} {mn : Bool} (hg : pWf g) (h : RM S g) (hj : j < 6) (hl : pLets (gO g) (gR g j) (sC (gS g)) = 0) (hv : v ≤ 54) (hp : p ≤ 12) : ∃ S1, f_X9_tellLifts (iI j) (iI v) (iI p) (if mn = true then 1 else 0) S = some (1, S1) ∧ RM S1 (gPart (pUp g j v p mn) (12 ^ (gR g j).1.toNat) g) := by
  obtain ⟨u1, u2, u3, u4⟩ := pUp_le (v := v) (mn := mn) hg hl hp
  obtain ⟨n, hn, hn6, c, hcc⟩ := pLets_0 hl
  have hlet0 := pSeen_ok n c hcc
  have hlet : ∀ i, i < n → ∃ l, l < rN (gO g) ∧ (gR g j).2 i = iI (l : Nat) := fun i hi => by
    obtain ⟨s1, l, e1, e2, e3, e4, e5⟩ := hlet0 i hi
    exact ⟨l, e2, e3⟩
  have hN := hg.o.2.1
  have hlf : ∀ i, i < n → pLf (gR g j) i < rN (gO g) := fun i hi => by
    obtain ⟨l, e1, e2⟩ := hlet i hi
    rw [pLf_eq (by omega) e2]
    exact e1
  have hok : ∀ x i, i ≤ n → pSok (gO g) (pLs (gO g) (pLf (gR g j)) (gS g) x i) := by
    intro x i
    induction i with
    | zero => exact fun _ => hg.ok
    | succ i ih => exact fun hi => pDel_ok hg.o (pLift_ok (ih (by omega))) (hlf i (by omega))
  have hsum : ∀ x i, i ≤ n → pLsum (gO g) (pLf (gR g j)) (gS g) x i ≤ 9 * i := by
    intro x i
    induction i with
    | zero => exact fun _ => Nat.zero_le _
    | succ i ih =>
      intro hi
      have h1 := ih (by omega)
      have h2 := pEnd_le hg.o (pLift_ok (b := pBt x i) (hok x i (by omega))) (hlf i (by omega))
      show pLsum (gO g) (pLf (gR g j)) (gS g) x i + pEnd (gO g) (pLift (pLs (gO g) (pLf (gR g j)) (gS g) x i) (pBt x i)) (pLf (gR g j) i) ≤ 9 * (i + 1)
      omega
  have hp7 := pow_7 hn6
  unfold pUp at u1 ⊢
  rw [hn, Int.toNat_natCast] at u1 u2 u3 u4 ⊢
  rw [pRec_0] at u1 u2 ⊢
  refine zforI (F := fun f x T => X9_tellLifts_l9 f (iI j) (iI v) (iI p) (if mn = true then 1 else 0) (iJ (pSum (fun y => pG mn v (pLsum (gO g) (pLf (gR g j)) (gS g) y n) (pWay p y n)) x : Nat)) (iJ (pSum (fun y => pWay p y n) x : Nat)) (iI (x : Nat)) T) (n := 2 ^ n) (P := fun _ T => zTr S T) (Q := fun r => ∃ S1, r = some ((1 : Int32), S1) ∧ RM S1 (gPart (pSum (fun y => pG mn v (pLsum (gO g) (pLf (gR g j)) (gS g) y n) (pWay p y n)) (2 ^ n)) (12 ^ n) g)) (fun f x T hx hT => Or.inl ?_) (fun f T hT => ?_) (zF_gt (by omega)) (a := S) (zTr_0 S)
  · have hR := zTr_R hT hg h
    have hr := hR.2.1 j hj
    rw [hn] at hr
    obtain ⟨T1, e1, e2⟩ := endLifted_M (x := x) hg hR hj (by omega) hn hn6 hlet
    refine ⟨T1, zTr_t hT e2, ?_⟩
    simp (disch := omega) only [X9_tellLifts_l9, X9_tellLifts_b9, zi_I, zc_true, zl_e, iI_cln, hr.1, shl_7 n (by omega), iI_le]
    rw [if_neg (by omega)]
    refine zfor (F := fun f2 i => X9_tellLifts_l28 (X9_tellLifts_l9 f) f2 (iI j) (iI v) (iI p) (if mn = true then 1 else 0) (iJ (pSum (fun y => pG mn v (pLsum (gO g) (pLf (gR g j)) (gS g) y n) (pWay p y n)) x : Nat)) (iJ (pSum (fun y => pWay p y n) x : Nat)) (iI (x : Nat)) (iJ (pWay p x i : Nat)) (iI (i : Nat)) T) (n := n) (fun f2 i hi => ?_) (fun f2 => ?_) (zF_gt (by omega))
    · simp (disch := omega) only [X9_tellLifts_l28, X9_tellLifts_b28, X9_tellLifts_b61, zi_I, zc_true, zl_e, iI_cln, hr.1, iI_le]
      rw [if_neg (by omega), mhas_eq (by omega) (by omega)]
      simp only [zb_some]
      rw [show pWay p x (i + 1) = pWay p x i * (if x.testBit i then p else 12 - p) from rfl]
      by_cases hb : x.testBit i = true
      · rw [if_pos hb, if_pos hb, if_neg (by decide), iI_j (by omega) (by omega), iJ_mul, lit_1, iI_add]
        rfl
      · rw [if_neg hb, if_neg hb, if_pos rfl, show (12 : Int32) - iI (p : Int) = iI ((12 - p : Nat) : Int) by rw [show (12 : Int32) = iI 12 from rfl, iI_sub]; exact congrArg iI (by omega), iI_j (by omega) (by omega), iJ_mul, lit_1, iI_add]
        rfl
    · have hs9 := hsum x n (Nat.le_refl _)
      simp (disch := omega) only [X9_tellLifts_l28, X9_tellLifts_b28, X9_tellLifts_b107, zi_I, zc_true, zl_e, iI_cln, hr.1, iI_le]
      rw [if_pos (by omega), e1]
      simp only [zb_some]
      rw [show pSum (fun y => pG mn v (pLsum (gO g) (pLf (gR g j)) (gS g) y n) (pWay p y n)) (x + 1) = pSum (fun y => pG mn v (pLsum (gO g) (pLf (gR g j)) (gS g) y n) (pWay p y n)) x + pG mn v (pLsum (gO g) (pLf (gR g j)) (gS g) x n) (pWay p x n) from rfl, show pSum (fun y => pWay p y n) (x + 1) = pSum (fun y => pWay p y n) x + pWay p x n from rfl]
      cases mn with
      | true =>
        rw [if_pos rfl, if_neg (by decide), iI_j (by omega) (by omega), iJ_mul, iJ_add, iJ_add, lit_1, iI_add]
        rfl
      | false =>
        rw [if_neg Bool.false_ne_true, if_pos rfl]
        simp (disch := omega) only [iI_lt]
        by_cases hvs : v ≤ pLsum (gO g) (pLf (gR g j)) (gS g) x n
        · rw [if_neg (by omega), iJ_add, iJ_add, lit_1, iI_add, show pG false v (pLsum (gO g) (pLf (gR g j)) (gS g) x n) (pWay p x n) = pWay p x n by unfold pG; simp [hvs]]
          rfl
        · rw [if_pos (by omega), show (0 : Int64) = iJ 0 from rfl, iJ_add, iJ_add, lit_1, iI_add, show pG false v (pLsum (gO g) (pLf (gR g j)) (gS g) x n) (pWay p x n) = 0 by unfold pG; simp [hvs]]
          rfl
  · have hR := zTr_R hT hg h
    have hr := hR.2.1 j hj
    rw [hn] at hr
    simp (disch := omega) only [X9_tellLifts_l9, X9_tellLifts_b9, zi_I, zc_true, zl_e, iI_cln, hr.1, shl_7 n (by omega), iI_le]
    rw [if_pos (by omega), u2]
    obtain ⟨S1, f1, f2⟩ := tellParts_M hR u1 u3 u4
    rw [f1]
    exact ⟨S1, rfl, f2⟩
theorem odds_M (x y z : Int32) : okM (f_X9_odds x y z) (qOdds x y z) := by
  intro S g hg h
  unfold qOdds
  simp only [f_X9_odds, X9_odds_b0, X9_odds_b31, X9_odds_b64, zl_e]
  cases hx : pIn x 6 with
  | none =>
    simp only [misRow_f hx, zb_some, zero_0, if_true]
    exact ⟨S, rfl, h⟩
  | some j =>
    obtain ⟨rfl, hj⟩ := pIn_some hx
    simp only [misRow_t hj, zb_some, one_0, if_false]
    cases hy : pIn y 55 with
    | none =>
      simp only [min_in_f (n := 54) (m := 54) rfl hy (by omega), zb_some, zero_0, if_true]
      exact ⟨S, rfl, h⟩
    | some v =>
      obtain ⟨rfl, hv⟩ := pIn_some hy
      simp only [min_in_t (n := 54) (m := 54) rfl (show v ≤ 54 by omega) (by omega), zb_some, one_0, if_false]
      cases hz : pIn z 13 with
      | none =>
        simp only [min_in_f (n := 12) (m := 12) rfl hz (by omega), zb_some, zero_0, if_true]
        exact ⟨S, rfl, h⟩
      | some p =>
        obtain ⟨rfl, hp⟩ := pIn_some hz
        have c64 := hg.ok.c64 hg.o
        have h6 := pLets_6 (gO g) (gR g j) (sC (gS g))
        have r5 : S.1 1 5 = iI (sC (gS g)) := h.s.2.2.2.2.1
        simp only [min_in_t (n := 12) (m := 12) rfl (show p ≤ 12 by omega) (by omega), zb_some, one_0, if_false, z5, n5, zc_true, r5, noLetters_M hg h hj c64]
        by_cases hl : pLets (gO g) (gR g j) (sC (gS g)) = 0
        · rw [if_pos hl, if_pos hl]
          obtain ⟨S1, e1, e2⟩ := tellLifts_M (v := v) (p := p) (mn := false) hg h hj hl (by omega) (by omega)
          rw [if_neg Bool.false_ne_true] at e1
          simp only [zb_some, zero_0, if_true, e1]
          exact ⟨S1, rfl, e2⟩
        · rw [if_neg hl, if_neg hl]
          obtain ⟨S1, e1, e2⟩ := ref_M (f := pLets (gO g) (gR g j) (sC (gS g))) h6 h
          rw [e1]
          simp only [zb_some, m3_0, if_false]
          exact ⟨S1, rfl, e2⟩
theorem mid_M (x z : Int32) : okM (f_X9_mid x z) (qMid x z) := by
  intro S g hg h
  unfold qMid
  simp only [f_X9_mid, X9_mid_b0, X9_mid_b19, X9_mid_b49, zl_e]
  cases hx : pIn x 6 with
  | none =>
    simp only [misRow_f hx, zb_some, zero_0, if_true]
    exact ⟨S, rfl, h⟩
  | some j =>
    obtain ⟨rfl, hj⟩ := pIn_some hx
    simp only [misRow_t hj, zb_some, one_0, if_false]
    cases hz : pIn z 13 with
    | none =>
      simp only [min_in_f (n := 12) (m := 12) rfl hz (by omega), zb_some, zero_0, if_true]
      exact ⟨S, rfl, h⟩
    | some p =>
      obtain ⟨rfl, hp⟩ := pIn_some hz
      have c64 := hg.ok.c64 hg.o
      have h6 := pLets_6 (gO g) (gR g j) (sC (gS g))
      have r5 : S.1 1 5 = iI (sC (gS g)) := h.s.2.2.2.2.1
      simp only [min_in_t (n := 12) (m := 12) rfl (show p ≤ 12 by omega) (by omega), zb_some, one_0, if_false, z5, n5, zc_true, r5, noLetters_M hg h hj c64]
      by_cases hl : pLets (gO g) (gR g j) (sC (gS g)) = 0
      · rw [if_pos hl, if_pos hl]
        obtain ⟨S1, e1, e2⟩ := tellLifts_M (v := 0) (p := p) (mn := true) hg h hj hl (by omega) (by omega)
        rw [if_pos rfl] at e1
        have e1' : f_X9_tellLifts (iI ↑j) (0 : Int32) (iI ↑p) (1 : Int32) S = some (1, S1) := e1
        simp only [zb_some, zero_0, if_true, e1']
        exact ⟨S1, rfl, e2⟩
      · rw [if_neg hl, if_neg hl]
        obtain ⟨S1, e1, e2⟩ := ref_M (f := pLets (gO g) (gR g j) (sC (gS g))) h6 h
        rw [e1]
        simp only [zb_some, m3_0, if_false]
        exact ⟨S1, rfl, e2⟩
