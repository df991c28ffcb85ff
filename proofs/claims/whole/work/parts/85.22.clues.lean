/-! meant, kinds -/
theorem pBits_K {p : Nat → Bool} {i : Nat} (h : i ≤ 10) : pBits p i < 1024 := Nat.lt_of_lt_of_le (pBits_lt i) (show 2 ^ i ≤ 2 ^ 10 from Nat.pow_le_pow_right (by omega) h)
theorem pWrong_6 (w : Int × (Nat → Int32)) : pWrong w < 6 := by
  unfold pWrong
  repeat' split
  all_goals omega
abbrev pWs (k : Nat) (r : Int × (Nat → Int32)) : Nat := pBits (fun w => pFits k w r) 10
abbrev pKs (w : Nat) (r : Int × (Nat → Int32)) : Nat := pBits (fun k => pFits k w r) 6
theorem wordsFor_C {S : zMem} {g : pSig} {j k : Nat} (hg : pWf g) (h : RC S g) (hj : j < 6) (hp : pWrong (gR g j) = 0) (hk : k ≤ 5) : f_X0_wordsFor (iI k) (4 + 2 * j) S = some (iI (pWs k (gR g j)), S) := by
  refine zfor (F := fun f i => X0_wordsFor_l4 f (iI k) (4 + 2 * j) (iI (pBits (fun w => pFits k w (gR g j)) i : Nat)) (iI (i : Nat)) S) (n := 10) (fun f i hi => ?_) (fun f => ?_) (zF_gt (by omega))
  · simp (disch := omega) only [X0_wordsFor_l4, X0_wordsFor_b4, X0_wordsFor_b25, lit_9, iI_lt]
    rw [if_neg (by omega), fits_C hg h hj hp hk (by omega)]
    simp only [zb_some, zl_e, orK i (by omega) _ (pBits_K (show i ≤ 10 by omega))]
    rw [lit_1, iI_add]
    by_cases hf : pFits k i (gR g j) = true
    · rw [if_pos hf, if_neg (by decide), show pBits (fun w => pFits k w (gR g j)) (i + 1) = pBits (fun w => pFits k w (gR g j)) i ||| 2 ^ i by rw [pBits, if_pos hf]]
      rfl
    · rw [if_neg hf, if_pos (by decide), show pBits (fun w => pFits k w (gR g j)) (i + 1) = pBits (fun w => pFits k w (gR g j)) i by rw [pBits, if_neg hf]]
      rfl
  · simp (disch := omega) only [X0_wordsFor_l4, X0_wordsFor_b4, lit_9, iI_lt]
    rw [if_pos (by omega)]
theorem wordsBy_M {S : zMem} {g : pSig} {j l : Nat} (hg : pWf g) (h : RM S g) (hj : j < 6) (hp : pWrong (gR g j) = 0) (hl : l < rN (gO g)) : f_X9_wordsBy (iI l) (iI j) S = some (iI (pWs (rK (gO g) l) (gR g j)), S) := by
  have hN := hg.o.2.1
  have hk := (hg.o.2.2.1 l hl).1
  refine zfor (F := fun f i => X9_wordsBy_l5 f (iI l) (iI j) (iI (pBits (fun w => pFits (rK (gO g) l) w (gR g j)) i : Nat)) (iI (i : Nat)) S) (n := 10) (fun f i hi => ?_) (fun f => ?_) (zF_gt (by omega))
  · simp (disch := omega) only [X9_wordsBy_l5, X9_wordsBy_b5, X9_wordsBy_b37, lit_10, iI_le]
    rw [if_neg (by omega)]
    simp (disch := omega) only [zi_I, zc_true, zl_e, iI_cln, (h.o.2.2 l hl).1]
    rw [isSo_M hg h hj hp hk (by omega)]
    simp only [zb_some, orK i (by omega) _ (pBits_K (show i ≤ 10 by omega)), or0I]
    rw [lit_1, iI_add]
    by_cases hf : pFits (rK (gO g) l) i (gR g j) = true
    · rw [if_pos hf, if_neg (by decide), show pBits (fun w => pFits (rK (gO g) l) w (gR g j)) (i + 1) = pBits (fun w => pFits (rK (gO g) l) w (gR g j)) i ||| 2 ^ i by rw [pBits, if_pos hf]]
      rfl
    · rw [if_neg hf, if_pos (by decide), show pBits (fun w => pFits (rK (gO g) l) w (gR g j)) (i + 1) = pBits (fun w => pFits (rK (gO g) l) w (gR g j)) i by rw [pBits, if_neg hf]]
      rfl
  · simp (disch := omega) only [X9_wordsBy_l5, X9_wordsBy_b5, lit_10, iI_le]
    rw [if_pos (by omega)]
theorem kindsFor_C {S : zMem} {g : pSig} {j w : Nat} (hg : pWf g) (h : RC S g) (hj : j < 6) (hp : pWrong (gR g j) = 0) (hw : w ≤ 9) : f_X0_kindsFor (iI w) (4 + 2 * j) S = some (iI (pKs w (gR g j)), S) := by
  refine zfor (F := fun f i => X0_kindsFor_l4 f (iI w) (4 + 2 * j) (iI (pBits (fun k => pFits k w (gR g j)) i : Nat)) (iI (i : Nat)) S) (n := 6) (fun f i hi => ?_) (fun f => ?_) (zF_gt (by omega))
  · simp (disch := omega) only [X0_kindsFor_l4, X0_kindsFor_b4, X0_kindsFor_b25, lit_6, iI_le]
    rw [if_neg (by omega), fits_C hg h hj hp (by omega) hw]
    simp only [zb_some, zl_e, orK i (by omega) _ (pBits_K (show i ≤ 10 by omega))]
    rw [lit_1, iI_add]
    by_cases hf : pFits i w (gR g j) = true
    · rw [if_pos hf, if_neg (by decide), show pBits (fun k => pFits k w (gR g j)) (i + 1) = pBits (fun k => pFits k w (gR g j)) i ||| 2 ^ i by rw [pBits, if_pos hf]]
      rfl
    · rw [if_neg hf, if_pos (by decide), show pBits (fun k => pFits k w (gR g j)) (i + 1) = pBits (fun k => pFits k w (gR g j)) i by rw [pBits, if_neg hf]]
      rfl
  · simp (disch := omega) only [X0_kindsFor_l4, X0_kindsFor_b4, lit_6, iI_le]
    rw [if_pos (by omega)]
theorem kinds_loopM {S : zMem} {g : pSig} {j l : Nat} (hg : pWf g) (h : RM S g) (hj : j < 6) (hp : pWrong (gR g j) = 0) (hl : l < rN (gO g)) : X9_kinds_l35 zF (iI l) (iI j) (0 : Int32) (0 : Int32) S = some (iI (pKs (rW (gO g) l) (gR g j)), S) := by
  have hN := hg.o.2.1
  have hw := (hg.o.2.2.1 l hl).2.2
  refine zfor (F := fun f i => X9_kinds_l35 f (iI l) (iI j) (iI (pBits (fun k => pFits k (rW (gO g) l) (gR g j)) i : Nat)) (iI (i : Nat)) S) (n := 6) (fun f i hi => ?_) (fun f => ?_) (zF_gt (by omega))
  · simp (disch := omega) only [X9_kinds_l35, X9_kinds_b35, X9_kinds_b68, lit_6, iI_le]
    rw [if_neg (by omega)]
    simp (disch := omega) only [zi_I, zc_true, zl_e, iI_cln, (h.o.2.2 l hl).2.2]
    rw [isSo_M hg h hj hp (by omega) hw]
    simp only [zb_some, orK i (by omega) _ (pBits_K (show i ≤ 10 by omega)), or0I]
    rw [lit_1, iI_add]
    by_cases hf : pFits i (rW (gO g) l) (gR g j) = true
    · rw [if_pos hf, if_neg (by decide), show pBits (fun k => pFits k (rW (gO g) l) (gR g j)) (i + 1) = pBits (fun k => pFits k (rW (gO g) l) (gR g j)) i ||| 2 ^ i by rw [pBits, if_pos hf]]
      rfl
    · rw [if_neg hf, if_pos (by decide), show pBits (fun k => pFits k (rW (gO g) l) (gR g j)) (i + 1) = pBits (fun k => pFits k (rW (gO g) l) (gR g j)) i by rw [pBits, if_neg hf]]
      rfl
  · simp (disch := omega) only [X9_kinds_l35, X9_kinds_b35, lit_6, iI_le]
    rw [if_pos (by omega)]
theorem eqn0 {k : Nat} (hk : k < 2147483648) : (iI (k : Int) = (0 : Int32)) ↔ k = 0 := eqn (n := 0) hk (by omega)
def qMeant (x y : Int32) (g : pSig) : Int32 × pSig := match pIn x (rN (gO g)), pIn y 6 with
  | some l, some j => if pWrong (gR g j) = 0 then (iI (pWs (rK (gO g) l) (gR g j)), g) else qRef (pWrong (gR g j)) g
  | _, _ => (-1, g)
theorem meant_wf (x y : Int32) : ∀ g, pWf g → pWf (qMeant x y g).2 := by
  intro g h
  unfold qMeant
  repeat' split
  all_goals exact h
theorem meant_C (x y : Int32) : okC (f_X8_meant x y) (qMeant x y) := by
  intro S g hg h
  unfold qMeant
  simp only [f_X8_meant, X8_meant_b0, X8_meant_b15]
  cases hx : pIn x (rN (gO g)) with
  | none =>
    simp only [isLetter_f hg.o h.o hx, zb_some, zero_0, if_true]
    exact ⟨S, rfl, h⟩
  | some l =>
    obtain ⟨rfl, hl⟩ := pIn_some hx
    simp only [isLetter_t hg.o h.o hl, zb_some, one_0, if_false]
    cases hy : pIn y 6 with
    | none =>
      simp only [isRow_f hy, zb_some, zero_0, if_true]
      exact ⟨S, rfl, h⟩
    | some j =>
      obtain ⟨rfl, hj⟩ := pIn_some hy
      have hN := hg.o.2.1
      have h6 := pWrong_6 (gR g j)
      simp (disch := omega) only [isRow_t hj, zb_some, one_0, if_false, zi_I, zc_true, iI_cln, wrongPairs_C hg h hj, eqn0]
      by_cases hp : pWrong (gR g j) = 0
      · rw [if_pos hp, if_pos hp]
        simp (disch := omega) only [zl_e, (h.o.2.2.2.2.2 l hl).1, wordsFor_C hg h hj hp (hg.o.2.2.1 l hl).1, zb_some]
        exact ⟨S, rfl, h⟩
      · rw [if_neg hp, if_neg hp]
        exact ref_Ce _ h6 h rfl
theorem meant_M (x y : Int32) : okM (f_X9_meant x y) (qMeant x y) := by
  intro S g hg h
  unfold qMeant
  simp only [f_X9_meant, X9_meant_b0, X9_meant_b15, X9_meant_b37]
  cases hx : pIn x (rN (gO g)) with
  | none =>
    simp only [misLetter_f hg.o h.o hx, zb_some, zero_0, if_true]
    exact ⟨S, rfl, h⟩
  | some l =>
    obtain ⟨rfl, hl⟩ := pIn_some hx
    simp only [misLetter_t hg.o h.o hl, zb_some, one_0, if_false]
    cases hy : pIn y 6 with
    | none =>
      simp only [misRow_f hy, zb_some, zero_0, if_true]
      exact ⟨S, rfl, h⟩
    | some j =>
      obtain ⟨rfl, hj⟩ := pIn_some hy
      have h6 := pWrong_6 (gR g j)
      simp only [misRow_t hj, zb_some, one_0, if_false, noPairs_M hg h hj]
      by_cases hp : pWrong (gR g j) = 0
      · rw [if_pos hp, if_pos hp]
        simp only [zb_some, zero_0, if_true, wordsBy_M hg h hj hp hl]
        exact ⟨S, rfl, h⟩
      · rw [if_neg hp, if_neg hp]
        obtain ⟨S1, e1, e2⟩ := ref_M (f := pWrong (gR g j)) h6 h
        rw [e1]
        simp only [zb_some, m3_0, if_false]
        exact ⟨S1, rfl, e2⟩
def qKinds (x y : Int32) (g : pSig) : Int32 × pSig := match pIn x (rN (gO g)), pIn y 6 with
  | some l, some j => if pWrong (gR g j) = 0 then (iI (pKs (rW (gO g) l) (gR g j)), g) else qRef (pWrong (gR g j)) g
  | _, _ => (-1, g)
theorem kinds_wf (x y : Int32) : ∀ g, pWf g → pWf (qKinds x y g).2 := by
  intro g h
  unfold qKinds
  repeat' split
  all_goals exact h
theorem kinds_C (x y : Int32) : okC (f_X8_kinds x y) (qKinds x y) := by
  intro S g hg h
  unfold qKinds
  simp only [f_X8_kinds, X8_kinds_b0, X8_kinds_b15]
  cases hx : pIn x (rN (gO g)) with
  | none =>
    simp only [isLetter_f hg.o h.o hx, zb_some, zero_0, if_true]
    exact ⟨S, rfl, h⟩
  | some l =>
    obtain ⟨rfl, hl⟩ := pIn_some hx
    simp only [isLetter_t hg.o h.o hl, zb_some, one_0, if_false]
    cases hy : pIn y 6 with
    | none =>
      simp only [isRow_f hy, zb_some, zero_0, if_true]
      exact ⟨S, rfl, h⟩
    | some j =>
      obtain ⟨rfl, hj⟩ := pIn_some hy
      have hN := hg.o.2.1
      have h6 := pWrong_6 (gR g j)
      simp (disch := omega) only [isRow_t hj, zb_some, one_0, if_false, zi_I, zc_true, iI_cln, wrongPairs_C hg h hj, eqn0]
      by_cases hp : pWrong (gR g j) = 0
      · rw [if_pos hp, if_pos hp]
        simp (disch := omega) only [zl_e, (h.o.2.2.2.2.2 l hl).2.2, kindsFor_C hg h hj hp (hg.o.2.2.1 l hl).2.2, zb_some]
        exact ⟨S, rfl, h⟩
      · rw [if_neg hp, if_neg hp]
        exact ref_Ce _ h6 h rfl
theorem kinds_M (x y : Int32) : okM (f_X9_kinds x y) (qKinds x y) := by
  intro S g hg h
  unfold qKinds
  simp only [f_X9_kinds, X9_kinds_b0, X9_kinds_b15]
  cases hx : pIn x (rN (gO g)) with
  | none =>
    simp only [misLetter_f hg.o h.o hx, zb_some, zero_0, if_true]
    exact ⟨S, rfl, h⟩
  | some l =>
    obtain ⟨rfl, hl⟩ := pIn_some hx
    simp only [misLetter_t hg.o h.o hl, zb_some, one_0, if_false]
    cases hy : pIn y 6 with
    | none =>
      simp only [misRow_f hy, zb_some, zero_0, if_true]
      exact ⟨S, rfl, h⟩
    | some j =>
      obtain ⟨rfl, hj⟩ := pIn_some hy
      have h6 := pWrong_6 (gR g j)
      simp only [misRow_t hj, zb_some, one_0, if_false, noPairs_M hg h hj]
      by_cases hp : pWrong (gR g j) = 0
      · rw [if_pos hp, if_pos hp]
        simp only [zb_some, zero_0, if_true, kinds_loopM hg h hj hp hl]
        exact ⟨S, rfl, h⟩
      · rw [if_neg hp, if_neg hp]
        obtain ⟨S1, e1, e2⟩ := ref_M (f := pWrong (gR g j)) h6 h
        rw [e1]
        simp only [zb_some, m3_0, if_false]
        exact ⟨S1, rfl, e2⟩
/-! test -/
def pCnt (m : Nat → Bool) (E : Nat → Nat) (e n : Nat) : Nat := pSum (fun w => if m w && E w == e then 1 else 0) n
def pGrC (m : Nat → Bool) (E : Nat → Nat) : Nat → Nat
  | 0 => 0
  | n + 1 => if m n then max (pGrC m E n) (pCnt m E (E n) (n + 1)) else pGrC m E n
def pGrM (m : Nat → Bool) (E : Nat → Nat) (N : Nat) : Nat → Nat
  | 0 => 0
  | i + 1 => max (pGrM m E N i) (if m i then pCnt m E (E i) N else 0)
theorem pSum_le {f : Nat → Nat} (h : ∀ i, f i ≤ 1) : ∀ n, pSum f n ≤ n := by
  intro n
  induction n with
  | zero => exact Nat.le_refl _
  | succ n ih =>
    have := h n
    show pSum f n + f n ≤ n + 1
    omega
theorem pCnt_le (m : Nat → Bool) (E : Nat → Nat) (e n : Nat) : pCnt m E e n ≤ n := pSum_le (fun i => by split <;> omega) n
theorem pGrM_le (m : Nat → Bool) (E : Nat → Nat) (N : Nat) : ∀ i, pGrM m E N i ≤ N := by
  intro i
  induction i with
  | zero => exact Nat.zero_le _
  | succ i ih =>
    have := pCnt_le m E (E i) N
    unfold pGrM
    split <;> omega
theorem pCnt_s (m : Nat → Bool) (E : Nat → Nat) (e n : Nat) : pCnt m E e (n + 1) = pCnt m E e n + if m n && E n == e then 1 else 0 := rfl
theorem pGr_s (m : Nat → Bool) (E : Nat → Nat) (n : Nat) (hm : m n = true) : ∀ j, max (pGrM m E (n + 1) j) (pCnt m E (E n) (n + 1)) = max (pGrM m E n j) (pCnt m E (E n) (n + 1)) := by
  intro j
  induction j with
  | zero => rfl
  | succ j ih =>
    have hle : pCnt m E (E n) n ≤ pCnt m E (E n) (n + 1) := by rw [pCnt_s]; omega
    unfold pGrM
    cases hj : m j with
    | false =>
      simp only [Bool.false_eq_true, if_false]
      omega
    | true =>
      simp only [if_true]
      by_cases he : E n = E j
      · rw [← he]
        omega
      · have h0 : pCnt m E (E j) (n + 1) = pCnt m E (E j) n := by
          rw [pCnt_s, hm, show (E n == E j) = false by simpa using he]
          rfl
        rw [h0]
        omega
theorem pGr_n (m : Nat → Bool) (E : Nat → Nat) (n : Nat) (hm : m n = false) : ∀ j, pGrM m E (n + 1) j = pGrM m E n j := by
  intro j
  induction j with
  | zero => rfl
  | succ j ih =>
    unfold pGrM
    rw [ih, pCnt_s, hm]
    rfl
theorem pGr_eq (m : Nat → Bool) (E : Nat → Nat) : ∀ n, pGrC m E n = pGrM m E n n := by
  intro n
  induction n with
  | zero => rfl
  | succ n ih =>
    unfold pGrC
    rw [show pGrM m E (n + 1) (n + 1) = max (pGrM m E (n + 1) n) (if m n then pCnt m E (E n) (n + 1) else 0) from rfl]
    cases hm : m n with
    | false =>
      simp only [Bool.false_eq_true, if_false]
      rw [pGr_n m E n hm, ih]
      omega
    | true =>
      simp only [if_true]
      rw [pGr_s m E n hm, ih]
def pBest (gr : Nat → Nat) : Nat → Nat × Nat
  | 0 => (0, gr 0)
  | n + 1 => if gr (n + 1) < (pBest gr n).2 then (n + 1, gr (n + 1)) else pBest gr n
theorem pBest_2 (gr : Nat → Nat) : ∀ n, gr (pBest gr n).1 = (pBest gr n).2 ∧ (pBest gr n).1 ≤ n := by
  intro n
  induction n with
  | zero => exact ⟨rfl, Nat.le_refl _⟩
  | succ n ih =>
    unfold pBest
    split
    · exact ⟨rfl, Nat.le_refl _⟩
    · exact ⟨ih.1, by omega⟩
abbrev pGr (k set mood : Nat) : Nat := pGrC (fun w => set.testBit w) (fun w => pW k w mood) 10
theorem pGr_10 (k set mood : Nat) : pGr k set mood ≤ 10 := by
  unfold pGr
  rw [pGr_eq]
  exact pGrM_le _ _ _ _
theorem grC_eq {k set mood : Nat} (hk : k ≤ 5) (hs : set < 1024) (hm : mood ≤ 9) (S : zMem) : ∃ S1, f_X0_greatestPart (iI k) (iI set) (iI mood) S = some (iI (pGr k set mood), S1) ∧ (∀ c, c ≠ 66 → S1.1 c = S.1 c) ∧ S1.2 = S.2 := by
  refine zforI (F := fun f i T => X0_greatestPart_l3 f (iI k) (iI set) (iI mood) (iI (i : Nat)) T) (n := 10) (P := fun i T => (∀ e, e < i → T.1 66 e = iI 0) ∧ (∀ c, c ≠ 66 → T.1 c = S.1 c) ∧ T.2 = S.2) (Q := fun r => ∃ S1, r = some (iI (pGr k set mood), S1) ∧ (∀ c, c ≠ 66 → S1.1 c = S.1 c) ∧ S1.2 = S.2) (fun f i T hi hT => ?_) (fun f T hT => ?_) (zF_gt (by omega)) (a := S) ⟨fun e he => by omega, fun _ _ => rfl, rfl⟩
  · left
    obtain ⟨t1, t2, t3⟩ := hT
    simp (disch := omega) only [X0_greatestPart_l3, X0_greatestPart_b3, lit_9, iI_lt]
    rw [if_neg (by omega)]
    simp (disch := omega) only [zi_I, zc_true, zl_e, iI_cln]
    obtain ⟨T1, w1, w2, w3, w4, w5⟩ := wr T 66 i (0 : Int32)
    rw [w1, lit_1, iI_add]
    refine ⟨T1, ⟨fun e he => ?_, fun c hc => by rw [w4 c hc, t2 c hc], by rw [w5, t3]⟩, rfl⟩
    by_cases hei : e = i
    · subst hei
      exact w2
    · rw [w3 e hei]
      exact t1 e (by omega)
  · obtain ⟨t1, t2, t3⟩ := hT
    simp (disch := omega) only [X0_greatestPart_l3, X0_greatestPart_b3, lit_9, iI_lt]
    rw [if_pos (by omega)]
    refine zforI (F := fun f i T => X0_greatestPart_l30 f (iI k) (iI set) (iI mood) (iI (pGrC (fun w => set.testBit w) (fun w => pW k w mood) i : Nat)) (iI (i : Nat)) T) (n := 10) (P := fun i T => (∀ e, e < 10 → T.1 66 e = iI (pCnt (fun w => set.testBit w) (fun w => pW k w mood) e i : Nat)) ∧ (∀ c, c ≠ 66 → T.1 c = S.1 c) ∧ T.2 = S.2) (Q := fun r => ∃ S1, r = some (iI (pGr k set mood), S1) ∧ (∀ c, c ≠ 66 → S1.1 c = S.1 c) ∧ S1.2 = S.2) (fun f i T hi hT => ?_) (fun f T hT => ?_) (zF_gt (by omega)) (a := T) ⟨fun e he => t1 e he, t2, t3⟩
    · left
      obtain ⟨t1, t2, t3⟩ := hT
      have hE := pW_le (k := k) (w := i) (m := mood) (by omega) hm
      simp (disch := omega) only [X0_greatestPart_l30, X0_greatestPart_b30, X0_greatestPart_b80, lit_9, iI_lt]
      rw [if_neg (by omega)]
      simp only [zl_e, bitK i hi set hs]
      cases hb : set.testBit i with
      | false =>
        rw [if_neg Bool.false_ne_true, if_pos rfl, lit_1, iI_add]
        refine ⟨T, ⟨fun e he => ?_, t2, t3⟩, ?_⟩
        · rw [pCnt_s, t1 e he]
          simp [hb]
        · rw [show pGrC (fun w => set.testBit w) (fun w => pW k w mood) (i + 1) = pGrC (fun w => set.testBit w) (fun w => pW k w mood) i by rw [pGrC]; simp [hb]]
          rfl
      | true =>
        rw [if_pos rfl, if_neg (by decide), X1_warmth_eq hk (by omega) hm]
        simp (disch := omega) only [zb_some, zi_I, zc_true, iI_cln]
        rw [t1 _ (by omega), lit_1, iI_add]
        obtain ⟨T1, w1, w2, w3, w4, w5⟩ := wr T 66 (pW k i mood) (iI ((pCnt (fun w => set.testBit w) (fun w => pW k w mood) (pW k i mood) i : Int) + 1))
        rw [w1, w2, iI_add]
        have hc1 : pCnt (fun w => set.testBit w) (fun w => pW k w mood) (pW k i mood) (i + 1) = pCnt (fun w => set.testBit w) (fun w => pW k w mood) (pW k i mood) i + 1 := by
          rw [pCnt_s]
          simp [hb]
        refine ⟨T1, ⟨fun e he => ?_, fun c hc => by rw [w4 c hc, t2 c hc], by rw [w5, t3]⟩, ?_⟩
        · by_cases hee : e = pW k i mood
          · subst hee
            rw [w2, hc1]
            rfl
          · rw [w3 e hee, t1 e he, pCnt_s]
            have : (pW k i mood == e) = false := by simpa using fun q => hee q.symm
            simp [this]
        · have hl1 := pCnt_le (fun w => set.testBit w) (fun w => pW k w mood) (pW k i mood) i
          have hl2 : pGrC (fun w => set.testBit w) (fun w => pW k w mood) i ≤ i := by rw [pGr_eq]; exact pGrM_le _ _ _ _
          have hg1 : pGrC (fun w => set.testBit w) (fun w => pW k w mood) (i + 1) = max (pGrC (fun w => set.testBit w) (fun w => pW k w mood) i) (pCnt (fun w => set.testBit w) (fun w => pW k w mood) (pW k i mood) i + 1) := by
            rw [pGrC]
            simp only [hb, if_true]
            rw [hc1]
          rw [hg1]
          have q := iI_lt (a := (pGrC (fun w => set.testBit w) (fun w => pW k w mood) i : Int)) (b := (pCnt (fun w => set.testBit w) (fun w => pW k w mood) (pW k i mood) i : Int) + 1) (by omega) (by omega) (by omega) (by omega)
          simp only [q, iI_ite]
          congr 2
          split <;> omega
    · simp (disch := omega) only [X0_greatestPart_l30, X0_greatestPart_b30, lit_9, iI_lt]
      rw [if_pos (by omega)]
      exact ⟨T, rfl, hT.2.1, hT.2.2⟩
theorem bestMood_C {k set : Nat} (hk : k ≤ 5) (hs : set < 1024) (S : zMem) : ∃ S1, f_X0_bestMood (iI k) (iI set) S = some (iI (pBest (pGr k set) 9).1, S1) ∧ (∀ c, c ≠ 66 → S1.1 c = S.1 c) ∧ S1.2 = S.2 := by
  obtain ⟨T, e1, e2, e3⟩ := grC_eq (mood := 0) hk hs (by omega) S
  have e1' : f_X0_greatestPart (iI k) (iI set) (0 : Int32) S = some (iI (pGr k set 0), T) := e1
  simp only [f_X0_bestMood, X0_bestMood_b0, e1', zb_some]
  refine zforI (F := fun f i T => X0_bestMood_l14 f (iI k) (iI set) (iI ((pBest (pGr k set) i).1 : Nat)) (iI ((pBest (pGr k set) i).2 : Nat)) (iI ((i : Nat) + 1 : Nat)) T) (n := 9) (P := fun i T => (∀ c, c ≠ 66 → T.1 c = S.1 c) ∧ T.2 = S.2) (Q := fun r => ∃ S1, r = some (iI (pBest (pGr k set) 9).1, S1) ∧ (∀ c, c ≠ 66 → S1.1 c = S.1 c) ∧ S1.2 = S.2) (fun f i T hi hT => ?_) (fun f T hT => ?_) (zF_gt (by omega)) (a := T) ⟨e2, e3⟩
  · left
    obtain ⟨t2, t3⟩ := hT
    obtain ⟨T1, w1, w2, w3⟩ := grC_eq (mood := i + 1) hk hs (by omega) T
    have h10 := pGr_10 k set (i + 1)
    have hp : (pBest (pGr k set) i).2 ≤ 10 := by rw [← (pBest_2 (pGr k set) i).1]; exact pGr_10 _ _ _
    simp (disch := omega) only [X0_bestMood_l14, X0_bestMood_b14, X0_bestMood_b45, lit_9, iI_lt]
    rw [if_neg (by omega), w1]
    simp (disch := omega) only [zb_some, zl_e, iI_le, lit_1, iI_add]
    refine ⟨T1, ⟨fun c hc => by rw [w2 c hc, t2 c hc], by rw [w3, t3]⟩, ?_⟩
    rw [show pBest (pGr k set) (i + 1) = if pGr k set (i + 1) < (pBest (pGr k set) i).2 then (i + 1, pGr k set (i + 1)) else pBest (pGr k set) i from rfl]
    by_cases hc : pGr k set (i + 1) < (pBest (pGr k set) i).2
    · rw [if_neg (by omega), if_pos hc]
      rfl
    · rw [if_pos (by omega), if_neg hc]
      rfl
  · simp (disch := omega) only [X0_bestMood_l14, X0_bestMood_b14, lit_9, iI_lt]
    rw [if_pos (by omega)]
    exact ⟨T, rfl, hT.1, hT.2⟩
theorem mhasK {c l : Nat} (hc : c < 1024) (hl : l < 10) (S : zMem) : f_X9_has (iI c) (iI l) S = some (if c.testBit l then 1 else 0, S) := by
  simp only [f_X9_has, X9_has_b0, X9_has_b14, zl_e, bitK l hl c hc]
  by_cases h : c.testBit l = true
  · rw [if_pos h]
    rfl
  · rw [if_neg h]
    rfl
theorem grM_eq {S : zMem} {o : pRoad} {l set mood : Nat} (ho : pRok o) (hc : oM S o) (hl : l < rN o) (hs : set < 1024) (hm : mood ≤ 9) : f_X9_greatestPart (iI l) (iI set) (iI mood) S = some (iI (pGr (rK o l) set mood), S) := by
  have hN := ho.2.1
  have hk := (ho.2.2.1 l hl).1
  have h2l := (hc.2.2 l hl).1
  unfold pGr
  rw [pGr_eq]
  refine zfor (F := fun f i => X9_greatestPart_l6 f (iI l) (iI set) (iI mood) (iI (pGrM (fun w => set.testBit w) (fun w => pW (rK o l) w mood) 10 i : Nat)) (iI (i : Nat)) S) (n := 10) (fun f i hi => ?_) (fun f => ?_) (zF_gt (by omega))
  · simp (disch := omega) only [X9_greatestPart_l6, X9_greatestPart_b6, lit_10, iI_le]
    rw [if_neg (by omega)]
    have hE := pW_le (k := rK o l) (w := i) (m := mood) (by omega) hm
    refine zfor (F := fun f2 j => X9_greatestPart_l19 (X9_greatestPart_l6 f) f2 (iI l) (iI set) (iI mood) (iI (pGrM (fun w => set.testBit w) (fun w => pW (rK o l) w mood) 10 i : Nat)) (iI (i : Nat)) (iI (pSum (fun w => if set.testBit i && (set.testBit w && pW (rK o l) w mood == pW (rK o l) i mood) then 1 else 0) j : Nat)) (iI (j : Nat)) S) (n := 10) (fun f2 j hj => ?_) (fun f2 => ?_) (zF_gt (by omega))
    · have hE2 := pW_le (k := rK o l) (w := j) (m := mood) (by omega) hm
      simp (disch := omega) only [X9_greatestPart_l19, X9_greatestPart_b19, X9_greatestPart_b77, X9_greatestPart_b78, lit_10, iI_le]
      rw [if_neg (by omega), mhasK hs hi, show pSum (fun w => if set.testBit i && (set.testBit w && pW (rK o l) w mood == pW (rK o l) i mood) then 1 else 0) (j + 1) = pSum (fun w => if set.testBit i && (set.testBit w && pW (rK o l) w mood == pW (rK o l) i mood) then 1 else 0) j + (if set.testBit i && (set.testBit j && pW (rK o l) j mood == pW (rK o l) i mood) then 1 else 0) from rfl]
      simp only [zb_some]
      cases hb : set.testBit i with
      | false =>
        simp only [Bool.false_eq_true, if_false, zero_0, if_true, zl_e, lit_1, lit_0, iI_add, Bool.false_and]
        rfl
      | true =>
        simp only [if_true, one_0, if_false, mhasK hs hj, zb_some, Bool.true_and]
        cases hb2 : set.testBit j with
        | false =>
          simp only [Bool.false_eq_true, if_false, zero_0, if_true, zl_e, lit_1, lit_0, iI_add, Bool.false_and]
          rfl
        | true =>
          simp (disch := omega) only [if_true, one_0, if_false, zi_I, zc_true, zl_e, iI_cln, h2l, Bool.true_and, X9_endsBy_eq hk (show i ≤ 9 by omega) hm, X9_endsBy_eq hk (show j ≤ 9 by omega) hm, zb_some, eqn]
          by_cases he : pW (rK o l) i mood = pW (rK o l) j mood
          · rw [if_pos he, if_pos (by simpa using he.symm), lit_1, iI_add, iI_add]
            rfl
          · rw [if_neg he, if_neg (by simpa using fun q => he q.symm), lit_1, lit_0, iI_add, iI_add]
            rfl
    · have hg0 := pGrM_le (fun w => set.testBit w) (fun w => pW (rK o l) w mood) 10 i
      have hs0 : pSum (fun w => if set.testBit i && (set.testBit w && pW (rK o l) w mood == pW (rK o l) i mood) then 1 else 0) 10 ≤ 10 := pSum_le (fun w => by split <;> omega) 10
      have hacc : pSum (fun w => if set.testBit i && (set.testBit w && pW (rK o l) w mood == pW (rK o l) i mood) then 1 else 0) 10 = if set.testBit i then pCnt (fun w => set.testBit w) (fun w => pW (rK o l) w mood) (pW (rK o l) i mood) 10 else 0 := by
        cases hb : set.testBit i with
        | false =>
          simp only [Bool.false_and, Bool.false_eq_true, if_false]
          rfl
        | true =>
          simp only [Bool.true_and, if_true]
          rfl
      simp (disch := omega) only [X9_greatestPart_l19, X9_greatestPart_b19, X9_greatestPart_b101, lit_10, iI_le]
      rw [if_pos (by omega)]
      rw [show pGrM (fun w => set.testBit w) (fun w => pW (rK o l) w mood) 10 (i + 1) = max (pGrM (fun w => set.testBit w) (fun w => pW (rK o l) w mood) 10 i) (if set.testBit i then pCnt (fun w => set.testBit w) (fun w => pW (rK o l) w mood) (pW (rK o l) i mood) 10 else 0) from rfl, ← hacc]
      generalize pSum (fun w => if set.testBit i && (set.testBit w && pW (rK o l) w mood == pW (rK o l) i mood) then 1 else 0) 10 = a at hs0 ⊢
      simp only [zl_e, lit_1, iI_add]
      by_cases hc2 : a ≤ pGrM (fun w => set.testBit w) (fun w => pW (rK o l) w mood) 10 i
      · rw [if_pos (by omega), Nat.max_eq_left hc2]
        rfl
      · rw [if_neg (by omega), Nat.max_eq_right (by omega)]
        rfl
  · simp (disch := omega) only [X9_greatestPart_l6, X9_greatestPart_b6, lit_10, iI_le]
    rw [if_pos (by omega)]
def qTest (x y : Int32) (g : pSig) : Int32 × pSig := match pIn x (rN (gO g)), pIn y 6 with
  | some l, some j => if pWrong (gR g j) = 0 then (if pWs (rK (gO g) l) (gR g j) = 0 then (-9, g) else (iI (pBest (pGr (rK (gO g) l) (pWs (rK (gO g) l) (gR g j))) 9).1, (qTell (iI (pBest (pGr (rK (gO g) l) (pWs (rK (gO g) l) (gR g j))) 9).2) g).2)) else qRef (pWrong (gR g j)) g
  | _, _ => (-1, g)
theorem test_wf (x y : Int32) : ∀ g, pWf g → pWf (qTest x y g).2 := by
  intro g h
  unfold qTest
  split
  · split
    · split
      · exact h
      · exact wf_told (g := g) _ h
    · exact wf_told (g := g) _ h
  · exact h
theorem test_C (x y : Int32) : okC (f_X8_test x y) (qTest x y) := by
  intro S g hg h
  unfold qTest
  simp only [f_X8_test, X8_test_b0, X8_test_b15]
  cases hx : pIn x (rN (gO g)) with
  | none =>
    simp only [isLetter_f hg.o h.o hx, zb_some, zero_0, if_true]
    exact ⟨S, rfl, h⟩
  | some l =>
    obtain ⟨rfl, hl⟩ := pIn_some hx
    simp only [isLetter_t hg.o h.o hl, zb_some, one_0, if_false]
    cases hy : pIn y 6 with
    | none =>
      simp only [isRow_f hy, zb_some, zero_0, if_true]
      exact ⟨S, rfl, h⟩
    | some j =>
      obtain ⟨rfl, hj⟩ := pIn_some hy
      have hN := hg.o.2.1
      have h6 := pWrong_6 (gR g j)
      have hk := (hg.o.2.2.1 l hl).1
      have hl1 := (h.o.2.2.2.2.2 l hl).1
      simp (disch := omega) only [isRow_t hj, zb_some, one_0, if_false, zi_I, zc_true, iI_cln, wrongPairs_C hg h hj, eqn0]
      by_cases hp : pWrong (gR g j) = 0
      · rw [if_pos hp, if_pos hp]
        have hK : pWs (rK (gO g) l) (gR g j) < 1024 := pBits_K (by omega)
        simp (disch := omega) only [zl_e, hl1, wordsFor_C hg h hj hp hk, zb_some, eqn0]
        by_cases h0 : pWs (rK (gO g) l) (gR g j) = 0
        · rw [if_pos h0, if_pos h0]
          exact ⟨S, rfl, h⟩
        · rw [if_neg h0, if_neg h0]
          obtain ⟨T1, a1, a2, a3⟩ := bestMood_C hk hK S
          rw [a1]
          simp only [zb_some]
          have hb := pBest_2 (pGr (rK (gO g) l) (pWs (rK (gO g) l) (gR g j))) 9
          obtain ⟨T2, b1, b2, b3⟩ := grC_eq hk hK (show (pBest (pGr (rK (gO g) l) (pWs (rK (gO g) l) (gR g j))) 9).1 ≤ 9 from hb.2) T1
          rw [a2 26 (by omega), hl1, b1, hb.1]
          simp only [zb_some]
          have h2 : RC T2 g := h.cg (fun c hc => by rw [b2 c (by omega), a2 c (by omega)]) (by rw [b3, a3])
          obtain ⟨S1, c1, c2, -⟩ := tell_C (iI (pBest (pGr (rK (gO g) l) (pWs (rK (gO g) l) (gR g j))) 9).2) h2
          rw [c1]
          exact ⟨S1, rfl, c2⟩
      · rw [if_neg hp, if_neg hp]
        exact ref_Ce _ h6 h rfl
def pTst (gr : Nat → Nat) : Nat → Int × Int
  | 0 => (-9, 99999)
  | i + 1 => (((pBest gr i).1 : Int), ((pBest gr i).2 : Int))
theorem test_loopM {S : zMem} {g : pSig} {l set : Nat} (hg : pWf g) (h : RM S g) (hl : l < rN (gO g)) (hs : set < 1024) : ∃ S1, X9_test_l56 zF (iI l) (iI set) (-9 : Int32) (99999 : Int32) (0 : Int32) S = some (iI (pBest (pGr (rK (gO g) l) set) 9).1, S1) ∧ RM S1 (qTell (iI (pBest (pGr (rK (gO g) l) set) 9).2) g).2 := by
  refine zforI (F := fun f i (_ : Unit) => X9_test_l56 f (iI l) (iI set) (iI (pTst (pGr (rK (gO g) l) set) i).1) (iI (pTst (pGr (rK (gO g) l) set) i).2) (iI (i : Nat)) S) (n := 10) (P := fun _ _ => True) (Q := fun r => ∃ S1, r = some (iI (pBest (pGr (rK (gO g) l) set) 9).1, S1) ∧ RM S1 (qTell (iI (pBest (pGr (rK (gO g) l) set) 9).2) g).2) (fun f i a hi ha => Or.inl ⟨(), trivial, ?_⟩) (fun f a ha => ?_) (zF_gt (by omega)) (a := ()) trivial
  · have h10 := pGr_10 (rK (gO g) l) set i
    simp (disch := omega) only [X9_test_l56, X9_test_b56, X9_test_b88, X9_test_b104, lit_10, iI_le]
    rw [if_neg (by omega), grM_eq hg.o h.o hl hs (by omega)]
    simp only [zb_some, zl_e, lit_1, iI_add]
    cases i with
    | zero =>
      have q : iI (pTst (pGr (rK (gO g) l) set) 0).2 ≤ iI (pGr (rK (gO g) l) set 0 : Nat) ↔ (99999 : Int) ≤ (pGr (rK (gO g) l) set 0 : Nat) := iI_le (by show (-2147483648 : Int) ≤ 99999; decide) (by show (99999 : Int) < 2147483648; decide) (by omega) (by omega)
      simp only [q]
      rw [if_neg (by omega), if_neg (by omega)]
      rfl
    | succ i =>
      have hp : (pBest (pGr (rK (gO g) l) set) i).2 ≤ 10 := by rw [← (pBest_2 (pGr (rK (gO g) l) set) i).1]; exact pGr_10 _ _ _
      have q : iI (pTst (pGr (rK (gO g) l) set) (i + 1)).2 ≤ iI (pGr (rK (gO g) l) set (i + 1) : Nat) ↔ ((pBest (pGr (rK (gO g) l) set) i).2 : Int) ≤ (pGr (rK (gO g) l) set (i + 1) : Nat) := iI_le (by show (-2147483648 : Int) ≤ ((pBest (pGr (rK (gO g) l) set) i).2 : Int); omega) (by show ((pBest (pGr (rK (gO g) l) set) i).2 : Int) < 2147483648; omega) (by omega) (by omega)
      simp only [q]
      rw [show pTst (pGr (rK (gO g) l) set) (i + 1 + 1) = (((pBest (pGr (rK (gO g) l) set) (i + 1)).1 : Int), ((pBest (pGr (rK (gO g) l) set) (i + 1)).2 : Int)) from rfl, show pBest (pGr (rK (gO g) l) set) (i + 1) = if pGr (rK (gO g) l) set (i + 1) < (pBest (pGr (rK (gO g) l) set) i).2 then (i + 1, pGr (rK (gO g) l) set (i + 1)) else pBest (pGr (rK (gO g) l) set) i from rfl]
      by_cases hc : pGr (rK (gO g) l) set (i + 1) < (pBest (pGr (rK (gO g) l) set) i).2
      · rw [if_neg (by omega), if_neg (by omega), if_pos hc]
        rfl
      · rw [if_pos (by omega), if_pos (by omega), if_neg hc]
        rfl
  · simp (disch := omega) only [X9_test_l56, X9_test_b56, lit_10, iI_le]
    rw [if_pos (by omega)]
    obtain ⟨S1, e1, e2⟩ := tell_M (iI (pBest (pGr (rK (gO g) l) set) 9).2) h
    have e3 : zp S 0 (upd (S.1 0) 10 (iI (pBest (pGr (rK (gO g) l) set) 9).2)) = S1 := (Prod.mk.inj (Option.some.inj e1)).2
    simp only [zl_e]
    exact ⟨S1, by rw [← e3]; rfl, e2⟩
theorem test_M (x y : Int32) : okM (f_X9_test x y) (qTest x y) := by
  intro S g hg h
  unfold qTest
  simp only [f_X9_test, X9_test_b0, X9_test_b15]
  cases hx : pIn x (rN (gO g)) with
  | none =>
    simp only [misLetter_f hg.o h.o hx, zb_some, zero_0, if_true]
    exact ⟨S, rfl, h⟩
  | some l =>
    obtain ⟨rfl, hl⟩ := pIn_some hx
    simp only [misLetter_t hg.o h.o hl, zb_some, one_0, if_false]
    cases hy : pIn y 6 with
    | none =>
      simp only [misRow_f hy, zb_some, zero_0, if_true]
      exact ⟨S, rfl, h⟩
    | some j =>
      obtain ⟨rfl, hj⟩ := pIn_some hy
      have h6 := pWrong_6 (gR g j)
      simp only [misRow_t hj, zb_some, one_0, if_false, noPairs_M hg h hj]
      by_cases hp : pWrong (gR g j) = 0
      · rw [if_pos hp, if_pos hp]
        have hK : pWs (rK (gO g) l) (gR g j) < 1024 := pBits_K (by omega)
        simp (disch := omega) only [zb_some, zero_0, if_true, wordsBy_M hg h hj hp hl, eqn0]
        by_cases h0 : pWs (rK (gO g) l) (gR g j) = 0
        · rw [if_pos h0, if_pos h0]
          exact ⟨S, rfl, h⟩
        · rw [if_neg h0, if_neg h0]
          exact test_loopM hg h hl hK
      · rw [if_neg hp, if_neg hp]
        obtain ⟨S1, e1, e2⟩ := ref_M (f := pWrong (gR g j)) h6 h
        rw [e1]
        simp only [zb_some, m3_0, if_false]
        exact ⟨S1, rfl, e2⟩
