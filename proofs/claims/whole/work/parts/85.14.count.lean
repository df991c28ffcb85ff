/-! count -/
def pSum (f : Nat → Nat) : Nat → Nat
  | 0 => 0
  | n + 1 => pSum f n + f n
theorem pSum_cg {f f2 : Nat → Nat} : ∀ {n : Nat}, (∀ i, i < n → f i = f2 i) → pSum f n = pSum f2 n := by
  intro n
  induction n with
  | zero => exact fun _ => rfl
  | succ n ih =>
    intro h
    show pSum f n + f n = pSum f2 n + f2 n
    rw [ih (fun i hi => h i (by omega)), h n (by omega)]
theorem iI_nadd (a b : Nat) : iI (a : Int) + iI (b : Int) = iI ((a + b : Nat) : Int) := by rw [iI_add]; rfl
theorem allBonds_C {S : zMem} {o : pRoad} {s : pSt} (ho : pRok o) (hc : oC S o) (hs : sCl S 35 o s) : f_X4_allBonds 35 S = some (iI (pSum (sB s) (rH o)), S) := by
  have hH := ho.1
  refine zfor (F := fun f i => X4_allBonds_l4 f 35 (iI (pSum (sB s) i : Nat)) (iI (i : Nat)) S) (n := rH o) (fun f i hi => ?_) (fun f => ?_) (zF_gt (by omega))
  · simp (disch := omega) only [X4_allBonds_l4, X4_allBonds_b4, zl_e, hc.1, iI_le]
    rw [if_neg (by omega)]
    simp (disch := omega) only [zi_I, zc_true, iI_cln]
    rw [show S.1 (35 + 1) i = iI (sB s i) from hs.2.2.2.2.2.1 i hi, iI_nadd, lit_1, iI_add]
    rfl
  · simp (disch := omega) only [X4_allBonds_l4, X4_allBonds_b4, zl_e, hc.1, iI_le]
    rw [if_pos (by omega)]
theorem allBonds_M {S : zMem} {o : pRoad} {s : pSt} (ho : pRok o) (hc : oM S o) (hs : sMo S 1 o s) : f_X9_allBonds S = some (iI (pSum (sB s) (rH o)), S) := by
  have hH := ho.1
  refine zfor (F := fun f i => X9_allBonds_l4 f (iI (pSum (sB s) i : Nat)) (iI (i : Nat)) S) (n := rH o) (fun f i hi => ?_) (fun f => ?_) (zF_gt (by omega))
  · simp (disch := omega) only [X9_allBonds_l4, X9_allBonds_b4, zl_e, hc.1, iI_le]
    rw [if_neg (by omega)]
    simp (disch := omega) only [lit_6, iI_add, zi_I, zc_true, iI_cl, tn_add, tn_cast]
    rw [show S.1 1 ((6 : Int).toNat + i) = iI (sB s i) from hs.2.2.2.2.2.1 i hi, iI_add, lit_1, iI_add]
    rfl
  · simp (disch := omega) only [X9_allBonds_l4, X9_allBonds_b4, zl_e, hc.1, iI_le]
    rw [if_pos (by omega)]
def pOf (o : pRoad) (m : Nat) (l : Nat) : Nat := if pIsOf (rK o l) m then 1 else 0
theorem lettersOf_eq {S : zMem} {o : pRoad} {m : Nat} (ho : pRok o) (hc : oC S o) (h1 : 1 ≤ m) (h5 : m ≤ 5) : f_X6_lettersOf (iI m) S = some (iI (pSum (pOf o m) (rN o)), S) := by
  have hN := ho.2.1
  refine zfor (F := fun f i => X6_lettersOf_l4 f (iI m) (iI (pSum (pOf o m) i : Nat)) (iI (i : Nat)) S) (n := rN o) (fun f i hi => ?_) (fun f => ?_) (zF_gt (by omega))
  · have hk := ho.2.2.1 i hi
    simp (disch := omega) only [X6_lettersOf_l4, X6_lettersOf_b4, zl_e, hc.2.1, iI_le]
    rw [if_neg (by omega)]
    simp (disch := omega) only [zi_I, zc_true, iI_cln, (hc.2.2.2.2.2 i hi).1]
    rw [isOf_eq hk.1 h1 h5]
    simp only [zb_some, X6_lettersOf_b31, zl_e]
    rw [show pSum (pOf o m) (i + 1) = pSum (pOf o m) i + pOf o m i from rfl]
    unfold pOf
    by_cases hq : pIsOf (rK o i) m = true
    · rw [if_pos hq, if_pos hq, if_neg (by decide), lit_1, iI_add, iI_add]
      rfl
    · rw [if_neg hq, if_neg hq, if_pos (by decide), lit_1, lit_0, iI_add, iI_add]
      rfl
  · simp (disch := omega) only [X6_lettersOf_l4, X6_lettersOf_b4, zl_e, hc.2.1, iI_le]
    rw [if_pos (by omega)]
theorem those_eq {S : zMem} {o : pRoad} {m : Nat} (ho : pRok o) (hc : oM S o) (h1 : 1 ≤ m) (h5 : m ≤ 5) : f_X9_those (iI m) S = some (iI (pSum (pOf o m) (rN o)), S) := by
  have hN := ho.2.1
  refine zfor (F := fun f i => X9_those_l4 f (iI m) (iI (pSum (pOf o m) i : Nat)) (iI (i : Nat)) S) (n := rN o) (fun f i hi => ?_) (fun f => ?_) (zF_gt (by omega))
  · simp (disch := omega) only [X9_those_l4, X9_those_b4, zl_e, hc.2.1, iI_le]
    rw [if_neg (by omega), misOf_eq ho hc hi h1 h5]
    simp only [zb_some, X9_those_b27, zl_e]
    rw [show pSum (pOf o m) (i + 1) = pSum (pOf o m) i + pOf o m i from rfl]
    unfold pOf
    by_cases hq : pIsOf (rK o i) m = true
    · rw [if_pos hq, if_pos hq, if_neg (by decide), lit_1, iI_add, iI_add]
      rfl
    · rw [if_neg hq, if_neg hq, if_pos (by decide), lit_1, lit_0, iI_add, iI_add]
      rfl
  · simp (disch := omega) only [X9_those_l4, X9_those_b4, zl_e, hc.2.1, iI_le]
    rw [if_pos (by omega)]
def pThere (R : pRw) (r : Nat) : Nat := if (R r).1 < 0 then 0 else 1
def pHeld (kp : Nat → Option pDs) (k : Nat) : Nat := if (kp k).isSome then 1 else 0
theorem there_C {S : zMem} {c b n : Nat} {R : pRw} (hn : n ≤ 6) (hc : (c = 1 ∧ b = 4) ∨ (c = 2 ∧ b = 16)) (hl : lnC c = n) (hw : wC S b n R) (hR : ∀ r, r < n → -1 ≤ (R r).1 ∧ (R r).1 ≤ 60) : f_X8_howManyThere c S = some (iI (pSum (pThere R) n), S) := by
  have eL : Int32.ofNat (lnC c) = iI (n : Nat) := by rw [hl]; exact iI_nat _
  simp only [f_X8_howManyThere, X8_howManyThere_b0, eL]
  refine zfor (F := fun f i => X8_howManyThere_l10 f (iI (pSum (pThere R) i : Nat)) c (iI n) (iI (i : Nat)) S) (n := n) (fun f i hi => ?_) (fun f => ?_) (zF_gt (by omega))
  · simp (disch := omega) only [X8_howManyThere_l10, X8_howManyThere_b10, iI_le]
    rw [if_neg (by omega), hl]
    simp (disch := omega) only [zi_I, zc_true, iI_cln]
    have er : rfC c i = b + 2 * i := by
      rcases hc with ⟨rfl, rfl⟩ | ⟨rfl, rfl⟩
      · rfl
      · rfl
    have h1 := (hw i hi).1
    have h2 := hR i hi
    rw [er, show pSum (pThere R) (i + 1) = pSum (pThere R) i + pThere R i from rfl]
    unfold pThere
    by_cases hs : (R i).1 < 0
    · have e1 : (R i).1 = -1 := by omega
      rw [e1] at h1
      rw [isThere_f h1, if_pos hs]
      simp only [zb_some, zero_0, if_true, X8_howManyThere_b36, zl_e, lit_0, lit_1, iI_add]
      rfl
    · rw [isThere_t h1 (by omega) (by omega), if_neg hs]
      simp only [zb_some, one_0, if_false, X8_howManyThere_b36, zl_e, lit_1, iI_add]
      rfl
  · simp (disch := omega) only [X8_howManyThere_l10, X8_howManyThere_b10, iI_le]
    rw [if_pos (by omega)]
theorem kept_C {S : zMem} {o : pRoad} {kp : Nat → Option pDs} (hk : kC S o kp) : f_X8_howManyKept S = some (iI (pSum (pHeld kp) 3), S) := by
  refine zfor (F := fun f i => X8_howManyKept_l13 f (iI (pSum (pHeld kp) i : Nat)) (3 : Int32) (iI (i : Nat)) S) (n := 3) (fun f i hi => ?_) (fun f => ?_) (zF_gt (by omega))
  · simp (disch := omega) only [X8_howManyKept_l13, X8_howManyKept_b13, show ((3 : Int32) = iI 3) from rfl, iI_le]
    rw [if_neg (by omega)]
    simp (disch := omega) only [zi_I, zc_true, iI_cln, zl_e]
    have h1 := hk i hi
    rw [show pSum (pHeld kp) (i + 1) = pSum (pHeld kp) i + pHeld kp i from rfl]
    unfold pHeld
    cases hq : kp i with
    | none =>
      rw [hq] at h1
      dsimp only at h1
      rw [h1]
      simp only [zero_0, if_true, X8_howManyKept_b39, zl_e, lit_0, lit_1, iI_add]
      rfl
    | some d =>
      rw [hq] at h1
      dsimp only at h1
      rw [h1.1]
      simp only [one_0, if_false, X8_howManyKept_b39, zl_e, lit_1, iI_add]
      rfl
  · simp (disch := omega) only [X8_howManyKept_l13, X8_howManyKept_b13, show ((3 : Int32) = iI 3) from rfl, iI_le]
    rw [if_pos (by omega)]
theorem pThere_lt {R : pRw} {r n : Nat} (hR : ∀ r, r < n → -1 ≤ (R r).1 ∧ (R r).1 ≤ 60) (hr : r < n) : ((iI (R r).1 < 0) ↔ (R r).1 < 0) ∧ ((0 ≤ iI (R r).1) ↔ ¬ (R r).1 < 0) := by
  have h := hR r hr
  constructor
  · rw [lit_0, iI_lt (by omega) (by omega) (by omega) (by omega)]
  · rw [lit_0, iI_le (by omega) (by omega) (by omega) (by omega)]
    omega
theorem thereOf_11 {S : zMem} {R : pRw} (hw : wM S 5 6 40 6 R) (hR : ∀ r, r < 6 → -1 ≤ (R r).1 ∧ (R r).1 ≤ 60) : f_X9_thereOf (11 : Int32) S = some (iI (pSum (pThere R) 6), S) := by
  refine zfor (F := fun f i => X9_thereOf_l4 f (11 : Int32) (iI (pSum (pThere R) i : Nat)) (iI (i : Nat)) S) (n := 6) (fun f i hi => ?_) (fun f => ?_) (zF_gt (by omega))
  · simp (disch := omega) only [X9_thereOf_l4, X9_thereOf_b4, show ((6 : Int32) = iI 6) from rfl, iI_le]
    rw [if_neg (by omega), if_pos trivial]
    simp (disch := omega) only [zi_I, zc_true, iI_cln, zl_e, (hw i hi).1, (pThere_lt hR hi).2, X9_thereOf_b89]
    rw [show pSum (pThere R) (i + 1) = pSum (pThere R) i + pThere R i from rfl]
    unfold pThere
    by_cases hs : (R i).1 < 0
    · rw [if_neg (by omega), if_pos hs, lit_1, lit_0, iI_add, iI_add]
      rfl
    · rw [if_pos hs, if_neg hs, lit_1, iI_add, iI_add]
      rfl
  · simp (disch := omega) only [X9_thereOf_l4, X9_thereOf_b4, show ((6 : Int32) = iI 6) from rfl, iI_le]
    rw [if_pos (by omega)]
theorem thereOf_12 {S : zMem} {R : pRw} (hw : wM S 7 8 60 4 R) (hR : ∀ r, r < 4 → -1 ≤ (R r).1 ∧ (R r).1 ≤ 60) : f_X9_thereOf (12 : Int32) S = some (iI (pSum (pThere R) 4), S) := by
  have e6 : pSum (pThere R) 4 = pSum (fun r => if 4 ≤ r then 0 else pThere R r) 6 := rfl
  rw [e6]
  refine zfor (F := fun f i => X9_thereOf_l4 f (12 : Int32) (iI (pSum (fun r => if 4 ≤ r then 0 else pThere R r) i : Nat)) (iI (i : Nat)) S) (n := 6) (fun f i hi => ?_) (fun f => ?_) (zF_gt (by omega))
  · simp (disch := omega) only [X9_thereOf_l4, X9_thereOf_b4, show ((6 : Int32) = iI 6) from rfl, iI_le]
    rw [if_neg (by omega), if_neg (by decide), if_pos trivial]
    simp (disch := omega) only [show ((4 : Int32) = iI 4) from rfl, iI_le]
    rw [show pSum (fun r => if 4 ≤ r then 0 else pThere R r) (i + 1) = pSum (fun r => if 4 ≤ r then 0 else pThere R r) i + (if 4 ≤ i then 0 else pThere R i) from rfl]
    by_cases h4 : 4 ≤ i
    · rw [if_pos (by omega), if_pos h4]
      simp only [X9_thereOf_b58, X9_thereOf_b89, zl_e, lit_1, lit_0, iI_add]
      rfl
    · rw [if_neg (by omega), if_neg h4]
      have hi4 : i < 4 := by omega
      simp (disch := omega) only [zi_I, zc_true, iI_cln, zl_e, (hw i hi4).1, (pThere_lt hR hi4).1, X9_thereOf_b58, X9_thereOf_b89]
      unfold pThere
      by_cases hs : (R i).1 < 0
      · rw [if_pos hs, if_pos hs, lit_1, lit_0, iI_add, iI_add]
        rfl
      · rw [if_neg hs, if_neg hs, lit_1, iI_add, iI_add]
        rfl
  · simp (disch := omega) only [X9_thereOf_l4, X9_thereOf_b4, show ((6 : Int32) = iI 6) from rfl, iI_le]
    rw [if_pos (by omega)]
theorem thereOf_13 {S : zMem} {o : pRoad} {kp : Nat → Option pDs} (hk : kM S o kp) (hd : ∀ k, k < 3 → ∀ d, kp k = some d → d.length ≤ 40) : f_X9_thereOf (iI ((13 : Nat) : Int)) S = some (iI (pSum (pHeld kp) 3), S) := by
  have e6 : pSum (pHeld kp) 3 = pSum (fun r => if 3 ≤ r then 0 else pHeld kp r) 6 := rfl
  rw [e6]
  refine zfor (F := fun f i => X9_thereOf_l4 f (13 : Int32) (iI (pSum (fun r => if 3 ≤ r then 0 else pHeld kp r) i : Nat)) (iI (i : Nat)) S) (n := 6) (fun f i hi => ?_) (fun f => ?_) (zF_gt (by omega))
  · simp (disch := omega) only [X9_thereOf_l4, X9_thereOf_b4, show ((6 : Int32) = iI 6) from rfl, iI_le]
    rw [if_neg (by omega), if_neg (by decide), if_neg (by decide)]
    simp (disch := omega) only [show ((3 : Int32) = iI 3) from rfl, iI_le]
    rw [show pSum (fun r => if 3 ≤ r then 0 else pHeld kp r) (i + 1) = pSum (fun r => if 3 ≤ r then 0 else pHeld kp r) i + (if 3 ≤ i then 0 else pHeld kp i) from rfl]
    by_cases h4 : 3 ≤ i
    · rw [if_pos (by omega), if_pos h4]
      simp only [X9_thereOf_b88, X9_thereOf_b89, zl_e, lit_1, lit_0, iI_add]
      rfl
    · rw [if_neg (by omega), if_neg h4]
      have hi4 : i < 3 := by omega
      simp (disch := omega) only [lit_1, lit_0, lit_698, iI_add, iI_mul, zi_I, zc_true, iI_cl, zl_e, X9_thereOf_b88, X9_thereOf_b89]
      rw [show ((698 : Int) * (1 + (i : Int)) + 0).toNat = 698 * (1 + i) by omega]
      have h1 := hk i hi4
      unfold pHeld
      cases hq : kp i with
      | none =>
        rw [hq] at h1
        dsimp only at h1
        rw [h1, if_pos (by decide)]
        rfl
      | some d =>
        have hd1 := hd i hi4 d hq
        rw [hq] at h1
        dsimp only at h1
        rw [h1.1]
        simp (disch := omega) only [iI_lt]
        rw [if_neg (by omega)]
        rfl
  · simp (disch := omega) only [X9_thereOf_l4, X9_thereOf_b4, show ((6 : Int32) = iI 6) from rfl, iI_le]
    rw [if_pos (by omega)]
def pCount (g : pSig) (k : Nat) : Nat :=
  if k = 0 then rH (gO g) else if k = 1 then rN (gO g) else if k = 2 then sD (gS g) else if k = 3 then (gD g).length else if k = 4 then sM (gS g) else if k = 5 then sE (gS g) else if k = 6 then sP (gS g) else if k = 7 then sC (gS g) else if k = 8 then pSum (sB (gS g)) (rH (gO g)) else if k = 9 then pSum (pOf (gO g) 1) (rN (gO g)) else if k = 10 then pSum (pOf (gO g) 3) (rN (gO g)) else if k = 11 then pSum (pThere (gR g)) 6 else if k = 12 then pSum (pThere (gX g)) 4 else pSum (pHeld (gK g)) 3
theorem c14 {k : Nat} (h : k < 14) : k = 0 ∨ k = 1 ∨ k = 2 ∨ k = 3 ∨ k = 4 ∨ k = 5 ∨ k = 6 ∨ k = 7 ∨ k = 8 ∨ k = 9 ∨ k = 10 ∨ k = 11 ∨ k = 12 ∨ k = 13 := by omega
theorem pWf.r60 {g : pSig} (h : pWf g) : ∀ r, r < 6 → -1 ≤ (gR g r).1 ∧ (gR g r).1 ≤ 60 := fun r hr => by have := h.1 r hr; omega
theorem RC.k {S : zMem} {g : pSig} (h : RC S g) : kC S (gO g) (gK g) := h.2.2.2.2.2.2
theorem RM.k {S : zMem} {g : pSig} (h : RM S g) : kM S (gO g) (gK g) := h.2.2.2.2.2
theorem countOf_C {S : zMem} {g : pSig} {k : Nat} (hg : pWf g) (h : RC S g) (hk : k < 14) : f_X8_countOf (iI k) S = some (iI (pCount g k), S) := by
  have hs := h.s
  rcases c14 hk with rfl | rfl | rfl | rfl | rfl | rfl | rfl | rfl | rfl | rfl | rfl | rfl | rfl | rfl
  · show some (S.1 24 4, S) = _
    rw [h.o.1]; rfl
  · show some (S.1 24 5, S) = _
    rw [h.o.2.1]; rfl
  · show some (S.1 35 7, S) = _
    rw [hs.1]; rfl
  · show some (S.1 35 6, S) = _
    rw [h.d.1]; rfl
  · show some (S.1 35 8, S) = _
    rw [hs.2.1]; rfl
  · show some (S.1 35 9, S) = _
    rw [hs.2.2.1]; rfl
  · show some (S.1 35 10, S) = _
    rw [hs.2.2.2.1]; rfl
  · show some (S.1 35 11, S) = _
    rw [hs.2.2.2.2.1]; rfl
  · show zb (f_X4_allBonds 35 S) (fun v S => some (v, S)) = _
    rw [allBonds_C hg.o h.o hs]; rfl
  · show zb (f_X6_lettersOf (iI ((1 : Nat) : Int)) S) (fun v S => some (v, S)) = _
    rw [lettersOf_eq hg.o h.o (by omega) (by omega)]; rfl
  · show zb (f_X6_lettersOf (iI ((3 : Nat) : Int)) S) (fun v S => some (v, S)) = _
    rw [lettersOf_eq hg.o h.o (by omega) (by omega)]; rfl
  · show zb (f_X8_howManyThere 1 S) (fun v S => some (v, S)) = _
    rw [there_C (n := 6) (b := 4) (R := gR g) (by omega) (Or.inl ⟨rfl, rfl⟩) rfl h.2.1 hg.r60]; rfl
  · show zb (f_X8_howManyThere 2 S) (fun v S => some (v, S)) = _
    rw [there_C (n := 4) (b := 16) (R := gX g) (by omega) (Or.inr ⟨rfl, rfl⟩) rfl h.2.2.1 hg.2.1]; rfl
  · show zb (f_X8_howManyKept S) (fun v S => some (v, S)) = _
    rw [kept_C h.k]; rfl
theorem countOf_M {S : zMem} {g : pSig} {k : Nat} (hg : pWf g) (h : RM S g) (hk : k < 14) : f_X9_countOf (iI k) S = some (iI (pCount g k), S) := by
  have hs := h.s
  rcases c14 hk with rfl | rfl | rfl | rfl | rfl | rfl | rfl | rfl | rfl | rfl | rfl | rfl | rfl | rfl
  · show some (S.1 0 1, S) = _
    rw [h.o.1]; rfl
  · show some (S.1 0 2, S) = _
    rw [h.o.2.1]; rfl
  · show some (S.1 1 1, S) = _
    rw [hs.1]; rfl
  · show some (S.1 1 0, S) = _
    rw [h.n.1]; rfl
  · show some (S.1 1 (1 + 1), S) = _
    rw [hs.2.1]; rfl
  · show some (S.1 1 (1 + 2), S) = _
    rw [hs.2.2.1]; rfl
  · show some (S.1 1 (1 + 3), S) = _
    rw [hs.2.2.2.1]; rfl
  · show some (S.1 1 (1 + 4), S) = _
    rw [hs.2.2.2.2.1]; rfl
  · show zb (f_X9_allBonds S) (fun v S => some (v, S)) = _
    rw [allBonds_M hg.o h.o hs]; rfl
  · show zb (f_X9_those (iI ((1 : Nat) : Int)) S) (fun v S => some (v, S)) = _
    rw [those_eq hg.o h.o (by omega) (by omega)]; rfl
  · show zb (f_X9_those (iI ((3 : Nat) : Int)) S) (fun v S => some (v, S)) = _
    rw [those_eq hg.o h.o (by omega) (by omega)]; rfl
  · show zb (f_X9_thereOf (11 : Int32) S) (fun v S => some (v, S)) = _
    rw [thereOf_11 (R := gR g) h.2.1 hg.r60]; rfl
  · show zb (f_X9_thereOf (12 : Int32) S) (fun v S => some (v, S)) = _
    rw [thereOf_12 (R := gX g) h.2.2.1 hg.2.1]; rfl
  · show zb (f_X9_thereOf (iI ((13 : Nat) : Int)) S) (fun v S => some (v, S)) = _
    rw [thereOf_13 h.k hg.kl]; rfl
def qCount (x : Int32) (g : pSig) : Int32 × pSig := match pIn x 14 with
  | some k => (iI (pCount g k), g)
  | none => (-1, g)
theorem count_wf (x : Int32) : ∀ g, pWf g → pWf (qCount x g).2 := by
  intro g h
  unfold qCount
  split <;> exact h
theorem count_C (x : Int32) : okC (f_X8_count x) (qCount x) := by
  intro S g hg h
  unfold qCount
  refine ⟨S, ?_, by split <;> exact h⟩
  cases hx : pIn x 14 with
  | none =>
    simp only [f_X8_count, X8_count_b0]
    rw [show (13 : Int32) = iI ((13 : Nat) : Int) from rfl, within_f hx (by omega)]
    simp only [zb_some, zero_0, if_true]
  | some k =>
    obtain ⟨rfl, hk⟩ := pIn_some hx
    simp only [f_X8_count, X8_count_b0]
    rw [show (13 : Int32) = iI ((13 : Nat) : Int) from rfl, within_t (show k ≤ 13 by omega) (by omega)]
    simp only [zb_some, one_0, if_false, countOf_C hg h hk]
theorem count_M (x : Int32) : okM (f_X9_count x) (qCount x) := by
  intro S g hg h
  unfold qCount
  refine ⟨S, ?_, by split <;> exact h⟩
  cases hx : pIn x 14 with
  | none => simp only [f_X9_count, X9_count_b0, X9_count_b21, zl_e, min_in_f (n := 13) (m := 13) rfl hx (by omega), zb_some, zero_0, if_true]
  | some k =>
    obtain ⟨rfl, hk⟩ := pIn_some hx
    simp only [f_X9_count, X9_count_b0, X9_count_b21, zl_e, min_in_t (n := 13) (m := 13) rfl (show k ≤ 13 by omega) (by omega), zb_some, one_0, if_false, countOf_M hg h hk]
