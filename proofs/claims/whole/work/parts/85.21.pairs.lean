/-! pairs of a mood and a warmth -/
theorem RC.cg {S S1 : zMem} {g : pSig} (h : RC S g) (hc : ∀ c, (c < 29 ∨ (35 ≤ c ∧ c < 60) ∨ c = 67) → S1.1 c = S.1 c) (h2 : S1.2 = S.2) : RC S1 g := by
  obtain ⟨a1, a2, a3, a4, a5, a6, a7⟩ := h
  exact ⟨a1.cg (hc 0 (by omega)) (by rw [h2]) (hc 67 (by omega)), a2.cg (fun c x y => hc c (by omega)), a3.cg (fun c x y => hc c (by omega)), a4.cg (fun c x y => hc c (by omega)), a5.cg (fun c x y => hc c (by omega)), fun q => by rw [hc 35 (by omega)]; exact a6 q, a7.cg (fun c x y => hc c (by omega))⟩
theorem RM.cg {S S1 : zMem} {g : pSig} (hg : pWf g) (h : RM S g) (h0 : ∀ k, k ≤ 13 → S1.1 0 k = S.1 0 k) (h1 : ∀ c, 2 ≤ c → c < 10 → S1.1 c = S.1 c) (h2 : S1.2 = S.2) (hq : ∀ q, q < 2792 → S1.1 1 q = S.1 1 q) : RM S1 g := by
  obtain ⟨a1, a2, a3, a4, a5, a6⟩ := h
  exact ⟨a1.cg (h0 10 (by omega)) (h0 13 (by omega)) (by rw [h2]) (h1 9 (by omega) (by omega)), a2.cg (h1 5 (by omega) (by omega)) (h1 6 (by omega) (by omega)), a3.cg (h1 7 (by omega) (by omega)) (h1 8 (by omega) (by omega)), a4.cg (h0 1 (by omega)) (h0 2 (by omega)) (h1 2 (by omega) (by omega)) (h1 3 (by omega) (by omega)) (h1 4 (by omega) (by omega)), a5.cg hg.o hg.2.2.2.1.1 (fun q x y => hq q (by omega)), a6.cg hg.o hg.kl (fun q x y => hq q (by omega))⟩
def pAllB (p : Nat → Bool) : Nat → Bool
  | 0 => true
  | n + 1 => pAllB p n && p n
theorem pAllB_iff {p : Nat → Bool} : ∀ {n : Nat}, pAllB p n = true ↔ ∀ i, i < n → p i = true := by
  intro n
  induction n with
  | zero => exact ⟨fun _ i hi => by omega, fun _ => rfl⟩
  | succ n ih =>
    show (pAllB p n && p n) = true ↔ _
    rw [Bool.and_eq_true, ih]
    constructor
    · intro h i hi
      by_cases hin : i = n
      · subst hin
        exact h.2
      · exact h.1 i (by omega)
    · exact fun h => ⟨fun i hi => h i (by omega), h n (by omega)⟩
theorem pAllB_f {p : Nat → Bool} {n i : Nat} (hi : i < n) (h : p i = false) : pAllB p n = false := by
  cases hb : pAllB p n with
  | false => rfl
  | true =>
    have := pAllB_iff.mp hb i hi
    rw [h] at this
    exact absurd this Bool.false_ne_true
/-- what stands against a row as pairs -/
def pPok (f : Nat → Int32) (k : Nat) : Bool := decide (0 ≤ (f k).toInt) && decide ((f k).toInt ≤ 9)
def pWrong (w : Int × (Nat → Int32)) : Nat := if w.1 < 0 then 1 else if 16 < w.1 ∨ w.1.toNat % 2 ≠ 0 then 5 else if pAllB (pPok w.2) w.1.toNat then 0 else 3
theorem pPok_iff {f : Nat → Int32} {k : Nat} : pPok f k = true ↔ 0 ≤ (f k).toInt ∧ (f k).toInt ≤ 9 := by
  unfold pPok
  rw [Bool.and_eq_true, decide_eq_true_iff, decide_eq_true_iff]
theorem within_9 (x : Int32) (S : zMem) : f_X8_within x (9 : Int32) S = some (b01 (0 ≤ x.toInt ∧ x.toInt ≤ 9), S) := by
  rw [X8_within_eq]
  rfl
theorem in_9 (x : Int32) (S : zMem) : f_X9_in x.toInt64 (0 : Int64) (9 : Int64) S = some (b01 (0 ≤ x.toInt ∧ x.toInt ≤ 9), S) := by
  rw [show (0 : Int64) = (iI 0).toInt64 from rfl, show (9 : Int64) = (iI 9).toInt64 from rfl, X9_in_eq]
  rfl
theorem wrongPairs_C {S : zMem} {g : pSig} {j : Nat} (hg : pWf g) (h : RC S g) (hj : j < 6) : f_X8_wrongPairs (4 + 2 * j) S = some (iI (pWrong (gR g j)), S) := by
  have hb := hg.1 j hj
  have hr := h.2.1 j hj
  have hL := lnC_row j hj
  unfold pWrong
  simp only [f_X8_wrongPairs, X8_wrongPairs_b0, X8_wrongPairs_b27]
  by_cases hs : (gR g j).1 < 0
  · have e1 : (gR g j).1 = -1 := by omega
    rw [if_pos hs]
    rw [e1] at hr
    simp only [isThere_f hr.1, zb_some, zero_0, if_true]
    rfl
  · obtain ⟨n, hn⟩ := sz_of hb.1 hs
    rw [if_neg hs]
    rw [hn] at hr hb ⊢
    simp only [isThere_t hr.1 (by omega) (by omega), zb_some, one_0, if_false, zl_e, hr.1]
    rw [show (16 : Int32) = iI ((16 : Nat) : Int) from rfl, show (2 : Int32) = iI ((2 : Nat) : Int) from rfl, iI_remn (by omega) (by omega) (by omega), Int.toNat_natCast]
    simp (disch := omega) only [iI_lt]
    by_cases h16 : 16 < n
    · rw [if_pos (by omega), if_pos (Or.inl (by omega))]
      rfl
    · rw [if_neg (by omega)]
      have q0 : iI ((n % 2 : Nat) : Int) = (0 : Int32) ↔ n % 2 = 0 := eqn (n := 0) (by omega) (by omega)
      simp only [q0]
      by_cases h2 : n % 2 = 0
      · rw [if_pos h2, if_neg (show ¬ ((16 : Int) < (n : Int) ∨ n % 2 ≠ 0) by omega)]
        refine zforI (F := fun f i (_ : Unit) => X8_wrongPairs_l31 f (4 + 2 * j) (iI (i : Nat)) S) (n := n) (P := fun i _ => pAllB (pPok (gR g j).2) i = true) (Q := fun r => r = some (iI ((if pAllB (pPok (gR g j).2) n = true then 0 else 3 : Nat) : Int), S)) (fun f i a hi ha => ?_) (fun f a ha => ?_) (zF_gt (by omega)) (a := ()) rfl
        · simp (disch := omega) only [X8_wrongPairs_l31, X8_wrongPairs_b31, zl_e, hr.1, iI_le]
          rw [if_neg (by omega)]
          simp (disch := omega) only [hL, zi_I, zc_true, iI_cln, hr.2 i (by omega), within_9, zb_some, b01_0]
          by_cases hp : 0 ≤ ((gR g j).2 i).toInt ∧ ((gR g j).2 i).toInt ≤ 9
          · left
            refine ⟨(), ?_, ?_⟩
            · show (pAllB (pPok (gR g j).2) i && pPok (gR g j).2 i) = true
              rw [ha, pPok_iff.mpr hp]
              rfl
            · rw [if_neg (fun q => q hp), lit_1, iI_add]
              rfl
          · right
            have hf : pPok (gR g j).2 i = false := by
              cases hq : pPok (gR g j).2 i with
              | false => rfl
              | true => exact absurd (pPok_iff.mp hq) hp
            rw [if_pos hp, pAllB_f hi hf]
            rfl
        · simp (disch := omega) only [X8_wrongPairs_l31, X8_wrongPairs_b31, zl_e, hr.1, iI_le]
          rw [if_pos (by omega), ha]
          rfl
      · rw [if_neg h2, if_pos (Or.inr h2)]
        rfl
/-- what the reference says instead: the refusal itself -/
theorem noPairs_M {S : zMem} {g : pSig} {j : Nat} (hg : pWf g) (h : RM S g) (hj : j < 6) : f_X9_noPairs (iI j) S = if pWrong (gR g j) = 0 then some (0, S) else zb (f_X9_find (iI (pWrong (gR g j))) S) fun v S => some (v, S) := by
  have hb := hg.1 j hj
  have hr := h.2.1 j hj
  unfold pWrong
  simp (disch := omega) only [f_X9_noPairs, X9_noPairs_b0, X9_noPairs_b38, X9_noPairs_b109, zi_I, zc_true, zl_e, iI_cln, hr.1]
  have q1 : (0 : Int32) ≤ iI (gR g j).1 ↔ 0 ≤ (gR g j).1 := iI_le (a := 0) (by omega) (by omega) (by omega) (by omega)
  simp only [q1]
  by_cases hs : (gR g j).1 < 0
  · rw [if_neg (show ¬ 0 ≤ (gR g j).1 by omega), if_pos hs, if_neg (by decide)]
    rfl
  · obtain ⟨n, hn⟩ := sz_of hb.1 hs
    rw [if_pos (show 0 ≤ (gR g j).1 by omega), if_neg hs]
    rw [hn] at hr hb ⊢
    rw [show (16 : Int32) = iI ((16 : Nat) : Int) from rfl, show (2 : Int32) = iI ((2 : Nat) : Int) from rfl, iI_remn (by omega) (by omega) (by omega), Int.toNat_natCast]
    simp (disch := omega) only [iI_lt]
    by_cases h16 : 16 < n
    · rw [if_pos (by omega), if_pos (Or.inl (by omega)), if_neg (by decide)]
      rfl
    · rw [if_neg (by omega)]
      have q0 : iI ((n % 2 : Nat) : Int) = (1 : Int32) ↔ n % 2 = 1 := eqn (n := 1) (by omega) (by omega)
      simp only [q0]
      by_cases h2 : n % 2 = 0
      · rw [if_neg (by omega), if_neg (show ¬ ((16 : Int) < (n : Int) ∨ n % 2 ≠ 0) by omega)]
        refine zfor (F := fun f i => X9_noPairs_l48 f (iI j) (if pAllB (pPok (gR g j).2) i then 1 else 0) (iI (i : Nat)) S) (n := n) (fun f i hi => ?_) (fun f => ?_) (zF_gt (by omega))
        · simp (disch := omega) only [X9_noPairs_l48, X9_noPairs_b48, X9_noPairs_b88, X9_noPairs_b89, zi_I, zc_true, zl_e, iI_cln, hr.1, iI_le]
          rw [if_neg (by omega), show pAllB (pPok (gR g j).2) (i + 1) = (pAllB (pPok (gR g j).2) i && pPok (gR g j).2 i) from rfl]
          cases ha : pAllB (pPok (gR g j).2) i with
          | false =>
            rw [if_neg (show ¬ (false = true) from Bool.false_ne_true), if_pos (by decide), lit_1, iI_add]
            rfl
          | true =>
            rw [if_pos rfl, if_neg (by decide)]
            simp (disch := omega) only [lit_40, iI_mul, iI_add, zi_I, zc_true, iI_cl]
            rw [show ((40 : Int) * (j : Int) + (i : Int)).toNat = 40 * j + i by omega, hr.2 i (by omega), in_9]
            simp only [zb_some, b01_0]
            by_cases hp : 0 ≤ ((gR g j).2 i).toInt ∧ ((gR g j).2 i).toInt ≤ 9
            · rw [if_neg (fun q => q hp), pPok_iff.mpr hp, lit_1, iI_add]
              rfl
            · have hf : pPok (gR g j).2 i = false := by
                cases hq : pPok (gR g j).2 i with
                | false => rfl
                | true => exact absurd (pPok_iff.mp hq) hp
              rw [if_pos hp, hf, lit_1, iI_add]
              rfl
        · simp (disch := omega) only [X9_noPairs_l48, X9_noPairs_b48, X9_noPairs_b109, zi_I, zc_true, zl_e, iI_cln, hr.1, iI_le]
          rw [if_pos (by omega)]
          cases ha : pAllB (pPok (gR g j).2) n with
          | false =>
            rw [if_neg (show ¬ (false = true) from Bool.false_ne_true), if_pos (by decide), if_neg (show ¬ (false = true) from Bool.false_ne_true), if_neg (by decide)]
            rfl
          | true =>
            rw [if_pos rfl, if_neg (by decide), if_pos rfl, if_pos rfl]
      · rw [if_pos (by omega), if_pos (Or.inr h2), if_neg (by decide)]
        rfl
theorem pWrong_0 {w : Int × (Nat → Int32)} (h : pWrong w = 0) : ∃ n : Nat, w.1 = (2 * n : Nat) ∧ n ≤ 8 ∧ ∀ i, i < 2 * n → ∃ k : Nat, k ≤ 9 ∧ w.2 i = iI k := by
  unfold pWrong at h
  by_cases hs : w.1 < 0
  · rw [if_pos hs] at h
    omega
  · rw [if_neg hs] at h
    by_cases h2 : 16 < w.1 ∨ w.1.toNat % 2 ≠ 0
    · rw [if_pos h2] at h
      omega
    · rw [if_neg h2] at h
      by_cases h3 : pAllB (pPok w.2) w.1.toNat = true
      · refine ⟨w.1.toNat / 2, by omega, by omega, fun i hi => ?_⟩
        have h4 := pPok_iff.mp (pAllB_iff.mp h3 i (by omega))
        refine ⟨(w.2 i).toInt.toNat, by omega, ?_⟩
        rw [show (((w.2 i).toInt.toNat : Nat) : Int) = (w.2 i).toInt by omega]
        exact iI_of _
      · rw [if_neg h3] at h
        omega
/-! bits of words, of kinds -/
theorem orK : ∀ l, l < 10 → ∀ c, c < 1024 → (iI (c : Nat) ||| ((1 : Int32) <<< (iI (l : Nat) &&& 31))) = iI ((c ||| 2 ^ l : Nat) : Int) := by decide +kernel
theorem bitK : ∀ l, l < 10 → ∀ c, c < 1024 → (iI (c : Nat) >>> (iI (l : Nat) &&& 31)) &&& 1 = if c.testBit l then 1 else 0 := by decide +kernel
def pBits (p : Nat → Bool) : Nat → Nat
  | 0 => 0
  | n + 1 => if p n then pBits p n ||| 2 ^ n else pBits p n
theorem pBits_lt {p : Nat → Bool} : ∀ n, pBits p n < 2 ^ n := by
  intro n
  induction n with
  | zero => exact Nat.one_pos
  | succ n ih =>
    have h1 : 2 ^ n < 2 ^ (n + 1) := Nat.pow_lt_pow_right (by omega) (by omega)
    unfold pBits
    split
    · exact Nat.or_lt_two_pow (by omega) h1
    · omega
def pFit (k w : Nat) (f : Nat → Int32) (i : Nat) : Bool := decide (iI (pW k w (f (2 * i)).toInt.toNat : Int) = f (2 * i + 1))
def pFits (k w : Nat) (r : Int × (Nat → Int32)) : Bool := pAllB (pFit k w r.2) (r.1.toNat / 2)
theorem fits_C {S : zMem} {g : pSig} {j k w : Nat} (hg : pWf g) (h : RC S g) (hj : j < 6) (hp : pWrong (gR g j) = 0) (hk : k ≤ 5) (hw : w ≤ 9) : f_X0_fits (iI k) (iI w) (4 + 2 * j) S = some (if pFits k w (gR g j) then 1 else 0, S) := by
  obtain ⟨n, hn, hn8, hv⟩ := pWrong_0 hp
  have hr := h.2.1 j hj
  rw [hn] at hr
  have hL := lnC_row j hj
  unfold pFits
  rw [hn, Int.toNat_natCast, show 2 * n / 2 = n by omega]
  refine zforI (F := fun f i (_ : Unit) => X0_fits_l2 f (iI k) (iI w) (4 + 2 * j) (iI ((2 * i : Nat) : Int)) S) (n := n) (P := fun i _ => pAllB (pFit k w (gR g j).2) i = true) (Q := fun r => r = some (if pAllB (pFit k w (gR g j).2) n = true then 1 else 0, S)) (fun f i a hi ha => ?_) (fun f a ha => ?_) (zF_gt (by omega)) (a := ()) rfl
  · simp (disch := omega) only [X0_fits_l2, X0_fits_b2, zl_e, hr.1, lit_1, iI_add, iI_le]
    rw [if_neg (by omega)]
    obtain ⟨m, hm9, em⟩ := hv (2 * i) (by omega)
    obtain ⟨m2, hm29, em2⟩ := hv (2 * i + 1) (by omega)
    simp (disch := omega) only [hL, zi_I, zc_true, iI_cl]
    rw [show ((2 * i : Nat) : Int).toNat = 2 * i by omega, show (((2 * i : Nat) : Int) + 1).toNat = 2 * i + 1 by omega, hr.2 (2 * i) (by omega), em, X1_warmth_eq hk hw hm9]
    simp only [zb_some]
    rw [hr.2 (2 * i + 1) (by omega), em2]
    have ef : pFit k w (gR g j).2 i = decide (pW k w m = m2) := by
      unfold pFit
      rw [em, em2, iI_toInt (by omega) (by omega), Int.toNat_natCast]
      have hb := pW_le (k := k) hw hm9
      have := eqn (k := pW k w m) (n := m2) (by omega) (by omega)
      exact decide_eq_decide.mpr this
    have hb := pW_le (k := k) hw hm9
    simp (disch := omega) only [eqn]
    by_cases hc : pW k w m = m2
    · left
      refine ⟨(), ?_, ?_⟩
      · show (pAllB (pFit k w (gR g j).2) i && pFit k w (gR g j).2 i) = true
        rw [ha, ef, decide_eq_true hc]
        rfl
      · rw [if_pos hc, lit_2, iI_add]
        rfl
    · right
      rw [if_neg hc, pAllB_f hi (show pFit k w (gR g j).2 i = false by rw [ef]; exact decide_eq_false hc)]
      rfl
  · simp (disch := omega) only [X0_fits_l2, X0_fits_b2, zl_e, hr.1, lit_1, iI_add, iI_le]
    rw [if_pos (by omega), ha]
    rfl
theorem isSo_M {S : zMem} {g : pSig} {j k w : Nat} (hg : pWf g) (h : RM S g) (hj : j < 6) (hp : pWrong (gR g j) = 0) (hk : k ≤ 5) (hw : w ≤ 9) : f_X9_isSo (iI k) (iI w) (iI j) S = some (if pFits k w (gR g j) then 1 else 0, S) := by
  obtain ⟨n, hn, hn8, hv⟩ := pWrong_0 hp
  have hr := h.2.1 j hj
  rw [hn] at hr
  unfold pFits
  rw [hn, Int.toNat_natCast, show 2 * n / 2 = n by omega]
  refine zfor (F := fun f i => X9_isSo_l6 f (iI k) (iI w) (iI j) (if pAllB (pFit k w (gR g j).2) i = true then 1 else 0) (iI ((2 * i : Nat) : Int)) S) (n := n) (fun f i hi => ?_) (fun f => ?_) (zF_gt (by omega))
  · simp (disch := omega) only [X9_isSo_l6, X9_isSo_b6, X9_isSo_b60, X9_isSo_b61, zi_I, zc_true, zl_e, iI_cln, hr.1, iI_le]
    rw [if_neg (by omega), show pAllB (pFit k w (gR g j).2) (i + 1) = (pAllB (pFit k w (gR g j).2) i && pFit k w (gR g j).2 i) from rfl]
    cases ha : pAllB (pFit k w (gR g j).2) i with
    | false =>
      rw [if_neg (show ¬ (false = true) from Bool.false_ne_true), if_pos (by decide), lit_2, iI_add]
      rfl
    | true =>
      rw [if_pos rfl, if_neg (by decide)]
      obtain ⟨m, hm9, em⟩ := hv (2 * i) (by omega)
      obtain ⟨m2, hm29, em2⟩ := hv (2 * i + 1) (by omega)
      simp (disch := omega) only [lit_40, lit_1, iI_mul, iI_add, zi_I, zc_true, iI_cl]
      rw [show ((40 : Int) * (j : Int) + ((2 * i : Nat) : Int)).toNat = 40 * j + 2 * i by omega, show ((40 : Int) * (j : Int) + ((2 * i : Nat) : Int) + 1).toNat = 40 * j + (2 * i + 1) by omega, hr.2 (2 * i) (by omega), em, X9_endsBy_eq hk hw hm9]
      simp only [zb_some]
      rw [hr.2 (2 * i + 1) (by omega), em2]
      have hb := pW_le (k := k) hw hm9
      have ef : pFit k w (gR g j).2 i = decide (pW k w m = m2) := by
        unfold pFit
        rw [em, em2, iI_toInt (by omega) (by omega), Int.toNat_natCast]
        exact decide_eq_decide.mpr (eqn (k := pW k w m) (n := m2) (by omega) (by omega))
      simp (disch := omega) only [eqn]
      by_cases hc : pW k w m = m2
      · rw [if_pos hc, ef, decide_eq_true hc, lit_2, iI_add]
        rfl
      · rw [if_neg hc, ef, decide_eq_false hc, lit_2, iI_add]
        rfl
  · simp (disch := omega) only [X9_isSo_l6, X9_isSo_b6, zi_I, zc_true, zl_e, iI_cln, hr.1, iI_le]
    rw [if_pos (by omega)]
    cases ha : pAllB (pFit k w (gR g j).2) n <;> rfl
