/-! copy -/
def qCopy (x i y j n : Int32) (g : pSig) : Int32 × pSig := match pIn x 6, pIn y 6 with
  | some a, some b => if n.toInt < 0 then qRef 5 g else if (gR g a).1 < 0 ∨ (gR g b).1 < 0 then qRef 1 g else if (0 ≤ i.toInt ∧ i.toInt + n.toInt ≤ (gR g a).1) ∧ 0 ≤ j.toInt ∧ j.toInt + n.toInt ≤ (gR g b).1 then (1, gR_ g (va_up (gR g) b ((gR g b).1, fun k => if j.toInt.toNat ≤ k ∧ k < j.toInt.toNat + n.toInt.toNat then (gR g a).2 (i.toInt.toNat + (k - j.toInt.toNat)) else (gR g b).2 k))) else qRef 2 g
  | _, _ => (-1, g)
theorem copy_wf (x i y j n : Int32) : ∀ g, pWf g → pWf (qCopy x i y j n g).2 := by
  intro g h
  unfold qCopy
  split
  · next a b ha hb =>
    have hb2 := h.1 b (pIn_some hb).2
    split
    · exact h
    · split
      · exact h
      · split
        · exact wf_row h hb2.1 hb2.2
        · exact h
  · exact h
theorem hasSpan_eq {c n m : Nat} {S : zMem} {z : Int} (h : S.1 c 1 = iI n) (h2 : n ≤ 60) (z1 : -2147483648 ≤ z) (z2 : z < 2147483648) (hm : m < 2147483648) : f_X7_hasSpan c (iI z) (iI m) S = some (b01 (0 ≤ z ∧ z + m ≤ n), S) := by
  simp only [f_X7_hasSpan, X7_hasSpan_b0, X7_hasSpan_b30, X7_hasSpan_b31, zl_e, h, zbo_0, zbo_1, zc_true]
  unfold b01
  rw [show (0 : Int32) = iI 0 from rfl]
  by_cases h0 : z < 0
  · simp (disch := omega) only [iI_lt]
    rw [if_pos h0, if_neg (by omega)]
  · simp (disch := omega) only [iI_lt, iI_sub]
    rw [if_neg h0]
    by_cases h1 : (n : Int) < z
    · rw [if_pos h1, if_neg (by omega)]
    · rw [if_neg h1, if_neg (by omega)]
      by_cases h3 : (n : Int) - z < m
      · rw [if_pos h3, if_neg (by omega)]
      · rw [if_neg h3, if_pos (by omega)]
theorem isSpan_eq {r n m : Nat} {S : zMem} {z : Int} (hr : r < 6) (h : S.1 5 r = iI n) (h2 : n ≤ 60) (z1 : -2147483648 ≤ z) (z2 : z < 2147483648) (hm : m < 2147483648) : f_X9_isSpan (iI r) (iI z) (iI m) S = some (b01 (0 ≤ z ∧ z + m ≤ n), S) := by
  simp (disch := omega) only [f_X9_isSpan, X9_isSpan_b0, X9_isSpan_b24, X9_isSpan_b25, zl_e, zi_I, zc_true, iI_cln, h, zbo_0, zbo_1, lg_cmp_gt, iI_j, iJ_add]
  unfold b01
  rw [show (0 : Int32) = iI 0 from rfl]
  simp (disch := omega) only [iI_lt, iJ_lt]
  by_cases h0 : z < 0
  · rw [if_pos h0, if_neg (by omega)]
  · rw [if_neg h0]
    by_cases h1 : (n : Int) < z + m
    · rw [if_pos h1, if_neg (by omega)]
    · rw [if_neg h1, if_pos (by omega)]
theorem copy_C (x i y j n : Int32) : okC (f_X8_copy x i y j n) (qCopy x i y j n) := by
  intro S g hg h
  obtain ⟨zi', i1, i2, rfl⟩ := int_of i
  obtain ⟨zj, j1, j2, rfl⟩ := int_of j
  obtain ⟨zn, n1, n2, rfl⟩ := int_of n
  unfold qCopy
  rw [iI_toInt i1 i2, iI_toInt j1 j2, iI_toInt n1 n2]
  simp only [f_X8_copy, X8_copy_b0, X8_copy_b14, X8_copy_b59, X8_copy_b88]
  cases hx : pIn x 6 with
  | none =>
    simp only [isRow_f hx, zb_some, zero_0, if_true]
    exact ⟨S, rfl, h⟩
  | some a =>
    obtain ⟨rfl, ha⟩ := pIn_some hx
    simp only [isRow_t ha, zb_some, one_0, if_false]
    cases hy : pIn y 6 with
    | none =>
      simp only [isRow_f hy, zb_some, zero_0, if_true]
      exact ⟨S, rfl, h⟩
    | some b =>
      obtain ⟨rfl, hb⟩ := pIn_some hy
      have hra := h.2.1 a ha
      have hrb := h.2.1 b hb
      have hba := hg.1 a ha
      have hbb := hg.1 b hb
      simp (disch := omega) only [isRow_t hb, zb_some, one_0, if_false, show ((0 : Int32) = iI 0) from rfl, iI_le, zi_I, zc_true, iI_cln]
      by_cases hn : 0 ≤ zn
      · rw [if_pos hn, if_neg (show ¬ zn < 0 by omega)]
        obtain ⟨m, rfl⟩ := Int.eq_ofNat_of_zero_le hn
        by_cases hsa : (gR g a).1 < 0
        · have e1 : (gR g a).1 = -1 := by omega
          rw [e1] at hra
          simp only [isThere_f hra.1, zb_some, show ((0 : Int32) = iI 0) ↔ True from ⟨fun _ => trivial, fun _ => rfl⟩, if_true]
          rw [if_pos (Or.inl hsa)]
          exact ref_Ce 1 (by omega) h rfl
        · obtain ⟨na, hna⟩ := sz_of hba.1 hsa
          rw [hna] at hra hba
          have ez : ((1 : Int32) = iI 0) ↔ False := by decide
          simp only [isThere_t hra.1 (by omega) (by omega), zb_some, ez, if_false]
          by_cases hsb : (gR g b).1 < 0
          · have e1 : (gR g b).1 = -1 := by omega
            rw [e1] at hrb
            simp only [isThere_f hrb.1, zb_some, show ((0 : Int32) = iI 0) ↔ True from ⟨fun _ => trivial, fun _ => rfl⟩, if_true]
            rw [if_pos (Or.inr hsb)]
            exact ref_Ce 1 (by omega) h rfl
          · obtain ⟨nb, hnb⟩ := sz_of hbb.1 hsb
            rw [hnb] at hrb hbb
            simp only [isThere_t hrb.1 (by omega) (by omega), zb_some, ez, if_false]
            rw [if_neg (show ¬ ((gR g a).1 < 0 ∨ (gR g b).1 < 0) by omega), hasSpan_eq (n := na) hra.1 (by omega) i1 i2 (by omega)]
            simp only [zb_some]
            have eb : ∀ (p : Prop) [Decidable p], (b01 p = iI 0) ↔ ¬ p := fun p _ => b01_0 p
            simp only [eb, hna, hnb]
            by_cases ca : 0 ≤ zi' ∧ zi' + m ≤ na
            · rw [if_neg (fun q => q ca), hasSpan_eq (n := nb) hrb.1 (by omega) j1 j2 (by omega)]
              simp only [zb_some, eb]
              by_cases cb : 0 ≤ zj ∧ zj + m ≤ nb
              · rw [if_neg (fun q => q cb), if_pos (show (0 ≤ zi' ∧ zi' + (m : Int) ≤ na) ∧ 0 ≤ zj ∧ zj + (m : Int) ≤ nb from ⟨ca, cb⟩)]
                obtain ⟨p, rfl⟩ := Int.eq_ofNat_of_zero_le ca.1
                obtain ⟨q, rfl⟩ := Int.eq_ofNat_of_zero_le cb.1
                have ec : zcp (iI p) (iI q) (iI m) (lnC (4 + 2 * a + 1)) (lnC (4 + 2 * b + 1)) = true := by
                  unfold zcp
                  rw [lnC_row a ha, lnC_row b hb, iI_cln (by omega), iI_cln (by omega), iI_cln (by omega), show (0 : Int32) = iI 0 from rfl]
                  simp (disch := omega) only [iI_lt]
                  simp
                  omega
                rw [ec, zc_true, zl_e, iI_cln (show p < 2147483648 by omega), iI_cln (show q < 2147483648 by omega), iI_cln (show m < 2147483648 by omega)]
                refine ⟨_, rfl, h.rows (fun r hr6 => ?_) (zp_ne (by omega)) rfl (fun c hc => zp_ne (by omega))⟩
                have hr3 := h.2.1 r hr6
                by_cases hrb2 : r = b
                · subst hrb2
                  rw [up_eq, zp_ne (by omega)]
                  refine ⟨hr3.1.trans (by rw [hnb]), fun k hk => ?_⟩
                  dsimp only at hk ⊢
                  rw [zp_eq]
                  unfold va_cpy
                  rw [Int.toNat_natCast, Int.toNat_natCast, Int.toNat_natCast]
                  by_cases hq : q ≤ k ∧ k < q + m
                  · rw [if_pos hq, if_pos hq, hra.2 _ (by omega)]
                  · rw [if_neg hq, if_neg hq, hrb.2 k (by omega)]
                · rw [up_ne hrb2, zp_ne (by omega), zp_ne (by omega)]
                  exact hr3
              · rw [if_pos cb, if_neg (fun q => cb q.2)]
                exact ref_Ce 2 (by omega) h rfl
            · rw [if_pos ca, if_neg (fun q => ca q.1)]
              exact ref_Ce 2 (by omega) h rfl
      · rw [if_neg hn, if_pos (show zn < 0 by omega)]
        exact ref_Ce 5 (by omega) h rfl
/-! the reference: a block of the rows' places -/
def cpr (S : zMem) (s d lo hi : Nat) : zMem := zp S 6 (fun q => if d + lo ≤ q ∧ q < d + hi then S.1 6 (s + (q - d)) else S.1 6 q)
theorem cpr_0 {S : zMem} {s d lo : Nat} : cpr S s d lo lo = S := by
  unfold cpr
  refine Prod.ext (funext fun q => ?_) rfl
  by_cases h : q = 6
  · subst h
    rw [zp_eq]
    funext k
    rw [if_neg (by omega)]
  · rw [zp_ne h]
theorem cpr_up {S : zMem} {s d lo hi : Nat} (hl : lo ≤ hi) (h : s + hi < d + lo ∨ d + hi ≤ s + hi) : zp (cpr S s d lo hi) 6 (upd ((cpr S s d lo hi).1 6) (d + hi) ((cpr S s d lo hi).1 6 (s + hi))) = cpr S s d lo (hi + 1) := by
  unfold cpr
  refine Prod.ext (funext fun q => ?_) rfl
  by_cases hq : q = 6
  · subst hq
    rw [zp_eq, zp_eq, zp_eq]
    funext k
    rw [upd_at]
    by_cases h1 : k = d + hi
    · rw [if_pos h1, if_neg (by omega), if_pos (by omega)]
      exact congrArg (S.1 6) (by omega)
    · rw [if_neg h1]
      by_cases h2 : d + lo ≤ k ∧ k < d + hi
      · rw [if_pos h2, if_pos (by omega)]
      · rw [if_neg h2, if_neg (by omega)]
  · rw [zp_ne hq, zp_ne hq, zp_ne hq]
theorem cpr_dn {S : zMem} {s d lo hi : Nat} (hl : lo < hi) (h : s + lo < d + lo + 1 ∨ d + hi ≤ s + lo) : zp (cpr S s d (lo + 1) hi) 6 (upd ((cpr S s d (lo + 1) hi).1 6) (d + lo) ((cpr S s d (lo + 1) hi).1 6 (s + lo))) = cpr S s d lo hi := by
  unfold cpr
  refine Prod.ext (funext fun q => ?_) rfl
  by_cases hq : q = 6
  · subst hq
    rw [zp_eq, zp_eq, zp_eq]
    funext k
    rw [upd_at]
    by_cases h1 : k = d + lo
    · rw [if_pos h1, if_neg (by omega), if_pos (by omega)]
      exact congrArg (S.1 6) (by omega)
    · rw [if_neg h1]
      by_cases h2 : d + (lo + 1) ≤ k ∧ k < d + hi
      · rw [if_pos h2, if_pos (by omega)]
      · rw [if_neg h2, if_neg (by omega)]
  · rw [zp_ne hq, zp_ne hq, zp_ne hq]
theorem copy_up {S : zMem} {a b p q n : Nat} (ha : a < 6) (hb : b < 6) (hp : p + n ≤ 40) (hq : q + n ≤ 40) (hpq : q ≤ p) : X9_copy_l96 zF (iI a) (iI p) (iI b) (iI q) (iI n) (0 : Int32) (0 : Int32) S = some (1, cpr S (40 * a + p) (40 * b + q) 0 n) := by
  have h := zfor (F := fun f i => X9_copy_l96 f (iI a) (iI p) (iI b) (iI q) (iI n) (0 : Int32) (iI (i : Nat)) (cpr S (40 * a + p) (40 * b + q) 0 i)) (r := some ((1 : Int32), cpr S (40 * a + p) (40 * b + q) 0 n)) (n := n) (fun f i hi => ?_) (fun f => ?_) (zF_gt (by omega))
  · rw [cpr_0] at h
    exact h
  · simp (disch := omega) only [X9_copy_l96, X9_copy_b96, iI_le, zero_0, if_true, X9_copy_b120, zl_e]
    rw [if_neg (by omega)]
    simp (disch := omega) only [lit_40, lit_1, iI_mul, iI_add, zi_I, zc_true, iI_cl]
    have e := cpr_up (S := S) (s := 40 * a + p) (d := 40 * b + q) (lo := 0) (hi := i) (by omega) (by omega)
    rw [show ((40 : Int) * (b : Int) + (q : Int) + (i : Int)).toNat = 40 * b + q + i by omega, show ((40 : Int) * (a : Int) + (p : Int) + (i : Int)).toNat = 40 * a + p + i by omega, e]
    rfl
  · simp (disch := omega) only [X9_copy_l96, X9_copy_b96, iI_le]
    rw [if_pos (by omega)]
theorem copy_dn {S : zMem} {a b p q n : Nat} (ha : a < 6) (hb : b < 6) (hp : p + n ≤ 40) (hq : q + n ≤ 40) (hpq : p < q) : X9_copy_l96 zF (iI a) (iI p) (iI b) (iI q) (iI n) (1 : Int32) (0 : Int32) S = some (1, cpr S (40 * a + p) (40 * b + q) 0 n) := by
  have h := zfor (F := fun f i => X9_copy_l96 f (iI a) (iI p) (iI b) (iI q) (iI n) (1 : Int32) (iI (i : Nat)) (cpr S (40 * a + p) (40 * b + q) (n - i) n)) (r := some ((1 : Int32), cpr S (40 * a + p) (40 * b + q) 0 n)) (n := n) (fun f i hi => ?_) (fun f => ?_) (zF_gt (by omega))
  · rw [show n - 0 = n from rfl, cpr_0] at h
    exact h
  · simp (disch := omega) only [X9_copy_l96, X9_copy_b96, iI_le, one_0, if_false, X9_copy_b120, zl_e]
    rw [if_neg (by omega)]
    simp (disch := omega) only [lit_40, lit_1, iI_mul, iI_add, iI_sub, zi_I, zc_true, iI_cl]
    have e := cpr_dn (S := S) (s := 40 * a + p) (d := 40 * b + q) (lo := n - 1 - i) (hi := n) (by omega) (by omega)
    rw [show n - 1 - i + 1 = n - i by omega] at e
    rw [show ((40 : Int) * (b : Int) + (q : Int) + ((n : Int) - 1 - (i : Int))).toNat = 40 * b + q + (n - 1 - i) by omega, show ((40 : Int) * (a : Int) + (p : Int) + ((n : Int) - 1 - (i : Int))).toNat = 40 * a + p + (n - 1 - i) by omega, e, show n - (i + 1) = n - 1 - i by omega]
    rfl
  · simp (disch := omega) only [X9_copy_l96, X9_copy_b96, iI_le]
    rw [if_pos (by omega), show n - n = 0 by omega]
theorem copy_M (x i y j n : Int32) : okM (f_X9_copy x i y j n) (qCopy x i y j n) := by
  intro S g hg h
  obtain ⟨zi', i1, i2, rfl⟩ := int_of i
  obtain ⟨zj, j1, j2, rfl⟩ := int_of j
  obtain ⟨zn, n1, n2, rfl⟩ := int_of n
  unfold qCopy
  rw [iI_toInt i1 i2, iI_toInt j1 j2, iI_toInt n1 n2]
  simp only [f_X9_copy, X9_copy_b0, X9_copy_b14, X9_copy_b45, X9_copy_b74, X9_copy_b91]
  cases hx : pIn x 6 with
  | none =>
    simp only [misRow_f hx, zb_some, zero_0, if_true]
    exact ⟨S, rfl, h⟩
  | some a =>
    obtain ⟨rfl, ha⟩ := pIn_some hx
    simp only [misRow_t ha, zb_some, one_0, if_false]
    cases hy : pIn y 6 with
    | none =>
      simp only [misRow_f hy, zb_some, zero_0, if_true]
      exact ⟨S, rfl, h⟩
    | some b =>
      obtain ⟨rfl, hb⟩ := pIn_some hy
      have hra := h.2.1 a ha
      have hrb := h.2.1 b hb
      have hba := hg.1 a ha
      have hbb := hg.1 b hb
      have q0 : (0 : Int32) ≤ iI zn ↔ (0 : Int) ≤ zn := iI_le (a := 0) (by omega) (by omega) (by omega) (by omega)
      have q1 : iI (gR g a).1 < (0 : Int32) ↔ (gR g a).1 < 0 := iI_lt (b := 0) (by omega) (by omega) (by omega) (by omega)
      have q2 : (0 : Int32) ≤ iI (gR g b).1 ↔ 0 ≤ (gR g b).1 := iI_le (a := 0) (by omega) (by omega) (by omega) (by omega)
      simp (disch := omega) only [misRow_t hb, zb_some, one_0, if_false, q0, zi_I, zc_true, iI_cln, zl_e, hra.1, hrb.1, q1, q2]
      by_cases hn : 0 ≤ zn
      · rw [if_pos hn, if_neg (show ¬ zn < 0 by omega)]
        obtain ⟨m, rfl⟩ := Int.eq_ofNat_of_zero_le hn
        by_cases hsa : (gR g a).1 < 0
        · rw [if_pos hsa, if_pos (Or.inl hsa)]
          exact ref_Me 1 (by omega) h rfl
        · rw [if_neg hsa]
          obtain ⟨na, hna⟩ := sz_of hba.1 hsa
          by_cases hsb : (gR g b).1 < 0
          · rw [if_neg (show ¬ 0 ≤ (gR g b).1 by omega), if_pos (Or.inr hsb)]
            exact ref_Me 1 (by omega) h rfl
          · obtain ⟨nb, hnb⟩ := sz_of hbb.1 hsb
            rw [if_pos (show 0 ≤ (gR g b).1 by omega)]
            rw [hna] at hra hba
            rw [hnb] at hrb hbb
            rw [if_neg (show ¬ ((gR g a).1 < 0 ∨ (gR g b).1 < 0) by omega), isSpan_eq (n := na) ha hra.1 (by omega) i1 i2 (by omega)]
            simp only [zb_some, b01_0, hna, hnb]
            by_cases ca : 0 ≤ zi' ∧ zi' + m ≤ na
            · rw [if_neg (fun q => q ca), isSpan_eq (n := nb) hb hrb.1 (by omega) j1 j2 (by omega)]
              simp only [zb_some, b01_0]
              by_cases cb : 0 ≤ zj ∧ zj + m ≤ nb
              · rw [if_neg (fun q => q cb), if_pos (show (0 ≤ zi' ∧ zi' + (m : Int) ≤ na) ∧ 0 ≤ zj ∧ zj + (m : Int) ≤ nb from ⟨ca, cb⟩)]
                obtain ⟨p, rfl⟩ := Int.eq_ofNat_of_zero_le ca.1
                obtain ⟨q, rfl⟩ := Int.eq_ofNat_of_zero_le cb.1
                refine ⟨cpr S (40 * a + p) (40 * b + q) 0 m, ?_, h.rows (fun r hr6 => ?_) rfl (fun c h5 h6 => zp_ne h6)⟩
                · simp (disch := omega) only [iI_le]
                  by_cases hpq : q ≤ p
                  · rw [if_pos (by omega)]
                    exact copy_up ha hb (by omega) (by omega) hpq
                  · rw [if_neg (by omega)]
                    exact copy_dn ha hb (by omega) (by omega) (by omega)
                · have hr3 := h.2.1 r hr6
                  have hb3 := hg.1 r hr6
                  unfold cpr
                  rw [zp_ne (by omega), zp_eq]
                  by_cases hrb2 : r = b
                  · subst hrb2
                    rw [up_eq]
                    refine ⟨hr3.1.trans (by rw [hnb]), fun k hk => ?_⟩
                    dsimp only at hk ⊢
                    rw [Int.toNat_natCast, Int.toNat_natCast, Int.toNat_natCast]
                    by_cases hq : q ≤ k ∧ k < q + m
                    · rw [if_pos (by omega), if_pos hq, ← hra.2 _ (by omega)]
                      exact congrArg (S.1 6) (by omega)
                    · rw [if_neg (by omega), if_neg hq, hrb.2 k (by omega)]
                  · rw [up_ne hrb2]
                    refine ⟨hr3.1, fun k hk => ?_⟩
                    rw [if_neg (by omega)]
                    exact hr3.2 k hk
              · rw [if_pos cb, if_neg (fun q => cb q.2)]
                exact ref_Me 2 (by omega) h rfl
            · rw [if_pos ca, if_neg (fun q => ca q.1)]
              exact ref_Me 2 (by omega) h rfl
      · rw [if_neg hn, if_pos (show zn < 0 by omega)]
        exact ref_Me 5 (by omega) h rfl
