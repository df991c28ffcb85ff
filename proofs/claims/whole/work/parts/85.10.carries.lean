/-! the reference's carries, at base B of the long row -/
theorem tn_cast (n : Nat) : ((n : Int)).toNat = n := by omega
theorem carries_end {S : zMem} {B l m1 a c : Nat} {u : Int} (hB : B + 18 ≤ 2810) (hl : l < 6) (hm : m1 ≤ 9) (ha : a ≤ 9) (hu : -1 ≤ u ∧ u ≤ 1) (hc : S.1 1 (B + 5) = iI c) (c64 : c < 64) : ∃ S1, X9_carries_b175 (iI B) (iI l) (iI m1) (iI a) (iI u) S = some (iI a, S1) ∧ S1.1 1 (B + 2) = iI (max 0 (min 9 ((m1 : Int) + u))) ∧ S1.1 1 (B + 5) = iI ((c ||| 2 ^ l : Nat) : Int) ∧ S1.1 1 (B + 12 + l) = iI a ∧ (∀ q, q ≠ B + 2 → q ≠ B + 5 → q ≠ B + 12 + l → S1.1 1 q = S.1 1 q) ∧ (∀ q, q ≠ 1 → S1.1 q = S.1 q) ∧ S1.2 = S.2 := by
  have t2 : ((B : Int) + 2).toNat = B + 2 := by omega
  have t5 : ((B : Int) + 5).toNat = B + 5 := by omega
  have t12 : ((B : Int) + 12 + (l : Int)).toNat = B + 12 + l := by omega
  simp only [X9_carries_b175, zl_e]
  rw [lit_2, lit_5, lit_12, lit_9, iI_add, iI_add, iI_add, iI_add, iI_add, X9_kept_eq (by omega) (by omega) (by omega) (by omega)]
  simp (disch := omega) only [zb_some, zi_I, zc_true, zl_e, iI_cl, t2, t5, t12]
  obtain ⟨T1, e1, b1, b2, b3, b4⟩ := wr S 1 (B + 2) (iI (max 0 (min 9 ((m1 : Int) + u))))
  rw [e1, b2 (B + 5) (by omega), hc, orI c c64 l hl]
  obtain ⟨T2, e2, c1, c2, c3, c4⟩ := wr T1 1 (B + 5) (iI ((c ||| 2 ^ l : Nat) : Int))
  rw [e2]
  obtain ⟨T3, e3, d1, d2, d3, d4⟩ := wr T2 1 (B + 12 + l) (iI a)
  rw [e3]
  refine ⟨T3, rfl, ?_, ?_, d1, fun q h1 h2 h3 => ?_, fun q h => ?_, ?_⟩
  · rw [d2 _ (by omega), c2 _ (by omega), b1]
  · rw [d2 _ (by omega), c1]
  · rw [d2 q h3, c2 q h2, b2 q h1]
  · rw [d3 q h, c3 q h, b3 q h]
  · rw [d4, c4, b4]
theorem pTurn_int {k a m : Nat} {u : Int} (hm : m ≤ 9) (ha : a ≤ 9) (hu : u = if k = 5 then 0 else if a ≤ 5 then (if 4 ≤ a then 0 else -1) else 1) : max 0 (min 9 ((m : Int) + u)) = (pTurn k a m : Int) := by
  subst hu
  unfold pTurn
  repeat' split
  all_goals omega
theorem carries_mid {S : zMem} {B : Nat} {o : pRoad} {s : pSt} {l : Nat} {t : Int} (hB : B + 18 ≤ 2810) (ho : pRok o) (h : oM S o) (hs : sMo S (B + 1) o s) (hk : pSok o s) (hl : l < rN o) (ht : -9 ≤ t ∧ t ≤ 9) (hm : max 0 (min 9 ((sM s : Int) + t)) = (pMood o s l : Int)) : ∃ S1, X9_carries_b45 (iI B) (iI l) (iI t) S = some (iI (pEnd o s l), S1) ∧ sMo S1 (B + 1) o (pDel o s l) ∧ (∀ q, q ≠ 1 → S1.1 q = S.1 q) ∧ S1.2 = S.2 ∧ ∀ q, q < B + 1 ∨ B + 18 ≤ q → S1.1 1 q = S.1 1 q := by
  obtain ⟨a1, a2, a3, a4, a5, a6, a7⟩ := hs
  have hd := ho.2.2.1 l hl
  have hN := ho.2.1
  have hH := ho.1
  have c64 := hk.c64 ho
  have hl3 := h.2.2 l hl
  have hm1 : pMood o s l ≤ 9 := pMood_le hk
  have he1 : pEnd o s l ≤ 9 := pEnd_le ho hk hl
  have hM9 := hk.1
  have t2 : ((B : Int) + 2).toNat = B + 2 := by omega
  have t4 : ((B : Int) + 4).toNat = B + 4 := by omega
  have t6 : ((B : Int) + 6 + (rD o l : Int)).toNat = B + 6 + rD o l := by omega
  have r2 : S.1 1 (B + 2) = iI (sM s) := a2
  simp only [X9_carries_b45, zl_e]
  rw [lit_2, lit_4, lit_6, lit_9, lit_20, iI_add, iI_add, iI_add]
  simp (disch := omega) only [zi_I, zc_true, zl_e, iI_cl, tn_cast, t2, r2, iI_add]
  rw [X9_kept_eq (by omega) (by omega) (by omega) (by omega), hm]
  simp only [zb_some]
  rw [hl3.1, hl3.2.2, X9_endsBy_eq hd.1 hd.2.2 hm1, show pW (rK o l) (rW o l) (pMood o s l) = pEnd o s l from rfl]
  simp only [zb_some]
  rw [hl3.2.1, t4]
  obtain ⟨T1, e1, b1, b2, b3, b4⟩ := wr S 1 (B + 4) (iI (rD o l))
  have hd1 : T1.1 3 l = iI (rD o l) := by rw [b3 3 (by omega)]; exact hl3.2.1
  rw [e1, hd1]
  simp (disch := omega) only [iI_add, zi_I, zc_true, iI_cl, t6]
  have hb1 : T1.1 1 (B + 6 + rD o l) = iI (sB s (rD o l)) := by
    rw [b2 _ (by omega)]
    have := a6 (rD o l) hd.2.1
    rw [show B + 1 + 5 + rD o l = B + 6 + rD o l by omega] at this
    exact this
  have hb20 := hk.2.2.2.2.1 _ hd.2.1
  rw [hb1, lit_5]
  simp only [iI_add, iI_sub]
  rw [X9_kept_eq (by omega) (by omega) (by omega) (by omega), show max 0 (min 20 ((sB s (rD o l) : Int) + (pEnd o s l : Int) - 5)) = (pBond (sB s (rD o l)) (pEnd o s l) : Int) by unfold pBond; omega]
  simp only [zb_some]
  obtain ⟨T2, e2, c1, c2, c3, c4⟩ := wr T1 1 (B + 6 + rD o l) (iI (pBond (sB s (rD o l)) (pEnd o s l)))
  rw [e2, c3 2 (by omega), b3 2 (by omega), hl3.1]
  have hc5 : T2.1 1 (B + 5) = iI (sC s) := by rw [c2 _ (by omega), b2 _ (by omega)]; exact a5
  obtain ⟨S1, f1, f2, f3, f4, f5, f6, f7⟩ : ∃ S1, (if iI (rK o l : Int) = iI 5 then X9_carries_b175 (iI B) (iI l) (iI (pMood o s l)) (iI (pEnd o s l)) 0 T2 else if iI (pEnd o s l : Int) ≤ iI 5 then (if 4 ≤ iI (pEnd o s l : Int) then X9_carries_b175 (iI B) (iI l) (iI (pMood o s l)) (iI (pEnd o s l)) 0 T2 else X9_carries_b175 (iI B) (iI l) (iI (pMood o s l)) (iI (pEnd o s l)) (-1) T2) else X9_carries_b175 (iI B) (iI l) (iI (pMood o s l)) (iI (pEnd o s l)) 1 T2) = some (iI (pEnd o s l), S1) ∧ S1.1 1 (B + 2) = iI (pTurn (rK o l) (pEnd o s l) (pMood o s l)) ∧ S1.1 1 (B + 5) = iI ((sC s ||| 2 ^ l : Nat) : Int) ∧ S1.1 1 (B + 12 + l) = iI (pEnd o s l) ∧ (∀ q, q ≠ B + 2 → q ≠ B + 5 → q ≠ B + 12 + l → S1.1 1 q = T2.1 1 q) ∧ (∀ q, q ≠ 1 → S1.1 q = T2.1 q) ∧ S1.2 = T2.2 := by
    obtain ⟨u, hu⟩ : ∃ u : Int, u = if rK o l = 5 then 0 else if pEnd o s l ≤ 5 then (if 4 ≤ pEnd o s l then 0 else -1) else 1 := ⟨_, rfl⟩
    obtain ⟨S1, g1, g2, g3⟩ := carries_end (u := u) hB (show l < 6 by omega) hm1 he1 (by subst hu; repeat' split; all_goals omega) hc5 c64
    rw [pTurn_int hm1 he1 hu] at g2
    refine ⟨S1, ?_, g2, g3⟩
    rw [← g1, litm_1, lit_0, lit_4, lit_1]
    simp (disch := omega) only [iI_eq, iI_le]
    subst hu
    repeat' split
    all_goals first | (exfalso; omega) | rfl
  refine ⟨S1, f1, ⟨?_, f2, ?_, ?_, f3, fun q hq => ?_, fun q hq hbt => ?_⟩, fun q h => by rw [f6 q h, c3 q h, b3 q h], by rw [f7, c4, b4], fun q hq => ?_⟩
  · rw [f5 _ (by omega) (by omega) (by omega), c2 _ (by omega), b2 _ (by omega)]
    exact a1
  · rw [f5 _ (by omega) (by omega) (by omega), c2 _ (by omega), b2 _ (by omega)]
    exact a3
  · rw [f5 _ (by omega) (by omega) (by omega), c2 _ (by omega)]
    exact b1
  · rw [f5 _ (by omega) (by omega) (by omega)]
    show T2.1 1 (B + 1 + 5 + q) = iI ((va_up (sB s) (rD o l) (pBond (sB s (rD o l)) (pEnd o s l)) q : Nat) : Int)
    unfold va_up
    by_cases hqd : q = rD o l
    · rw [if_pos hqd, hqd, show B + 1 + 5 + rD o l = B + 6 + rD o l by omega]
      exact c1
    · rw [if_neg hqd, c2 _ (by omega), b2 _ (by omega)]
      exact a6 q hq
  · show S1.1 1 (B + 1 + 11 + q) = iI ((va_up (sX s) l (pEnd o s l) q : Nat) : Int)
    unfold va_up
    by_cases hql : q = l
    · rw [if_pos hql, hql, show B + 1 + 11 + l = B + 12 + l by omega]
      exact f4
    · have hbt2 : (sC s ||| 2 ^ l).testBit q = true := hbt
      rw [testBit_or _ c64 l (by omega) q (by omega)] at hbt2
      rw [if_neg hql, f5 _ (by omega) (by omega) (by omega), c2 _ (by omega), b2 _ (by omega)]
      exact a7 q hq (by simpa [hql] using hbt2)
  · rw [f5 q (by omega) (by omega) (by omega), c2 q (by omega), b2 q (by omega)]
theorem carries_M {S : zMem} {B : Nat} {o : pRoad} {s : pSt} {l : Nat} (hB : B + 18 ≤ 2810) (ho : pRok o) (h : oM S o) (hs : sMo S (B + 1) o s) (hk : pSok o s) (hl : l < rN o) : ∃ S1, f_X9_carries (iI B) (iI l) S = some (iI (pEnd o s l), S1) ∧ sMo S1 (B + 1) o (pDel o s l) ∧ (∀ q, q ≠ 1 → S1.1 q = S.1 q) ∧ S1.2 = S.2 ∧ ∀ q, q < B + 1 ∨ B + 18 ≤ q → S1.1 1 q = S.1 1 q := by
  have hd := ho.2.2.1 l hl
  have hN := ho.2.1
  have hH := ho.1
  have hl3 := h.2.2 l hl
  have hP5 := hk.2.2.1
  have hE2 := hk.2.1
  have hM9 := hk.1
  have t3 : ((B : Int) + 3).toNat = B + 3 := by omega
  have t4 : ((B : Int) + 4).toNat = B + 4 := by omega
  have r4 : S.1 1 (B + 4) = iI (sP s) := hs.2.2.2.1
  have r3 : S.1 1 (B + 3) = iI (sE s) := hs.2.2.1
  have far : f_X9_farFrom (iI B) (iI (rD o l)) S = some (iI (pDist (sP s) (rD o l)), S) := by
    simp only [X9_farFrom_b21, X9_farFrom_b0, f_X9_farFrom, zl_e]
    rw [lit_4, iI_add]
    simp (disch := omega) only [zi_I, zc_true, zl_e, iI_cl, t4, r4, iI_sub, iI_neg, lit_0, iI_le]
    unfold pDist
    repeat' split
    all_goals first | omega | (refine so_eq ?_; omega)
  have hdist : pDist (sP s) (rD o l) ≤ 5 := pDist_le hP5 (by omega)
  simp only [f_X9_carries, X9_carries_b0]
  simp (disch := omega) only [zi_I, zc_true, zl_e, iI_cln, hl3.2.1, far, zb_some]
  rw [lit_3, iI_add]
  simp (disch := omega) only [zi_I, zc_true, zl_e, iI_cl, t3, r3, iI_neg]
  have he : sE s = 0 ∨ sE s = 1 ∨ sE s = 2 := by omega
  have key : ∀ t : Int, (t = if sE s = 0 then -(pDist (sP s) (rD o l) : Int) else if sE s = 2 then (pDist (sP s) (rD o l) : Int) else 0) → (-9 ≤ t ∧ t ≤ 9) ∧ max 0 (min 9 ((sM s : Int) + t)) = (pMood o s l : Int) := by
    intro t ht
    subst ht
    unfold pMood pWalk
    repeat' split
    all_goals refine ⟨by omega, by omega⟩
  simp (disch := omega) only [lit_0, lit_2, iI_eq]
  by_cases h0 : sE s = 0
  · rw [if_pos (by omega)]
    have k0 := key (-(pDist (sP s) (rD o l) : Int)) (by rw [if_pos h0])
    exact carries_mid hB ho h hs hk hl k0.1 k0.2
  · rw [if_neg (by omega)]
    by_cases h2 : sE s = 2
    · rw [if_pos (by omega)]
      have k0 := key (pDist (sP s) (rD o l) : Int) (by rw [if_neg h0, if_pos h2])
      exact carries_mid hB ho h hs hk hl k0.1 k0.2
    · rw [if_neg (by omega)]
      have k0 := key 0 (by rw [if_neg h0, if_neg h2])
      exact carries_mid hB ho h hs hk hl k0.1 k0.2
