/-! the reference's line of letters -/
def lnIs (T : zMem) (c : Nat) (li : List Nat) : Prop := ∀ k, k < li.length → T.1 c k = iI (li.getD k 0 : Nat)
def zFl (S T : zMem) : Prop := (∀ c, c ≠ 1 → c ≠ 12 → c ≠ 13 → T.1 c = S.1 c) ∧ T.2 = S.2 ∧ ∀ q, q < 2792 → T.1 1 q = S.1 1 q
theorem zFl_0 (S : zMem) : zFl S S := ⟨fun _ _ _ _ => rfl, rfl, fun _ _ => rfl⟩
theorem zFl_t {S T U : zMem} (h : zFl S T) (h2 : zFl T U) : zFl S U := ⟨fun c a b d => (h2.1 c a b d).trans (h.1 c a b d), h2.2.1.trans h.2.1, fun q hq => (h2.2.2 q hq).trans (h.2.2 q hq)⟩
theorem zFl_R {S T : zMem} {g : pSig} (h : zFl S T) (hg : pWf g) (hR : RM S g) : RM T g := hR.cg hg (fun k _ => by rw [h.1 0 (by omega) (by omega) (by omega)]) (fun c h1 h2 => h.1 c (by omega) (by omega) (by omega)) h.2.1 h.2.2
theorem beginLine_M (S : zMem) : ∃ T, f_X9_beginLine S = some ((), T) ∧ (∀ k, k < 6 → T.1 12 k = iI 0) ∧ (∀ c, c ≠ 12 → T.1 c = S.1 c) ∧ T.2 = S.2 := by
  refine zforI (F := fun f i T => X9_beginLine_l2 f (iI (i : Nat)) T) (n := 6) (P := fun i T => (∀ k, k < i → T.1 12 k = iI 0) ∧ (∀ c, c ≠ 12 → T.1 c = S.1 c) ∧ T.2 = S.2) (Q := fun r => ∃ T, r = some ((), T) ∧ (∀ k, k < 6 → T.1 12 k = iI 0) ∧ (∀ c, c ≠ 12 → T.1 c = S.1 c) ∧ T.2 = S.2) (fun f i T hi hT => Or.inl ?_) (fun f T hT => ?_) (zF_gt (by omega)) (a := S) ⟨fun k hk => by omega, fun _ _ => rfl, rfl⟩
  · obtain ⟨t1, t2, t3⟩ := hT
    simp (disch := omega) only [X9_beginLine_l2, X9_beginLine_b2, lit_6, iI_le]
    rw [if_neg (by omega)]
    simp (disch := omega) only [zi_I, zc_true, zl_e, iI_cln]
    obtain ⟨T1, w1, w2, w3, w4, w5⟩ := wr T 12 i (0 : Int32)
    rw [w1, lit_1, iI_add]
    refine ⟨T1, ⟨fun k hk => ?_, fun c hc => by rw [w4 c hc, t2 c hc], by rw [w5, t3]⟩, rfl⟩
    by_cases hki : k = i
    · subst hki
      exact w2
    · rw [w3 k hki]
      exact t1 k (by omega)
  · simp (disch := omega) only [X9_beginLine_l2, X9_beginLine_b2, lit_6, iI_le]
    rw [if_pos (by omega)]
    exact ⟨T, rfl, hT⟩
theorem div_up {N q : Nat} (hN : 0 < N) (h : q % N = N - 1) : (q + 1) / N = q / N + 1 ∧ (q + 1) % N = 0 := by
  have e := Nat.div_add_mod q N
  have e2 : q + 1 = N * (q / N + 1) := by rw [Nat.mul_add, Nat.mul_one]; omega
  rw [e2]
  exact ⟨Nat.mul_div_cancel_left _ hN, Nat.mul_mod_right _ _⟩
theorem div_same {N q : Nat} (hN : 0 < N) (h : q % N + 1 < N) : (q + 1) / N = q / N ∧ (q + 1) % N = q % N + 1 := by
  have e := Nat.div_add_mod q N
  have e2 : q + 1 = N * (q / N) + (q % N + 1) := by omega
  constructor
  · rw [e2, Nat.mul_add_div hN, Nat.div_eq_of_lt h, Nat.add_zero]
  · rw [e2, Nat.mul_add_mod, Nat.mod_eq_of_lt h]
theorem nextLine_M {T : zMem} {N n x : Nat} (hN : N ≤ 6) (hn : n ≤ 6) (hx : x < N ^ n) (h0 : T.1 0 2 = iI N) (hl : lnIs T 12 (dgL N n x)) : ∃ T1, f_X9_nextLine (iI n) T = some (if x + 1 < N ^ n then 1 else 0, T1) ∧ (x + 1 < N ^ n → lnIs T1 12 (dgL N n (x + 1))) ∧ (∀ c, c ≠ 12 → T1.1 c = T.1 c) ∧ T1.2 = T.2 := by
  have hlen : ∀ y, (dgL N n y).length = n := fun y => dgL_len N n y
  simp only [f_X9_nextLine, X9_nextLine_b0, zl_e, lit_1, iI_sub]
  have hdg : ∀ y k, 0 < N → k < n → (dgL N n y).getD k 0 = y / N ^ (n - 1 - k) % N := fun y k hp hk => dgL_get hp n y k hk
  have st : (n : Int) - 1 = (n : Int) - 1 - ((0 : Nat) : Int) := by omega
  rw [st]
  refine zforI (F := fun f j U => X9_nextLine_l4 f (iI ((n : Int) - 1 - ((j : Nat) : Int))) U) (n := n) (P := fun j U => (x + 1) / N ^ j = x / N ^ j + 1 ∧ (∀ k, k < n → n - j ≤ k → U.1 12 k = iI (((x + 1) / N ^ (n - 1 - k) % N : Nat) : Int)) ∧ (∀ k, k < n - j → U.1 12 k = iI ((x / N ^ (n - 1 - k) % N : Nat) : Int)) ∧ (∀ c, c ≠ 12 → U.1 c = T.1 c) ∧ U.2 = T.2) (Q := fun r => ∃ T1, r = some (if x + 1 < N ^ n then 1 else 0, T1) ∧ (x + 1 < N ^ n → lnIs T1 12 (dgL N n (x + 1))) ∧ (∀ c, c ≠ 12 → T1.1 c = T.1 c) ∧ T1.2 = T.2) (fun f j U hj hU => ?_) (fun f U hU => ?_) (zF_gt (by omega)) (a := T) ⟨by rw [Nat.pow_zero, Nat.div_one, Nat.div_one], fun k hk hk2 => by omega, fun k hk => ?_, fun _ _ => rfl, rfl⟩
  · obtain ⟨u1, u2, u3, u4, u5⟩ := hU
    have hNp : 0 < N := by
      rcases Nat.eq_zero_or_pos N with h | h
      · subst h
        rw [Nat.zero_pow (by omega)] at hx
        omega
      · exact h
    have ek : (n : Int) - 1 - (j : Int) = ((n - 1 - j : Nat) : Int) := by omega
    have hd := u3 (n - 1 - j) (by omega)
    rw [show n - 1 - (n - 1 - j) = j by omega] at hd
    have hdl : x / N ^ j % N < N := Nat.mod_lt _ hNp
    simp only [X9_nextLine_l4, X9_nextLine_b4, ek, zl_e, u4 0 (by omega), h0, lit_1, iI_sub, lit_0]
    simp (disch := omega) only [iI_lt]
    rw [if_neg (by omega)]
    simp (disch := omega) only [zi_I, zc_true, iI_cln]
    rw [hd]
    simp (disch := omega) only [iI_eq]
    by_cases hc : x / N ^ j % N = N - 1
    · left
      rw [if_pos (by omega)]
      obtain ⟨U1, w1, w2, w3, w4, w5⟩ := wr U 12 (n - 1 - j) (iI 0)
      rw [w1]
      obtain ⟨e1, e2⟩ := div_up hNp hc
      have ed : ∀ y, y / N ^ (j + 1) = y / N ^ j / N := fun y => by rw [Nat.pow_succ, Nat.div_div_eq_div_mul]
      refine ⟨U1, ⟨by rw [ed, ed, u1, e1], fun k hk hk2 => ?_, fun k hk => ?_, fun c hc => by rw [w4 c hc, u4 c hc], by rw [w5, u5]⟩, ?_⟩
      · by_cases hkj : k = n - 1 - j
        · subst hkj
          rw [w2, show n - 1 - (n - 1 - j) = j by omega, u1, e2]
          rfl
        · rw [w3 k hkj]
          exact u2 k hk (by omega)
      · rw [w3 k (by omega)]
        exact u3 k (by omega)
      · rw [show (-iI 1 : Int32) = iI (-1) from rfl, iI_add]
        congr 2
        omega
    · right
      rw [if_neg (by omega)]
      obtain ⟨e1, e2⟩ := div_same hNp (show x / N ^ j % N + 1 < N by omega)
      have hi : ∀ e, j < e → (x + 1) / N ^ e = x / N ^ e := fun e he => by
        have ee : N ^ e = N ^ j * (N * N ^ (e - j - 1)) := by rw [← Nat.pow_succ', ← Nat.pow_add]; congr 1; omega
        rw [ee, ← Nat.div_div_eq_div_mul, ← Nat.div_div_eq_div_mul, ← Nat.div_div_eq_div_mul, ← Nat.div_div_eq_div_mul, u1, e1]
      have hlt : x + 1 < N ^ n := by
        have h1 := hi n hj
        rw [Nat.div_eq_of_lt hx] at h1
        exact (Nat.div_eq_zero_iff_lt (Nat.pow_pos hNp)).mp h1
      simp only [X9_nextLine_b36, X9_nextLine_b50, X9_nextLine_b59, zl_e, lit_1, lit_0, iI_add]
      simp (disch := omega) only [iI_lt]
      rw [if_neg (by omega)]
      simp (disch := omega) only [zi_I, zc_true, iI_cln]
      rw [hd, iI_add, if_neg (by omega), if_pos hlt]
      obtain ⟨U1, w1, w2, w3, w4, w5⟩ := wr U 12 (n - 1 - j) (iI (((x / N ^ j % N : Nat) : Int) + 1))
      rw [w1]
      refine ⟨U1, rfl, fun _ k hk => ?_, fun c hc => by rw [w4 c hc, u4 c hc], by rw [w5, u5]⟩
      rw [hlen] at hk
      rw [hdg (x + 1) k hNp hk]
      by_cases hkj : k = n - 1 - j
      · subst hkj
        rw [w2, show n - 1 - (n - 1 - j) = j by omega, u1, e2]
        rfl
      · rw [w3 k hkj]
        by_cases hkl : k < n - 1 - j
        · rw [u3 k (by omega), hi (n - 1 - k) (by omega)]
        · exact u2 k hk (by omega)
  · obtain ⟨u1, u2, u3, u4, u5⟩ := hU
    have hge : ¬ x + 1 < N ^ n := by
      intro q
      rw [Nat.div_eq_of_lt q] at u1
      exact absurd u1.symm (Nat.succ_ne_zero _)
    simp only [X9_nextLine_l4, X9_nextLine_b4, X9_nextLine_b36, X9_nextLine_b50, X9_nextLine_b59, lit_0]
    simp (disch := omega) only [iI_lt]
    rw [if_pos (by omega), if_pos (by omega), if_pos (by omega), if_neg hge]
    exact ⟨U, rfl, fun q => absurd q hge, u4, u5⟩
  · have hNp : 0 < N := by
      rcases Nat.eq_zero_or_pos N with h | h
      · subst h
        rw [Nat.zero_pow (by omega)] at hx
        omega
      · exact h
    rw [← hdg x k hNp (by omega)]
    exact hl k (by rw [hlen]; omega)
theorem or64I : ∀ c, c < 64 → ∀ d, d < 64 → iI (c : Nat) ||| iI (d : Nat) = iI ((c ||| d : Nat) : Int) := by decide +kernel
theorem getD_drop {li : List Nat} {k : Nat} (h : k < li.length) : li.drop k = li.getD k 0 :: li.drop (k + 1) := by
  rw [List.drop_eq_getElem_cons h]
  congr 1
  simp [h]
theorem lettersOf_M {T : zMem} {N out : Nat} {li : List Nat} (hN : N ≤ 6) (hl : ∀ l ∈ li, l < N) (hn : li.length ≤ 6) (ho : out < 64) (h5 : T.1 1 5 = iI out) (hli : lnIs T 12 li) : f_X9_lettersOf (iI li.length) T = some (match pSnL out 0 li with
    | some t => iI (t : Nat)
    | none => -1, T) := by
  have hget : ∀ k, k < li.length → li.getD k 0 < N := fun k hk => by
    have : li.getD k 0 = li[k] := by simp [hk]
    rw [this]
    exact hl _ (List.getElem_mem hk)
  refine zforI (F := fun f i (a : Nat × Int32) => X9_lettersOf_l7 f (iI li.length) (iI a.1) a.2 (iI (i : Nat)) T) (n := li.length) (P := fun k a => a.1 < 64 ∧ ((a.2 = 1 ∧ pSnL out 0 li = pSnL out a.1 (li.drop k)) ∨ (a.2 = 0 ∧ pSnL out 0 li = none))) (Q := fun r => r = some (match pSnL out 0 li with
    | some t => iI (t : Nat)
    | none => -1, T)) (fun f k a hk ha => Or.inl ?_) (fun f a ha => ?_) (zF_gt (by omega)) (a := (0, 1)) ⟨by omega, Or.inl ⟨rfl, rfl⟩⟩
  · obtain ⟨c, b⟩ := a
    obtain ⟨c64, hb⟩ := ha
    dsimp only at c64 hb ⊢
    have hg := hget k hk
    have ee := hli k hk
    have e1 : X9_lettersOf_b43 (X9_lettersOf_l7 f) (iI li.length) (iI c) (iI k) = fun s0 S => X9_lettersOf_b43 (X9_lettersOf_l7 f) (iI li.length) (iI c) (iI k) s0 S := rfl
    have e43 : ∀ s0 : Int32, X9_lettersOf_b43 (X9_lettersOf_l7 f) (iI li.length) (iI c) (iI k) s0 T = X9_lettersOf_l7 f (iI li.length) (iI ((c ||| 2 ^ li.getD k 0 : Nat) : Int)) s0 (iI ((k + 1 : Nat) : Int)) T := by
      intro s0
      simp (disch := omega) only [X9_lettersOf_b43, zi_I, zc_true, zl_e, iI_cln, ee, orI c c64 (li.getD k 0) (by omega)]
      rw [lit_1, iI_add]
      rfl
    have cn := or_64 c c64 _ (two_64 (li.getD k 0) (by omega))
    simp (disch := omega) only [X9_lettersOf_l7, X9_lettersOf_b7, X9_lettersOf_b42, iI_le]
    rw [if_neg (by omega)]
    rcases hb with ⟨rfl, hb⟩ | ⟨rfl, hb⟩
    · rw [if_neg (by decide), z5, zc_true, n5, zl_e, h5, or64I c c64 out ho]
      simp (disch := omega) only [zi_I, zc_true, zl_e, iI_cln, ee]
      rw [mhas_eq (or_64 c c64 out ho) (by omega)]
      simp only [zb_some]
      rw [getD_drop hk] at hb
      have hb2 : pSnL out 0 li = if (c ||| out).testBit (li.getD k 0) then none else pSnL out (c ||| 2 ^ li.getD k 0) (li.drop (k + 1)) := hb
      by_cases ht : (c ||| out).testBit (li.getD k 0) = true
      · rw [if_pos ht] at hb2
        rw [if_pos ht, if_neg (by decide), e43]
        exact ⟨(c ||| 2 ^ li.getD k 0, 0), ⟨cn, Or.inr ⟨rfl, hb2⟩⟩, rfl⟩
      · rw [if_neg ht] at hb2
        rw [if_neg ht, if_pos rfl, e43]
        exact ⟨(c ||| 2 ^ li.getD k 0, 1), ⟨cn, Or.inl ⟨rfl, hb2⟩⟩, rfl⟩
    · rw [if_pos rfl, e43]
      exact ⟨(c ||| 2 ^ li.getD k 0, 0), ⟨cn, Or.inr ⟨rfl, hb⟩⟩, rfl⟩
  · obtain ⟨c, b⟩ := a
    obtain ⟨c64, hb⟩ := ha
    dsimp only at c64 hb ⊢
    simp (disch := omega) only [X9_lettersOf_l7, X9_lettersOf_b7, X9_lettersOf_b71, iI_le]
    rw [if_pos (by omega)]
    rcases hb with ⟨rfl, hb⟩ | ⟨rfl, hb⟩
    · rw [if_neg (by decide), hb, List.drop_length]
      rfl
    · rw [if_pos rfl, hb]
theorem endTogether_M {T : zMem} {g : pSig} {li : List Nat} (hg : pWf g) (h : RM T g) (hl : ∀ l ∈ li, l < rN (gO g)) (hn : li.length ≤ 6) (hli : lnIs T 12 li) : ∃ T1, f_X9_endTogether (iI li.length) T = some (iI (pTog (gO g) (gS g) li), T1) ∧ zTr T T1 ∧ sMo T1 (2792 + 1) (gO g) (pDelL (gO g) (gS g) li) := by
  have hN := hg.o.2.1
  have hget : ∀ k, k < li.length → li.getD k 0 < rN (gO g) := fun k hk => by
    have : li.getD k 0 = li[k] := by simp [hk]
    rw [this]
    exact hl _ (List.getElem_mem hk)
  simp only [f_X9_endTogether, X9_endTogether_b0, layTried_eq, zb_some]
  refine zforI (F := fun f i (a : zMem × pSt × Nat) => X9_endTogether_l8 f (iI li.length) (iI a.2.2) (iI (i : Nat)) a.1) (n := li.length) (P := fun k a => zTr T a.1 ∧ sMo a.1 (2792 + 1) (gO g) a.2.1 ∧ pSok (gO g) a.2.1 ∧ pTog (gO g) (gS g) li = a.2.2 + pTog (gO g) a.2.1 (li.drop k) ∧ pDelL (gO g) (gS g) li = pDelL (gO g) a.2.1 (li.drop k)) (Q := fun r => ∃ T1, r = some (iI (pTog (gO g) (gS g) li), T1) ∧ zTr T T1 ∧ sMo T1 (2792 + 1) (gO g) (pDelL (gO g) (gS g) li)) (fun f k a hk ha => Or.inl ?_) (fun f a ha => ?_) (zF_gt (by omega)) (a := (cpb T 0 2792 18, gS g, 0)) ⟨zTr_cp T, tried_0 hg h, hg.ok, by rw [Nat.zero_add]; rfl, rfl⟩
  · obtain ⟨U, s, sum⟩ := a
    obtain ⟨a1, a2, a3, a4, a5⟩ := ha
    dsimp only at a1 a2 a3 a4 a5 ⊢
    have hR := zTr_R a1 hg h
    have hgk := hget k hk
    simp (disch := omega) only [X9_endTogether_l8, X9_endTogether_b8, iI_le]
    rw [if_neg (by omega)]
    simp (disch := omega) only [zi_I, zc_true, zl_e, iI_cln, a1.1 12 (by omega), hli k hk]
    obtain ⟨U1, e1, e2, e3, e4, e5⟩ := carries_M (B := 2792) (by omega) hg.o hR.o a2 a3 hgk
    have e1' : f_X9_carries (2792 : Int32) (iI ↑(li.getD k 0)) U = some (iI ↑(pEnd (gO g) s (li.getD k 0)), U1) := e1
    rw [e1']
    rw [getD_drop hk] at a4 a5
    refine ⟨(U1, pDel (gO g) s (li.getD k 0), sum + pEnd (gO g) s (li.getD k 0)), ⟨zTr_t a1 ⟨e3, e4, fun q hq => e5 q (by omega)⟩, e2, pDel_ok hg.o a3 hgk, ?_, a5⟩, ?_⟩
    · rw [a4]
      show sum + (pEnd (gO g) s (li.getD k 0) + pTog (gO g) (pDel (gO g) s (li.getD k 0)) (li.drop (k + 1))) = sum + pEnd (gO g) s (li.getD k 0) + pTog (gO g) (pDel (gO g) s (li.getD k 0)) (li.drop (k + 1))
      omega
    · simp only [zb_some, iI_nadd, lit_1, iI_add]
      rfl
  · obtain ⟨U, s, sum⟩ := a
    obtain ⟨a1, a2, a3, a4, a5⟩ := ha
    dsimp only at a1 a2 a3 a4 a5 ⊢
    rw [List.drop_length] at a4 a5
    simp (disch := omega) only [X9_endTogether_l8, X9_endTogether_b8, iI_le]
    rw [if_pos (by omega), a4, a5]
    exact ⟨U, rfl, a1, a2⟩
theorem keepLine_M {T : zMem} {li : List Nat} (hn : li.length ≤ 6) (hli : lnIs T 12 li) : ∃ T1, f_X9_keepLine (iI li.length) T = some ((), T1) ∧ lnIs T1 13 li ∧ (∀ c, c ≠ 13 → T1.1 c = T.1 c) ∧ T1.2 = T.2 := by
  refine zforI (F := fun f i U => X9_keepLine_l2 f (iI li.length) (iI (i : Nat)) U) (n := li.length) (P := fun i U => (∀ k, k < i → U.1 13 k = iI (li.getD k 0 : Nat)) ∧ (∀ c, c ≠ 13 → U.1 c = T.1 c) ∧ U.2 = T.2) (Q := fun r => ∃ T1, r = some ((), T1) ∧ lnIs T1 13 li ∧ (∀ c, c ≠ 13 → T1.1 c = T.1 c) ∧ T1.2 = T.2) (fun f i U hi hU => Or.inl ?_) (fun f U hU => ?_) (zF_gt (by omega)) (a := T) ⟨fun k hk => by omega, fun _ _ => rfl, rfl⟩
  · obtain ⟨t1, t2, t3⟩ := hU
    simp (disch := omega) only [X9_keepLine_l2, X9_keepLine_b2, iI_le]
    rw [if_neg (by omega)]
    simp (disch := omega) only [zi_I, zc_true, zl_e, iI_cln, t2 12 (by omega), hli i hi]
    obtain ⟨T1, w1, w2, w3, w4, w5⟩ := wr U 13 i (iI (li.getD i 0 : Nat))
    rw [w1, lit_1, iI_add]
    refine ⟨T1, ⟨fun k hk => ?_, fun c hc => by rw [w4 c hc, t2 c hc], by rw [w5, t3]⟩, rfl⟩
    by_cases hki : k = i
    · subst hki
      exact w2
    · rw [w3 k hki]
      exact t1 k (by omega)
  · simp (disch := omega) only [X9_keepLine_l2, X9_keepLine_b2, iI_le]
    rw [if_pos (by omega)]
    exact ⟨U, rfl, hU⟩
/-- a row that comes anew: an order of letters -/
def gOrd (g : pSig) (r : Nat) (li : List Nat) : pSig := gR_ g (va_up (gR g) r ((li.length : Int), fun k => iI (li.getD k 0 : Nat)))
theorem tellLine_M {T : zMem} {g : pSig} {r : Nat} {li : List Nat} (hg : pWf g) (h : RM T g) (hr : r < 6) (hn : li.length ≤ 6) (hli : lnIs T 13 li) : ∃ T1, f_X9_tellLine (iI li.length) (iI r) T = some ((), T1) ∧ RM T1 (gOrd g r li) := by
  obtain ⟨S1, e1, e2, e3, e4, e5, e6⟩ := makeRow_eq (r := r) (n := li.length) T hr (by omega)
  simp only [f_X9_tellLine, X9_tellLine_b0, e1, zb_some]
  refine zforI (F := fun f i U => X9_tellLine_l8 f (iI li.length) (iI r) (iI (i : Nat)) U) (n := li.length) (P := fun i U => (∀ k, k < i → U.1 6 (40 * r + k) = iI (li.getD k 0 : Nat)) ∧ (∀ q, q < 40 * r ∨ 40 * r + 40 ≤ q → U.1 6 q = T.1 6 q) ∧ (∀ c, c ≠ 6 → U.1 c = S1.1 c) ∧ U.2 = S1.2) (Q := fun r1 => ∃ T1, r1 = some ((), T1) ∧ RM T1 (gOrd g r li)) (fun f i U hi hU => Or.inl ?_) (fun f U hU => ?_) (zF_gt (by omega)) (a := S1) ⟨fun k hk => by omega, e6, fun _ _ => rfl, rfl⟩
  · obtain ⟨t1, t2, t3, t4⟩ := hU
    simp (disch := omega) only [X9_tellLine_l8, X9_tellLine_b8, iI_le]
    rw [if_neg (by omega)]
    simp (disch := omega) only [lit_40, iI_mul, iI_add, zi_I, zc_true, zl_e, iI_cl, Int.toNat_natCast, t3 13 (by omega), e2 13 (by omega) (by omega), hli i hi]
    rw [show ((40 : Int) * (r : Int) + (i : Int)).toNat = 40 * r + i by omega]
    obtain ⟨T1, w1, w2, w3, w4, w5⟩ := wr U 6 (40 * r + i) (iI (li.getD i 0 : Nat))
    rw [w1, lit_1, iI_add]
    refine ⟨T1, ⟨fun k hk => ?_, fun q hq => by rw [w3 q (by omega), t2 q hq], fun c hc => by rw [w4 c hc, t3 c hc], by rw [w5, t4]⟩, rfl⟩
    by_cases hki : k = i
    · subst hki
      exact w2
    · rw [w3 _ (by omega)]
      exact t1 k (by omega)
  · obtain ⟨t1, t2, t3, t4⟩ := hU
    simp (disch := omega) only [X9_tellLine_l8, X9_tellLine_b8, iI_le]
    rw [if_pos (by omega)]
    refine ⟨U, rfl, h.rows ?_ (by rw [t4, e3]) (fun c h5 h6 => by rw [t3 c h6, e2 c h5 h6])⟩
    intro q hq
    have hr2 := h.2.1 q hq
    have hb := hg.1 q hq
    rw [t3 5 (by omega), e4]
    by_cases hqr : q = r
    · subst hqr
      rw [upd_eq, up_eq]
      refine ⟨rfl, fun k hk => ?_⟩
      dsimp only at hk ⊢
      exact t1 k (by omega)
    · rw [upd_ne hqr, up_ne hqr]
      refine ⟨hr2.1, fun k hk => ?_⟩
      rw [t2 _ (by omega)]
      exact hr2.2 k hk
theorem wf_ord {g : pSig} {r : Nat} {li : List Nat} (hg : pWf g) (hn : li.length ≤ 6) : pWf (gOrd g r li) := wf_row hg (by omega) (by omega)
