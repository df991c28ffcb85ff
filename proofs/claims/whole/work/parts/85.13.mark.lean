/-! mark, ends, bond, least -/
def pIsOf (k m : Nat) : Bool := k == m || (m == 1 && k == 4) || (m == 3 && k == 5)
theorem isOf_eq {k m : Nat} (hk : k ≤ 5) (h1 : 1 ≤ m) (h2 : m ≤ 5) (S : zMem) : f_X1_isOf (iI k) (iI m) S = some (if pIsOf k m then 1 else 0, S) := by
  obtain ⟨f, hf⟩ : ∃ f, zF = f + 8 := ⟨zF - 8, by have := zF_gt (n := 8) (by omega); omega⟩
  simp only [f_X1_isOf, X1_isOf_b0, hf]
  have e1 : k = 0 ∨ k = 1 ∨ k = 2 ∨ k = 3 ∨ k = 4 ∨ k = 5 := by omega
  have e2 : m = 1 ∨ m = 2 ∨ m = 3 ∨ m = 4 ∨ m = 5 := by omega
  rcases e1 with rfl | rfl | rfl | rfl | rfl | rfl <;> rcases e2 with rfl | rfl | rfl | rfl | rfl <;> rfl
theorem misOf_eq {S : zMem} {o : pRoad} {l m : Nat} (ho : pRok o) (hc : oM S o) (hl : l < rN o) (h1 : 1 ≤ m) (h2 : m ≤ 5) : f_X9_isOf (iI l) (iI m) S = some (if pIsOf (rK o l) m then 1 else 0, S) := by
  have hN := ho.2.1
  have hk := (ho.2.2.1 l hl).1
  simp (disch := omega) only [f_X9_isOf, X9_isOf_b0, zi_I, zc_true, zl_e, iI_cln, (hc.2.2 l hl).1]
  generalize rK o l = k at hk ⊢
  have e1 : k = 0 ∨ k = 1 ∨ k = 2 ∨ k = 3 ∨ k = 4 ∨ k = 5 := by omega
  have e2 : m = 1 ∨ m = 2 ∨ m = 3 ∨ m = 4 ∨ m = 5 := by omega
  rcases e1 with rfl | rfl | rfl | rfl | rfl | rfl <;> rcases e2 with rfl | rfl | rfl | rfl | rfl <;> rfl
def pMark (m w mood : Nat) : Int := if m = 1 then (pDist w mood : Int) else if m = 2 then (pW 2 w mood : Int) - (pW 0 w mood : Int) else if m = 3 then 9 - (w : Int) else if m = 4 then (pW 4 w mood : Int) - w else (pW 5 w (9 - mood) : Int)
theorem markOf_eq {m w mood : Nat} (h1 : 1 ≤ m) (h2 : m ≤ 5) (hw : w ≤ 9) (hm : mood ≤ 9) (S : zMem) : f_X1_markOf (iI m) (iI w) (iI mood) S = some (iI (pMark m w mood), S) := by
  have e2 : m = 1 ∨ m = 2 ∨ m = 3 ∨ m = 4 ∨ m = 5 := by omega
  rcases e2 with rfl | rfl | rfl | rfl | rfl
  · simp only [X1_markOf_b0, f_X1_markOf, eq_11, if_true, zl_e]
    simp (disch := omega) only [lit_0, iI_sub, iI_le]
    unfold pMark pDist
    repeat' split
    all_goals first | omega | (refine so_eq ?_; omega)
  · simp only [X1_markOf_b0, f_X1_markOf, eq_12, eq_22, if_true, if_false]
    rw [show (2 : Int32) = iI ((2 : Nat) : Int) from rfl, X1_warmth_eq (by omega) hw hm]
    simp only [zb_some]
    rw [show (0 : Int32) = iI ((0 : Nat) : Int) from rfl, X1_warmth_eq (by omega) hw hm]
    simp only [zb_some, zl_e, iI_sub]
    rfl
  · simp only [X1_markOf_b0, f_X1_markOf, eq_13, eq_23, eq_33, if_true, if_false, zl_e, lit_9, iI_sub]
    rfl
  · simp only [X1_markOf_b0, f_X1_markOf, eq_14, eq_24, eq_34, eq_44, if_true, if_false]
    rw [show (4 : Int32) = iI ((4 : Nat) : Int) from rfl, X1_warmth_eq (by omega) hw hm]
    simp only [zb_some, zl_e, iI_sub]
    rfl
  · simp only [X1_markOf_b0, f_X1_markOf, eq_15, eq_25, eq_35, eq_45, if_true, if_false, zl_e, lit_9, iI_sub]
    rw [show (5 : Int32) = iI ((5 : Nat) : Int) from rfl, show (9 : Int) - (mood : Int) = ((9 - mood : Nat) : Int) by omega, X1_warmth_eq (by omega) hw (by omega)]
    rfl
def qMark (x w : Int32) (g : pSig) : Int32 × pSig := match pIn x (rN (gO g)), pIn w 6 with
  | some l, some m => if m = 0 then (-1, g) else if pIsOf (rK (gO g) l) m then (iI (pMark m (rW (gO g) l) (sM (gS g))), g) else qRef 3 g
  | _, _ => (-1, g)
theorem mark_wf (x w : Int32) : ∀ g, pWf g → pWf (qMark x w g).2 := by
  intro g h
  unfold qMark
  repeat' split
  all_goals exact h
theorem mark_C (x w : Int32) : okC (f_X8_mark x w) (qMark x w) := by
  intro S g hg h
  unfold qMark
  cases hx : pIn x (rN (gO g)) with
  | none =>
    simp only [X8_mark_b18, X8_mark_b0, f_X8_mark, isLetter_f hg.o h.o hx, zb_some, zero_0, if_true]
    exact ⟨S, rfl, h⟩
  | some l =>
    obtain ⟨rfl, hl⟩ := pIn_some hx
    have hN := hg.o.2.1
    have hk3 := hg.o.2.2.1 l hl
    have hl3 := h.o.2.2.2.2.2 l hl
    cases hw : pIn w 6 with
    | none =>
      have h3 := pIn_none hw
      obtain ⟨z, hz1, hz2, rfl⟩ := int_of w
      rw [iI_toInt hz1 hz2] at h3
      simp only [X8_mark_b18, X8_mark_b0, f_X8_mark, isLetter_t hg.o h.o hl, zb_some, one_0, if_false]
      simp (disch := omega) only [lit_0, lit_6, iI_le, iI_lt]
      by_cases h4 : z ≤ 0
      · rw [if_pos h4]
        exact ⟨S, rfl, h⟩
      · rw [if_neg h4, if_neg (by omega)]
        exact ⟨S, rfl, h⟩
    | some m =>
      obtain ⟨rfl, hm⟩ := pIn_some hw
      simp only [X8_mark_b18, X8_mark_b0, f_X8_mark, isLetter_t hg.o h.o hl, zb_some, one_0, if_false]
      simp (disch := omega) only [show ((0 : Int32) = iI 0) from rfl, show ((6 : Int32) = iI 6) from rfl, iI_le, iI_lt]
      by_cases h0 : m = 0
      · rw [if_pos (by omega), if_pos h0]
        exact ⟨S, rfl, h⟩
      · rw [if_neg (by omega), if_pos (by omega), if_neg h0]
        simp (disch := omega) only [zi_I, zc_true, zl_e, iI_cln, hl3.1, hl3.2.2, isOf_eq hk3.1 (show 1 ≤ m by omega) (show m ≤ 5 by omega), zb_some, h.s.2.1]
        by_cases hi : pIsOf (rK (gO g) l) m = true
        · rw [if_pos hi, if_pos hi, if_neg (by decide), markOf_eq (by omega) (by omega) hk3.2.2 hg.ok.1]
          exact ⟨S, rfl, h⟩
        · rw [if_neg hi, if_neg hi, if_pos (by decide)]
          exact ref_Ce 3 (by omega) h rfl
theorem mark_M (x w : Int32) : okM (f_X9_mark x w) (qMark x w) := by
  intro S g hg h
  unfold qMark
  cases hx : pIn x (rN (gO g)) with
  | none =>
    simp only [X9_mark_b20, X9_mark_b101, X9_mark_b8, X9_mark_b0, f_X9_mark, misLetter_f hg.o h.o hx, zb_some, zero_0, if_true]
    exact ⟨S, rfl, h⟩
  | some l =>
    obtain ⟨rfl, hl⟩ := pIn_some hx
    have hN := hg.o.2.1
    have hk3 := hg.o.2.2.1 l hl
    have hl3 := h.o.2.2 l hl
    have hM := hg.ok.1
    simp only [X9_mark_b20, X9_mark_b101, X9_mark_b8, X9_mark_b0, f_X9_mark, misLetter_t hg.o h.o hl, zb_some, one_0, if_false, zl_e]
    rw [show (1 : Int64) = (iI 1).toInt64 from rfl, show (5 : Int64) = (iI 5).toInt64 from rfl, X9_in_eq, iI_toInt (z := 1) (by omega) (by omega), iI_toInt (z := 5) (by omega) (by omega)]
    simp only [zb_some, b01_0]
    cases hw : pIn w 6 with
    | none =>
      have h3 := pIn_none hw
      rw [if_pos (by omega)]
      exact ⟨S, rfl, h⟩
    | some m =>
      obtain ⟨rfl, hm⟩ := pIn_some hw
      rw [iI_toInt (z := (m : Int)) (by omega) (by omega)]
      dsimp only
      by_cases h0 : m = 0
      · rw [if_pos (by omega), if_pos h0]
        exact ⟨S, rfl, h⟩
      · rw [if_neg (by omega), if_neg h0, misOf_eq hg.o h.o hl (by omega) (by omega)]
        simp only [zb_some]
        by_cases hi : pIsOf (rK (gO g) l) m = true
        · rw [if_pos hi, if_pos hi, if_neg (by decide), show zi (2 : Int32) 2810 = true from rfl, show S.1 1 (Int32.toNatClampNeg 2) = iI (sM (gS g)) from h.s.2.1]
          simp (disch := omega) only [zi_I, zc_true, zl_e, iI_cln, hl3.2.2]
          refine ⟨S, ?_, h⟩
          have e2 : m = 1 ∨ m = 2 ∨ m = 3 ∨ m = 4 ∨ m = 5 := by omega
          rcases e2 with rfl | rfl | rfl | rfl | rfl
          · simp only [eq_11, if_true]
            simp (disch := omega) only [iI_sub, iI_le]
            unfold pMark pDist
            repeat' split
            all_goals first | omega | (refine so_eq ?_; omega)
          · simp only [eq_12, eq_22, if_true, if_false]
            rw [show (2 : Int32) = iI ((2 : Nat) : Int) from rfl, X9_endsBy_eq (by omega) hk3.2.2 hM]
            simp only [zb_some]
            rw [show (0 : Int32) = iI ((0 : Nat) : Int) from rfl, X9_endsBy_eq (by omega) hk3.2.2 hM]
            simp only [zb_some, iI_sub]
            rfl
          · simp only [eq_13, eq_23, eq_33, if_true, if_false, lit_9, iI_sub]
            rfl
          · simp only [eq_14, eq_24, eq_34, eq_44, if_true, if_false]
            rw [show (4 : Int32) = iI ((4 : Nat) : Int) from rfl, show (0 : Int32) = iI ((0 : Nat) : Int) from rfl, X9_endsBy_eq (by omega) hk3.2.2 (by omega)]
            simp only [zb_some, iI_sub]
            rfl
          · simp only [eq_15, eq_25, eq_35, eq_45, if_true, if_false, lit_9, iI_sub]
            rw [show (5 : Int32) = iI ((5 : Nat) : Int) from rfl, show (9 : Int) - (sM (gS g) : Int) = ((9 - sM (gS g) : Nat) : Int) by omega, X9_endsBy_eq (by omega) hk3.2.2 (by omega)]
            rfl
        · rw [if_neg hi, if_neg hi, if_pos (by decide)]
          exact ref_Me 3 (by omega) h rfl
/-! ends -/
def qEnds (x w m : Int32) (g : pSig) : Int32 × pSig := match pIn x (rN (gO g)), pIn w 10, pIn m 10 with
  | some l, some w, some m => (iI (pW (rK (gO g) l) w m), g)
  | _, _, _ => (-1, g)
theorem ends_wf (x w m : Int32) : ∀ g, pWf g → pWf (qEnds x w m g).2 := by
  intro g h
  unfold qEnds
  repeat' split
  all_goals exact h
theorem ends_C (x w m : Int32) : okC (f_X8_ends x w m) (qEnds x w m) := by
  intro S g hg h
  unfold qEnds
  refine ⟨S, ?_, by split <;> exact h⟩
  cases hx : pIn x (rN (gO g)) with
  | none => simp only [X8_ends_b26, X8_ends_b0, f_X8_ends, isLetter_f hg.o h.o hx, zb_some, zero_0, if_true]
  | some l =>
    obtain ⟨rfl, hl⟩ := pIn_some hx
    have hN := hg.o.2.1
    simp only [X8_ends_b26, X8_ends_b0, f_X8_ends, isLetter_t hg.o h.o hl, zb_some, one_0, if_false]
    rw [show (9 : Int32) = iI ((9 : Nat) : Int) from rfl]
    cases hw : pIn w 10 with
    | none => simp only [within_f hw (show 9 < 1000000 by omega), zb_some, zero_0, if_true]
    | some w =>
      obtain ⟨rfl, hw⟩ := pIn_some hw
      simp only [within_t (show w ≤ 9 by omega) (show 9 < 1000000 by omega), zb_some, one_0, if_false]
      cases hm : pIn m 10 with
      | none => simp only [within_f hm (show 9 < 1000000 by omega), zb_some, zero_0, if_true]
      | some m =>
        obtain ⟨rfl, hm⟩ := pIn_some hm
        simp (disch := omega) only [within_t (show m ≤ 9 by omega) (show 9 < 1000000 by omega), zb_some, one_0, if_false, zi_I, zc_true, zl_e, iI_cln, (h.o.2.2.2.2.2 l hl).1]
        rw [X1_warmth_eq (hg.o.2.2.1 l hl).1 (by omega) (by omega)]
        rfl
theorem ends_M (x w m : Int32) : okM (f_X9_ends x w m) (qEnds x w m) := by
  intro S g hg h
  unfold qEnds
  refine ⟨S, ?_, by split <;> exact h⟩
  cases hx : pIn x (rN (gO g)) with
  | none => simp only [X9_ends_b47, X9_ends_b46, X9_ends_b0, f_X9_ends, misLetter_f hg.o h.o hx, zb_some, zero_0, if_true]
  | some l =>
    obtain ⟨rfl, hl⟩ := pIn_some hx
    have hN := hg.o.2.1
    simp only [X9_ends_b47, X9_ends_b46, X9_ends_b0, f_X9_ends, misLetter_t hg.o h.o hl, zb_some, one_0, if_false, zl_e]
    cases hw : pIn w 10 with
    | none => simp only [min_in_f (n := 9) (m := 9) rfl hw (by omega), zb_some, zero_0, if_true]
    | some w =>
      obtain ⟨rfl, hw⟩ := pIn_some hw
      simp only [min_in_t (n := 9) (m := 9) rfl (show w ≤ 9 by omega) (by omega), zb_some, one_0, if_false]
      cases hm : pIn m 10 with
      | none => simp only [min_in_f (n := 9) (m := 9) rfl hm (by omega), zb_some, zero_0, if_true]
      | some m =>
        obtain ⟨rfl, hm⟩ := pIn_some hm
        simp (disch := omega) only [min_in_t (n := 9) (m := 9) rfl (show m ≤ 9 by omega) (show 9 < 1000000 by omega), zb_some, one_0, if_false, zi_I, zc_true, zl_e, iI_cln, (h.o.2.2 l hl).1]
        rw [X9_endsBy_eq (hg.o.2.2.1 l hl).1 (by omega) (by omega)]
        rfl
/-! bond -/
/-- the reference tries, from his mood m on -/
theorem tried_M {S : zMem} {g : pSig} {l : Nat} (hg : pWf g) (h : RM S g) (hl : l < rN (gO g)) (s : pSt) (T : zMem) (hT : T.2 = S.2) (hT1 : ∀ c, c ≠ 1 → T.1 c = S.1 c) (hq : ∀ q, q < 2792 → T.1 1 q = S.1 1 q) (hs : sMo T (2792 + 1) (gO g) s) (hk : pSok (gO g) s) : ∃ S1, f_X9_carries (2792 : Int32) (iI l) T = some (iI (pEnd (gO g) s l), S1) ∧ RM S1 g ∧ sMo S1 (2792 + 1) (gO g) (pDel (gO g) s l) := by
  have ho2 : oM T (gO g) := h.o.cg (by rw [hT1 0 (by omega)]) (by rw [hT1 0 (by omega)]) (hT1 2 (by omega)) (hT1 3 (by omega)) (hT1 4 (by omega))
  obtain ⟨S1, e1, e2, e3, e4, e5⟩ := carries_M (B := 2792) (by omega) hg.o ho2 hs hk hl
  exact ⟨S1, e1, h.tried hg (fun c hc => by rw [e3 c hc, hT1 c hc]) (by rw [e4, hT]) (fun q hq2 => by rw [e5 q (by omega), hq q hq2]), e2⟩
theorem tried_0 {S : zMem} {g : pSig} (hg : pWf g) (h : RM S g) : sMo (cpb S 0 2792 18) (2792 + 1) (gO g) (gS g) := h.s.mv hg.o (fun k hk => by rw [Nat.add_assoc, cpb_in (by omega)]; exact congrArg (S.1 1) (by omega))
def qBond (x : Int32) (g : pSig) : Int32 × pSig := match pIn x (rN (gO g)) with
  | some l => (iI (pBond (sB (gS g) (rD (gO g) l)) (pEnd (gO g) (gS g) l)), (qTell (iI (sM (pDel (gO g) (gS g) l))) g).2)
  | none => (-1, g)
theorem bond_wf (x : Int32) : ∀ g, pWf g → pWf (qBond x g).2 := by
  intro g h
  unfold qBond
  split <;> exact h
theorem bond_C (x : Int32) : okC (f_X8_bond x) (qBond x) := by
  intro S g hg h
  unfold qBond
  cases hx : pIn x (rN (gO g)) with
  | none =>
    simp only [X8_bond_b0, f_X8_bond, isLetter_f hg.o h.o hx, zb_some, zero_0, if_true]
    exact ⟨S, rfl, h⟩
  | some l =>
    obtain ⟨rfl, hl⟩ := pIn_some hx
    have hN := hg.o.2.1
    have hH := hg.o.1
    have hk3 := hg.o.2.2.1 l hl
    have hl3 := h.o.2.2.2.2.2 l hl
    have e := arriving_eq (b := 0) hg.o h.o h.s hg.ok hl (by omega)
    rw [bribe_0 hg.ok] at e
    have e' : f_X8_arrivingWith (iI ↑l) (0 : Int32) S = some (iI ↑(pMood (gO g) (gS g) l), S) := e
    have e2 := warmth_eq hg.o h.o hl (pMood_le (o := gO g) (l := l) hg.ok)
    have e3 := moodBehind_eq hg.o h.o hl (pMood_le (o := gO g) (l := l) hg.ok) (pEnd_le hg.o hg.ok hl)
    unfold pEnd at e3
    simp only [X8_bond_b0, f_X8_bond, isLetter_t hg.o h.o hl, zb_some, one_0, if_false, e', e2, e3]
    obtain ⟨S1, f1, f2, f3⟩ := tell_C (iI (sM (pDel (gO g) (gS g) l))) h
    have f1' : f_X8_tell (iI ↑(pTurn (rK (gO g) l) (pW (rK (gO g) l) (rW (gO g) l) (pMood (gO g) (gS g) l)) (pMood (gO g) (gS g) l))) S = some (1, S1) := f1
    rw [f1']
    simp only [zb_some]
    rw [f3 27 (by omega), f3 36 (by omega)]
    simp (disch := omega) only [zi_I, zc_true, zl_e, iI_cln, hl3.2.1]
    rw [show S.1 36 (rD (gO g) l) = iI (sB (gS g) (rD (gO g) l)) from h.s.2.2.2.2.2.1 _ hk3.2.1, X6_bondBehind_eq (hg.ok.2.2.2.2.1 _ hk3.2.1) (pW_le hk3.2.2 (pMood_le hg.ok))]
    exact ⟨S1, rfl, f2⟩
theorem bond_M (x : Int32) : okM (f_X9_bond x) (qBond x) := by
  intro S g hg h
  unfold qBond
  cases hx : pIn x (rN (gO g)) with
  | none =>
    simp only [X9_bond_b0, f_X9_bond, misLetter_f hg.o h.o hx, zb_some, zero_0, if_true]
    exact ⟨S, rfl, h⟩
  | some l =>
    obtain ⟨rfl, hl⟩ := pIn_some hx
    have hN := hg.o.2.1
    have hH := hg.o.1
    have hk3 := hg.o.2.2.1 l hl
    obtain ⟨S1, e1, e2, e3⟩ := tried_M hg h hl (gS g) (cpb S 0 2792 18) rfl (fun c hc => cpb_ne hc) (fun q hq => cpb_out (by omega)) (tried_0 hg h) hg.ok
    have hl3 := e2.o.2.2 l hl
    simp only [X9_bond_b0, f_X9_bond, misLetter_t hg.o h.o hl, zb_some, one_0, if_false, layTried_eq, e1]
    rw [show zi (2794 : Int32) 2810 = true from rfl, show S1.1 1 (Int32.toNatClampNeg 2794) = iI (sM (pDel (gO g) (gS g) l)) from e3.2.1]
    have ef : ∀ v, f_X9_tell v S1 = some (1, zp S1 0 (upd (S1.1 0) 10 v)) := fun v => rfl
    obtain ⟨S2, f1, f2⟩ := tell_M (iI (sM (pDel (gO g) (gS g) l))) e2
    rw [ef] at f1
    have f3 : zp S1 0 (upd (S1.1 0) 10 (iI (sM (pDel (gO g) (gS g) l)))) = S2 := by
      have := Option.some.inj f1
      exact (Prod.mk.inj this).2
    simp only [zc_true, zl_e, f3]
    have hl4 : S2.1 3 l = iI (rD (gO g) l) := by
      rw [← f3, zp_ne (by omega)]
      exact hl3.2.1
    simp (disch := omega) only [zi_I, zc_true, iI_cln, hl4, lit_2798, iI_add, iI_cl, tn_add, tn_cast]
    refine ⟨S2, ?_, f2⟩
    have hb : S2.1 1 ((2798 : Int).toNat + rD (gO g) l) = iI (sB (pDel (gO g) (gS g) l) (rD (gO g) l)) := by
      rw [← f3, zp_ne (by omega)]
      exact e3.2.2.2.2.2.1 _ hk3.2.1
    rw [hb]
    show some (iI (va_up (sB (gS g)) (rD (gO g) l) (pBond (sB (gS g) (rD (gO g) l)) (pEnd (gO g) (gS g) l)) (rD (gO g) l) : Nat), S2) = _
    rw [up_eq]
/-! least -/
def pLeast (o : pRoad) (s : pSt) (l v : Nat) : Nat → Nat → Int
  | 0, _ => -9
  | m + 1, i => if v ≤ pEnd o (min 9 (sM s + i), s.2) l then (i : Int) else pLeast o s l v m (i + 1)
def qLeast (x w : Int32) (g : pSig) : Int32 × pSig := match pIn x (rN (gO g)), pIn w 10 with
  | some l, some v => (iI (pLeast (gO g) (gS g) l v 10 0), g)
  | _, _ => (-1, g)
theorem least_wf (x w : Int32) : ∀ g, pWf g → pWf (qLeast x w g).2 := by
  intro g h
  unfold qLeast
  repeat' split
  all_goals exact h
theorem bribed_ok {o : pRoad} {s : pSt} {b : Nat} (h : pSok o s) : pSok o (min 9 (sM s + b), s.2) := ⟨by show min 9 (sM s + b) ≤ 9; omega, h.2⟩
theorem least_loop {S : zMem} {g : pSig} {l v : Nat} (hg : pWf g) (h : RC S g) (hl : l < rN (gO g)) (hv : v < 10) : X8_least_l21 zF (iI l) (iI v) (0 : Int32) S = some (iI (pLeast (gO g) (gS g) l v 10 0), S) := by
  refine zforR (F := fun f i => X8_least_l21 f (iI l) (iI v) (iI (i : Nat)) S) (R := fun i => some (iI (pLeast (gO g) (gS g) l v (10 - i) i), S)) (n := 10) (fun f i hi e => ?_) (fun f => ?_) (zF_gt (by omega))
  · have hb := bribed_ok (b := i) hg.ok
    have he := pEnd_le hg.o hb hl
    simp (disch := omega) only [X8_least_l21, X8_least_b21, lit_9, iI_lt]
    rw [if_neg (by omega), arriving_eq hg.o h.o h.s hg.ok hl (by omega)]
    simp only [zb_some]
    rw [warmth_eq hg.o h.o hl (pMood_le hb)]
    simp only [zb_some, zl_e]
    rw [show pW (rK (gO g) l) (rW (gO g) l) (pMood (gO g) (min 9 (sM (gS g) + i), (gS g).2) l) = pEnd (gO g) (min 9 (sM (gS g) + i), (gS g).2) l from rfl]
    simp (disch := omega) only [iI_lt, lit_1, iI_add]
    rw [show 10 - i = (10 - (i + 1)) + 1 by omega, pLeast]
    by_cases hq : v ≤ pEnd (gO g) (min 9 (sM (gS g) + i), (gS g).2) l
    · rw [if_neg (by omega), if_pos hq]
    · rw [if_pos (by omega), if_neg hq]
      exact e
  · simp (disch := omega) only [X8_least_l21, X8_least_b21, lit_9, iI_lt]
    rw [if_pos (by omega)]
    rfl
theorem least_C (x w : Int32) : okC (f_X8_least x w) (qLeast x w) := by
  intro S g hg h
  unfold qLeast
  refine ⟨S, ?_, by split <;> exact h⟩
  cases hx : pIn x (rN (gO g)) with
  | none => simp only [f_X8_least, X8_least_b0, X8_least_b17, isLetter_f hg.o h.o hx, zb_some, zero_0, if_true]
  | some l =>
    obtain ⟨rfl, hl⟩ := pIn_some hx
    simp only [f_X8_least, X8_least_b0, X8_least_b17, isLetter_t hg.o h.o hl, zb_some, one_0, if_false]
    rw [show (9 : Int32) = iI ((9 : Nat) : Int) from rfl]
    cases hw : pIn w 10 with
    | none => simp only [within_f hw (show 9 < 1000000 by omega), zb_some, zero_0, if_true]
    | some v =>
      obtain ⟨rfl, hv⟩ := pIn_some hw
      simp only [within_t (show v ≤ 9 by omega) (show 9 < 1000000 by omega), zb_some, one_0, if_false]
      exact least_loop hg h hl hv
theorem least_M (x w : Int32) : okM (f_X9_least x w) (qLeast x w) := by
  intro S g hg h
  unfold qLeast
  cases hx : pIn x (rN (gO g)) with
  | none =>
    simp only [f_X9_least, X9_least_b0, X9_least_b20, misLetter_f hg.o h.o hx, zb_some, zero_0, if_true]
    exact ⟨S, rfl, h⟩
  | some l =>
    obtain ⟨rfl, hl⟩ := pIn_some hx
    simp only [f_X9_least, X9_least_b0, X9_least_b20, misLetter_t hg.o h.o hl, zb_some, one_0, if_false, zl_e]
    cases hw : pIn w 10 with
    | none =>
      simp only [min_in_f (n := 9) (m := 9) rfl hw (by omega), zb_some, zero_0, if_true]
      exact ⟨S, rfl, h⟩
    | some v =>
      obtain ⟨rfl, hv⟩ := pIn_some hw
      simp only [min_in_t (n := 9) (m := 9) rfl (show v ≤ 9 by omega) (show 9 < 1000000 by omega), zb_some, one_0, if_false]
      refine zforI (F := fun f i T => X9_least_l24 f (iI l) (iI v) (iI (i : Nat)) T) (P := fun i T => RM T g ∧ pLeast (gO g) (gS g) l v 10 0 = pLeast (gO g) (gS g) l v (10 - i) i) (Q := fun r => ∃ S1, r = some (iI (pLeast (gO g) (gS g) l v 10 0), S1) ∧ RM S1 g) (n := 10) (fun f i T hi hT => ?_) (fun f T hT => ?_) (zF_gt (by omega)) ⟨h, rfl⟩
      · obtain ⟨h, hp⟩ := hT
        have hb := bribed_ok (b := i) hg.ok
        have he := pEnd_le hg.o hb hl
        have hM := hg.ok.1
        simp (disch := omega) only [X9_least_l24, X9_least_b24, lit_10, iI_le]
        rw [if_neg (by omega), layTried_eq]
        simp only [zb_some]
        rw [show zi (2 : Int32) 2810 = true from rfl, show (cpb T 0 2792 18).1 1 (Int32.toNatClampNeg 2) = iI (sM (gS g)) from (cpb_out (by decide)).trans h.s.2.1]
        simp only [zc_true, zl_e, iI_add, lit_9]
        rw [X9_kept_eq (by omega) (by omega) (by omega) (by omega), show max 0 (min 9 ((sM (gS g) : Int) + (i : Int))) = ((min 9 (sM (gS g) + i) : Nat) : Int) by omega]
        simp only [zb_some, show zi (2794 : Int32) 2810 = true from rfl, zc_true]
        rw [show Int32.toNatClampNeg 2794 = 2794 from rfl]
        obtain ⟨T1, w1, w2, w3, w4, w5⟩ := wr (cpb T 0 2792 18) 1 2794 (iI ((min 9 (sM (gS g) + i) : Nat) : Int))
        rw [w1]
        have hs : sMo T1 (2792 + 1) (gO g) (min 9 (sM (gS g) + i), (gS g).2) := by
          obtain ⟨a1, a2, a3, a4, a5, a6, a7⟩ := tried_0 hg h
          refine ⟨(w3 _ (by omega)).trans a1, w2, (w3 _ (by omega)).trans a3, (w3 _ (by omega)).trans a4, (w3 _ (by omega)).trans a5, fun q hq => (w3 _ (by omega)).trans (a6 q hq), fun q hq hb => (w3 _ (by omega)).trans (a7 q hq hb)⟩
        obtain ⟨S1, e1, e2, e3⟩ := tried_M hg h hl (min 9 (sM (gS g) + i), (gS g).2) T1 (by rw [w5]; rfl) (fun c hc => by rw [w4 c hc, cpb_ne hc]) (fun q hq => by rw [w3 q (by omega), cpb_out (by omega)]) hs hb
        rw [e1]
        simp (disch := omega) only [zb_some, iI_lt, lit_1, iI_add]
        have eL : pLeast (gO g) (gS g) l v (10 - i) i = (if v ≤ pEnd (gO g) (min 9 (sM (gS g) + i), (gS g).2) l then (i : Int) else pLeast (gO g) (gS g) l v (10 - (i + 1)) (i + 1)) := by
          rw [show 10 - i = (10 - (i + 1)) + 1 by omega]
          rfl
        rw [eL] at hp
        by_cases hq : v ≤ pEnd (gO g) (min 9 (sM (gS g) + i), (gS g).2) l
        · right
          rw [if_neg (by omega)]
          rw [if_pos hq] at hp
          exact ⟨S1, by rw [hp], e2⟩
        · left
          rw [if_pos (by omega)]
          rw [if_neg hq] at hp
          exact ⟨S1, ⟨e2, hp⟩, rfl⟩
      · simp (disch := omega) only [X9_least_l24, X9_least_b24, lit_10, iI_le]
        rw [if_pos (by omega)]
        exact ⟨T, by rw [hT.2]; rfl, hT.1⟩
