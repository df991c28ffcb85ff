/-! house, letter, mark, ends, bond, least -/
def pTo (o : pRoad) (h : Nat) : Nat → Nat
  | 0 => 0
  | l + 1 => if rD o l = h then pTo o h l ||| 2 ^ l else pTo o h l
theorem pTo_lt (o : pRoad) (h : Nat) : ∀ l, pTo o h l < 2 ^ l := by
  intro l
  induction l with
  | zero => exact Nat.one_pos
  | succ l ih =>
    have h1 : 2 ^ l < 2 ^ (l + 1) := Nat.pow_lt_pow_right (by omega) (by omega)
    unfold pTo
    split
    · exact Nat.or_lt_two_pow (by omega) h1
    · omega
theorem pTo_64 {o : pRoad} {h l : Nat} (hl : l ≤ 6) : pTo o h l < 64 := Nat.lt_of_lt_of_le (pTo_lt o h l) (pow_le_64 hl)
theorem lettersTo_eq {S : zMem} {o : pRoad} {h : Nat} (ho : pRok o) (hc : oC S o) (hh : h < rH o) : f_X6_lettersTo (iI h) S = some (iI (pTo o h (rN o)), S) := by
  have hN := ho.2.1
  have hH := ho.1
  refine zfor (F := fun f i => X6_lettersTo_l4 f (iI h) (iI (pTo o h i : Nat)) (iI (i : Nat)) S) (n := rN o) (fun f i hi => ?_) (fun f => ?_) (zF_gt (by omega))
  · have hd := ho.2.2.1 i hi
    simp (disch := omega) only [X6_lettersTo_l4, X6_lettersTo_b4, zl_e, hc.2.1, iI_le]
    rw [if_neg (by omega)]
    simp (disch := omega) only [zi_I, zc_true, zl_e, iI_cln, (hc.2.2.2.2.2 i hi).2.1, iI_eq, X6_lettersTo_b28, orI _ (pTo_64 (show i ≤ 6 by omega)) i (by omega)]
    rw [lit_1, iI_add]
    by_cases hq : rD o i = h
    · rw [if_pos (by omega), show pTo o h (i + 1) = pTo o h i ||| 2 ^ i by rw [pTo, if_pos hq]]
      rfl
    · rw [if_neg (by omega), show pTo o h (i + 1) = pTo o h i by rw [pTo, if_neg hq]]
      rfl
  · simp (disch := omega) only [X6_lettersTo_l4, X6_lettersTo_b4, zl_e, hc.2.1, iI_le]
    rw [if_pos (by omega)]
theorem or0I (x : Int32) : x ||| 0 = x := by simp
theorem toHouse_eq {S : zMem} {o : pRoad} {h : Nat} (ho : pRok o) (hc : oM S o) (hh : h < rH o) : f_X9_toHouse (iI h) S = some (iI (pTo o h (rN o)), S) := by
  have hN := ho.2.1
  have hH := ho.1
  refine zfor (F := fun f i => X9_toHouse_l4 f (iI h) (iI (pTo o h i : Nat)) (iI (i : Nat)) S) (n := rN o) (fun f i hi => ?_) (fun f => ?_) (zF_gt (by omega))
  · have hd := ho.2.2.1 i hi
    simp (disch := omega) only [X9_toHouse_l4, X9_toHouse_b4, zl_e, hc.2.1, iI_le]
    rw [if_neg (by omega)]
    simp (disch := omega) only [zi_I, zc_true, zl_e, iI_cln, (hc.2.2 i hi).2.1, iI_eq, X9_toHouse_b30, orI _ (pTo_64 (show i ≤ 6 by omega)) i (by omega), or0I]
    rw [lit_1, iI_add]
    by_cases hq : rD o i = h
    · rw [if_pos (by omega), show pTo o h (i + 1) = pTo o h i ||| 2 ^ i by rw [pTo, if_pos hq]]
      rfl
    · rw [if_neg (by omega), show pTo o h (i + 1) = pTo o h i by rw [pTo, if_neg hq]]
      rfl
  · simp (disch := omega) only [X9_toHouse_l4, X9_toHouse_b4, zl_e, hc.2.1, iI_le]
    rw [if_pos (by omega)]
def pHouse (o : pRoad) (s : pSt) (h k : Nat) : Nat := if k = 0 then sB s h else if k = 1 then pTo o h (rN o) else pDist (sP s) h
theorem eq_01 : (iI ((1 : Nat) : Int) = (0 : Int32)) ↔ False := by decide
theorem eq_02 : (iI ((2 : Nat) : Int) = (0 : Int32)) ↔ False := by decide
theorem eq_03 : (iI ((3 : Nat) : Int) = (0 : Int32)) ↔ False := by decide
theorem eq_04 : (iI ((4 : Nat) : Int) = (0 : Int32)) ↔ False := by decide
theorem eq_05 : (iI ((5 : Nat) : Int) = (0 : Int32)) ↔ False := by decide
theorem eq_00 : (iI ((0 : Nat) : Int) = (0 : Int32)) ↔ True := by decide
theorem eq_11 : (iI ((1 : Nat) : Int) = (1 : Int32)) ↔ True := by decide
theorem eq_12 : (iI ((2 : Nat) : Int) = (1 : Int32)) ↔ False := by decide
theorem eq_13 : (iI ((3 : Nat) : Int) = (1 : Int32)) ↔ False := by decide
theorem eq_14 : (iI ((4 : Nat) : Int) = (1 : Int32)) ↔ False := by decide
theorem eq_15 : (iI ((5 : Nat) : Int) = (1 : Int32)) ↔ False := by decide
theorem eq_22 : (iI ((2 : Nat) : Int) = (2 : Int32)) ↔ True := by decide
theorem eq_23 : (iI ((3 : Nat) : Int) = (2 : Int32)) ↔ False := by decide
theorem eq_24 : (iI ((4 : Nat) : Int) = (2 : Int32)) ↔ False := by decide
theorem eq_25 : (iI ((5 : Nat) : Int) = (2 : Int32)) ↔ False := by decide
theorem eq_33 : (iI ((3 : Nat) : Int) = (3 : Int32)) ↔ True := by decide
theorem eq_34 : (iI ((4 : Nat) : Int) = (3 : Int32)) ↔ False := by decide
theorem eq_35 : (iI ((5 : Nat) : Int) = (3 : Int32)) ↔ False := by decide
theorem eq_44 : (iI ((4 : Nat) : Int) = (4 : Int32)) ↔ True := by decide
theorem eq_45 : (iI ((5 : Nat) : Int) = (4 : Int32)) ↔ False := by decide
theorem ofHouse_eq {S : zMem} {o : pRoad} {s : pSt} {h k : Nat} (ho : pRok o) (hc : oC S o) (hs : sCl S 35 o s) (hk : pSok o s) (hh : h < rH o) (h3 : k < 3) : f_X8_ofHouse (iI h) (iI k) S = some (iI (pHouse o s h k), S) := by
  have hH := ho.1
  have hP := hk.2.2.1
  have h6 := hs.2.2.2.2.2.1 h hh
  have h10 := hs.2.2.2.1
  have e : k = 0 ∨ k = 1 ∨ k = 2 := by omega
  rcases e with rfl | rfl | rfl
  · simp (disch := omega) only [X8_ofHouse_b0, f_X8_ofHouse, eq_00, if_true, zi_I, zc_true, zl_e, iI_cln]
    rw [show S.1 36 h = iI (sB s h) from h6]
    rfl
  · simp only [X8_ofHouse_b0, f_X8_ofHouse, eq_01, eq_11, if_true, if_false, lettersTo_eq ho hc hh, zb_some]
    rfl
  · simp only [X8_ofHouse_b0, f_X8_ofHouse, eq_02, eq_12, if_false, zl_e, h10, iI_sub]
    simp (disch := omega) only [lit_0, iI_le, iI_sub]
    unfold pHouse pDist
    repeat' split
    all_goals first | omega | (refine so_eq ?_; omega)
theorem houseTold_eq {S : zMem} {o : pRoad} {s : pSt} {h k : Nat} (ho : pRok o) (hc : oM S o) (hs : sMo S 1 o s) (hk : pSok o s) (hh : h < rH o) (h3 : k < 3) : f_X9_houseTold (iI h) (iI k) S = some (iI (pHouse o s h k), S) := by
  have hH := ho.1
  have hP := hk.2.2.1
  have h6 := hs.2.2.2.2.2.1 h hh
  have h10 := hs.2.2.2.1
  have e : k = 0 ∨ k = 1 ∨ k = 2 := by omega
  rcases e with rfl | rfl | rfl
  · simp only [X9_houseTold_b35, X9_houseTold_b0, f_X9_houseTold, eq_00, if_true, zl_e]
    simp (disch := omega) only [lit_6, iI_add, zi_I, zc_true, iI_cl, tn_add, tn_cast]
    rw [show (6 : Int).toNat + h = 1 + 5 + h from rfl, h6]
    rfl
  · simp only [X9_houseTold_b35, X9_houseTold_b0, f_X9_houseTold, eq_01, eq_11, if_true, if_false, toHouse_eq ho hc hh, zb_some]
    rfl
  · simp only [X9_houseTold_b35, X9_houseTold_b0, f_X9_houseTold, X9_farFrom_b21, X9_farFrom_b0, f_X9_farFrom, eq_02, eq_12, if_false, zl_e]
    simp (disch := omega) only [lit_0, lit_4, iI_add, zi_I, zc_true, iI_cl]
    rw [show ((0 : Int) + 4).toNat = 1 + 3 from rfl, h10]
    simp (disch := omega) only [iI_sub, iI_le, iI_neg]
    unfold pHouse pDist
    repeat' split
    all_goals first | omega | (simp only [zb_some]; refine so_eq ?_; omega)
def qHouse (x w : Int32) (g : pSig) : Int32 × pSig := match pIn x (rH (gO g)), pIn w 3 with
  | some h, some k => qTell (iI (pHouse (gO g) (gS g) h k)) g
  | _, _ => (-1, g)
theorem house_wf (x w : Int32) : ∀ g, pWf g → pWf (qHouse x w g).2 := by
  intro g h
  unfold qHouse
  split <;> exact h
theorem house_C (x w : Int32) : okC (f_X8_house x w) (qHouse x w) := by
  intro S g hg h
  unfold qHouse
  cases hx : pIn x (rH (gO g)) with
  | none =>
    simp only [X8_house_b16, X8_house_b0, f_X8_house, isHouse_f hg.o h.o hx, zb_some, zero_0, if_true]
    exact ⟨S, rfl, h⟩
  | some j =>
    obtain ⟨rfl, hj⟩ := pIn_some hx
    cases hw : pIn w 3 with
    | none =>
      simp only [X8_house_b16, X8_house_b0, f_X8_house, isHouse_t hg.o h.o hj, zb_some, one_0, if_false]
      rw [show (2 : Int32) = iI ((2 : Nat) : Int) from rfl, within_f hw (by omega)]
      exact ⟨S, rfl, h⟩
    | some k =>
      obtain ⟨rfl, hk⟩ := pIn_some hw
      simp only [X8_house_b16, X8_house_b0, f_X8_house, isHouse_t hg.o h.o hj, zb_some, one_0, if_false]
      rw [show (2 : Int32) = iI ((2 : Nat) : Int) from rfl, within_t (show k ≤ 2 by omega) (by omega)]
      simp only [zb_some, one_0, if_false, ofHouse_eq hg.o h.o h.s hg.ok hj hk]
      obtain ⟨S1, e1, e2, -⟩ := tell_C (iI (pHouse (gO g) (gS g) j k)) h
      rw [e1]
      exact ⟨S1, rfl, e2⟩
theorem min_in_f {w : Int32} {n : Nat} {m : Int64} (hm : m = (iI (n : Int)).toInt64) (h : pIn w (n + 1) = none) (hn : n < 1000000) (S : zMem) : f_X9_in w.toInt64 (0 : Int64) m S = some (0, S) := by
  rw [hm, lo_0, in_f h hn]
theorem min_in_t {k n : Nat} {m : Int64} (hm : m = (iI (n : Int)).toInt64) (h : k ≤ n) (hn : n < 1000000) (S : zMem) : f_X9_in (iI (k : Int)).toInt64 (0 : Int64) m S = some (1, S) := by
  rw [hm, lo_0, in_t h hn]
theorem house_M (x w : Int32) : okM (f_X9_house x w) (qHouse x w) := by
  intro S g hg h
  unfold qHouse
  cases hx : pIn x (rH (gO g)) with
  | none =>
    simp only [X9_house_b34, X9_house_b33, X9_house_b0, f_X9_house, misHouse_f hg.o h.o hx, zb_some, zero_0, if_true]
    exact ⟨S, rfl, h⟩
  | some j =>
    obtain ⟨rfl, hj⟩ := pIn_some hx
    cases hw : pIn w 3 with
    | none =>
      simp only [X9_house_b34, X9_house_b33, X9_house_b0, f_X9_house, misHouse_t hg.o h.o hj, zb_some, one_0, if_false, zl_e, min_in_f (n := 2) (m := 2) rfl hw (by omega), zero_0, if_true]
      exact ⟨S, rfl, h⟩
    | some k =>
      obtain ⟨rfl, hk⟩ := pIn_some hw
      simp only [X9_house_b34, X9_house_b33, X9_house_b0, f_X9_house, misHouse_t hg.o h.o hj, zb_some, one_0, if_false, zl_e, min_in_t (n := 2) (m := 2) rfl (show k ≤ 2 by omega) (by omega), houseTold_eq hg.o h.o h.s hg.ok hj hk]
      obtain ⟨S1, e1, e2⟩ := tell_M (iI (pHouse (gO g) (gS g) j k)) h
      rw [e1]
      exact ⟨S1, rfl, e2⟩
/-! letter -/
def pLetter (o : pRoad) (s : pSt) (l k : Nat) : Int := if k = 0 then (rK o l : Int) else if k = 1 then (rD o l : Int) else if k = 2 then (rW o l : Int) else if k = 3 then (if (sC s).testBit l then (sX s l : Int) else -9) else (pEnd o s l : Int)
theorem bribe_0 {o : pRoad} {s : pSt} (h : pSok o s) : ((min 9 (sM s + 0), s.2) : pSt) = s := by
  have := h.1
  refine Prod.ext ?_ rfl
  show min 9 (sM s + 0) = sM s
  omega
theorem ofLetter_eq {S : zMem} {o : pRoad} {s : pSt} {l k : Nat} (ho : pRok o) (hc : oC S o) (hs : sCl S 35 o s) (hk : pSok o s) (hl : l < rN o) (h5 : k < 5) : f_X8_ofLetter (iI l) (iI k) S = some (iI (pLetter o s l k), S) := by
  have hN := ho.2.1
  have c64 := hk.c64 ho
  have hl3 := hc.2.2.2.2.2 l hl
  have e : k = 0 ∨ k = 1 ∨ k = 2 ∨ k = 3 ∨ k = 4 := by omega
  rcases e with rfl | rfl | rfl | rfl | rfl
  · simp (disch := omega) only [X8_ofLetter_b87, X8_ofLetter_b0, f_X8_ofLetter, eq_00, if_true, zi_I, zc_true, zl_e, iI_cln, hl3.1]
    rfl
  · simp (disch := omega) only [X8_ofLetter_b87, X8_ofLetter_b0, f_X8_ofLetter, eq_01, eq_11, if_true, if_false, zi_I, zc_true, zl_e, iI_cln, hl3.2.1]
    rfl
  · simp (disch := omega) only [X8_ofLetter_b87, X8_ofLetter_b0, f_X8_ofLetter, eq_02, eq_12, eq_22, if_true, if_false, zi_I, zc_true, zl_e, iI_cln, hl3.2.2]
    rfl
  · simp only [X8_ofLetter_b87, X8_ofLetter_b0, f_X8_ofLetter, eq_03, eq_13, eq_23, eq_33, if_true, if_false]
    unfold pLetter
    by_cases hb : (sC s).testBit l = true
    · rw [wasCarried_t hs.2.2.2.2.1 c64 (by omega) hb]
      simp (disch := omega) only [zb_some, one_0, if_false, zi_I, zc_true, zl_e, iI_cln]
      rw [show S.1 37 l = iI (sX s l) from hs.2.2.2.2.2.2 l hl hb]
      simp [hb]
    · rw [wasCarried_f hs.2.2.2.2.1 c64 (by omega) (by simpa using hb)]
      simp only [zb_some, zero_0, if_true]
      simp [hb, litm_9]
  · simp only [X8_ofLetter_b87, X8_ofLetter_b0, f_X8_ofLetter, eq_04, eq_14, eq_24, eq_34, if_false]
    have e := arriving_eq (b := 0) ho hc hs hk hl (by omega)
    rw [bribe_0 hk] at e
    have e' : f_X8_arrivingWith (iI ↑l) (0 : Int32) S = some (iI ↑(pMood o s l), S) := e
    rw [e']
    simp only [zb_some]
    rw [warmth_eq ho hc hl (pMood_le hk)]
    rfl
theorem letterTold_eq {S : zMem} {g : pSig} {l k : Nat} (hg : pWf g) (h : RM S g) (hl : l < rN (gO g)) (h5 : k < 5) : ∃ S1, f_X9_letterTold (iI l) (iI k) S = some (iI (pLetter (gO g) (gS g) l k), S1) ∧ RM S1 g := by
  have ho := hg.o
  have hk := hg.ok
  have hN := ho.2.1
  have c64 := hk.c64 ho
  have hl3 := h.o.2.2 l hl
  have e : k = 0 ∨ k = 1 ∨ k = 2 ∨ k = 3 ∨ k = 4 := by omega
  rcases e with rfl | rfl | rfl | rfl | rfl
  · refine ⟨S, ?_, h⟩
    simp (disch := omega) only [X9_letterTold_b80, X9_letterTold_b0, f_X9_letterTold, eq_00, if_true, zi_I, zc_true, zl_e, iI_cln, hl3.1]
    rfl
  · refine ⟨S, ?_, h⟩
    simp (disch := omega) only [X9_letterTold_b80, X9_letterTold_b0, f_X9_letterTold, eq_01, eq_11, if_true, if_false, zi_I, zc_true, zl_e, iI_cln, hl3.2.1]
    rfl
  · refine ⟨S, ?_, h⟩
    simp (disch := omega) only [X9_letterTold_b80, X9_letterTold_b0, f_X9_letterTold, eq_02, eq_12, eq_22, if_true, if_false, zi_I, zc_true, zl_e, iI_cln, hl3.2.2]
    rfl
  · refine ⟨S, ?_, h⟩
    simp only [X9_letterTold_b80, X9_letterTold_b0, f_X9_letterTold, eq_03, eq_13, eq_23, eq_33, if_true, if_false]
    rw [show zi (5 : Int32) 2810 = true from rfl, zc_true, zl_e, show S.1 1 (Int32.toNatClampNeg 5) = iI (sC (gS g)) from h.s.2.2.2.2.1, mhas_eq c64 (by omega)]
    simp only [zb_some]
    unfold pLetter
    by_cases hb : (sC (gS g)).testBit l = true
    · rw [if_pos hb]
      simp only [one_0, if_false, zl_e]
      simp (disch := omega) only [lit_12, iI_add, zi_I, zc_true, iI_cl, tn_add, tn_cast]
      rw [show S.1 1 ((12 : Int).toNat + l) = iI (sX (gS g) l) from h.s.2.2.2.2.2.2 l hl hb]
      simp [hb]
    · rw [if_neg hb]
      simp only [zero_0, if_true]
      simp [hb, litm_9]
  · simp only [X9_letterTold_b80, X9_letterTold_b0, f_X9_letterTold, eq_04, eq_14, eq_24, eq_34, if_false, layTried_eq, zb_some]
    have ho2 : oM (cpb S 0 2792 18) (gO g) := h.o.cg (by rw [cpb_ne (by omega)]) (by rw [cpb_ne (by omega)]) (cpb_ne (by omega)) (cpb_ne (by omega)) (cpb_ne (by omega))
    have hs2 : sMo (cpb S 0 2792 18) (2792 + 1) (gO g) (gS g) := h.s.mv ho (fun k hk => by rw [Nat.add_assoc, cpb_in (by omega)]; exact congrArg (S.1 1) (by omega))
    obtain ⟨S1, e1, e2, e3, e4, e5⟩ := carries_M (B := 2792) (by omega) ho ho2 hs2 hk hl
    have e1' : f_X9_carries (2792 : Int32) (iI ↑l) (cpb S 0 2792 18) = some (iI ↑(pEnd (gO g) (gS g) l), S1) := e1
    rw [e1']
    refine ⟨S1, rfl, h.tried hg (fun c hc => by rw [e3 c hc, cpb_ne hc]) (by rw [e4]; rfl) (fun q hq => by rw [e5 q (by omega), cpb_out (by omega)])⟩
def qLetter (x w : Int32) (g : pSig) : Int32 × pSig := match pIn x (rN (gO g)), pIn w 5 with
  | some l, some k => qTell (iI (pLetter (gO g) (gS g) l k)) g
  | _, _ => (-1, g)
theorem letter_wf (x w : Int32) : ∀ g, pWf g → pWf (qLetter x w g).2 := by
  intro g h
  unfold qLetter
  split <;> exact h
theorem letter_C (x w : Int32) : okC (f_X8_letter x w) (qLetter x w) := by
  intro S g hg h
  unfold qLetter
  cases hx : pIn x (rN (gO g)) with
  | none =>
    simp only [X8_letter_b16, X8_letter_b0, f_X8_letter, isLetter_f hg.o h.o hx, zb_some, zero_0, if_true]
    exact ⟨S, rfl, h⟩
  | some j =>
    obtain ⟨rfl, hj⟩ := pIn_some hx
    cases hw : pIn w 5 with
    | none =>
      simp only [X8_letter_b16, X8_letter_b0, f_X8_letter, isLetter_t hg.o h.o hj, zb_some, one_0, if_false]
      rw [show (4 : Int32) = iI ((4 : Nat) : Int) from rfl, within_f hw (by omega)]
      exact ⟨S, rfl, h⟩
    | some k =>
      obtain ⟨rfl, hk⟩ := pIn_some hw
      simp only [X8_letter_b16, X8_letter_b0, f_X8_letter, isLetter_t hg.o h.o hj, zb_some, one_0, if_false]
      rw [show (4 : Int32) = iI ((4 : Nat) : Int) from rfl, within_t (show k ≤ 4 by omega) (by omega)]
      simp only [zb_some, one_0, if_false, ofLetter_eq hg.o h.o h.s hg.ok hj hk]
      obtain ⟨S1, e1, e2, -⟩ := tell_C (iI (pLetter (gO g) (gS g) j k)) h
      rw [e1]
      exact ⟨S1, rfl, e2⟩
theorem letter_M (x w : Int32) : okM (f_X9_letter x w) (qLetter x w) := by
  intro S g hg h
  unfold qLetter
  cases hx : pIn x (rN (gO g)) with
  | none =>
    simp only [X9_letter_b34, X9_letter_b33, X9_letter_b0, f_X9_letter, misLetter_f hg.o h.o hx, zb_some, zero_0, if_true]
    exact ⟨S, rfl, h⟩
  | some j =>
    obtain ⟨rfl, hj⟩ := pIn_some hx
    cases hw : pIn w 5 with
    | none =>
      simp only [X9_letter_b34, X9_letter_b33, X9_letter_b0, f_X9_letter, misLetter_t hg.o h.o hj, zb_some, one_0, if_false, zl_e, min_in_f (n := 4) (m := 4) rfl hw (by omega), zero_0, if_true]
      exact ⟨S, rfl, h⟩
    | some k =>
      obtain ⟨rfl, hk⟩ := pIn_some hw
      obtain ⟨S1, e1, h1⟩ := letterTold_eq hg h hj hk
      simp only [X9_letter_b34, X9_letter_b33, X9_letter_b0, f_X9_letter, misLetter_t hg.o h.o hj, zb_some, one_0, if_false, zl_e, min_in_t (n := 4) (m := 4) rfl (show k ≤ 4 by omega) (by omega), e1]
      obtain ⟨S2, e2, h2⟩ := tell_M (iI (pLetter (gO g) (gS g) j k)) h1
      rw [e2]
      exact ⟨S2, rfl, h2⟩
