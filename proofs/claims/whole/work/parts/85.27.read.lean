/-! reading a text: what is read -/
def pFig (f : Nat → Int32) (n i : Nat) : Option Nat := if i < n ∧ 48 ≤ (f i).toInt ∧ (f i).toInt ≤ 57 then some ((f i).toInt - 48).toNat else none
def pSgn (x : Int32) : Option Nat := if x = 108 then some 0 else if x = 116 then some 1 else if x = 98 then some 2 else if x = 118 then some 3 else if x = 107 then some 4 else if x = 102 then some 5 else none
def pHead (f : Nat → Int32) (n i : Nat) (o : pRoad) : Nat ⊕ pRoad := if f i = 112 then (match pFig f n (i + 1) with
  | none => .inl (i + 1)
  | some a => match pFig f n (i + 2) with
    | none => .inl (i + 2)
    | some b => if 2 < b then .inl (i + 2) else .inr (rH o, rN o, rK o, rD o, rW o, rB o, a, b)) else .inl i
def pHse (f : Nat → Int32) (n i : Nat) (o : pRoad) : Nat ⊕ pRoad := if 0 < rN o ∨ 6 ≤ rH o then .inl i else match pFig f n (i + 1) with
  | none => .inl (i + 1)
  | some a => match pFig f n (i + 2) with
    | none => .inl (i + 2)
    | some b => if 20 < 10 * a + b then .inl (i + 1) else .inr (rH o + 1, rN o, rK o, rD o, rW o, va_up (rB o) (rH o) (10 * a + b), rM o, rE o)
def pLtr (f : Nat → Int32) (n i : Nat) (o : pRoad) : Nat ⊕ pRoad := match pSgn (f i) with
  | none => .inl i
  | some k => if rH o = 0 ∨ 6 ≤ rN o then .inl i else match pFig f n (i + 1) with
    | none => .inl (i + 1)
    | some a => if rH o ≤ a then .inl (i + 1) else match pFig f n (i + 2) with
      | none => .inl (i + 2)
      | some b => .inr (rH o, rN o + 1, va_up (rK o) (rN o) k, va_up (rD o) (rN o) a, va_up (rW o) (rN o) b, rB o, rM o, rE o)
def pItm (f : Nat → Int32) (n i : Nat) (op : Bool) (o : pRoad) : Nat ⊕ pRoad := if op then (if f i = 104 then pHse f n i o else pLtr f n i o) else pHead f n i o
def pFin (n : Nat) (o : pRoad) : Nat ⊕ pRoad := if 0 < rN o then .inr o else .inl n
def pGo (f : Nat → Int32) (n : Nat) : Nat → Nat → Bool → pRoad → Nat ⊕ pRoad
  | 0, _, _, o => pFin n o
  | m + 1, i, op, o => if n ≤ i then pFin n o else if f i = 32 then pGo f n m (i + 1) op o else match pItm f n i op o with
    | .inl e => .inl e
    | .inr o2 => pGo f n m (i + 3) true o2
theorem pGo_m (f : Nat → Int32) (n : Nat) : ∀ m m2 i op o, n < i + m → n < i + m2 → pGo f n m i op o = pGo f n m2 i op o := by
  intro m
  induction m with
  | zero =>
    intro m2 i op o h1 h2
    cases m2 with
    | zero => rfl
    | succ m2 =>
      show pFin n o = if n ≤ i then pFin n o else _
      rw [if_pos (by omega)]
  | succ m ih =>
    intro m2 i op o h1 h2
    cases m2 with
    | zero =>
      show (if n ≤ i then pFin n o else _) = pFin n o
      rw [if_pos (by omega)]
    | succ m2 =>
      unfold pGo
      by_cases hi : n ≤ i
      · rw [if_pos hi, if_pos hi]
      · rw [if_neg hi, if_neg hi]
        by_cases hb : f i = 32
        · rw [if_pos hb, if_pos hb]
          exact ih m2 (i + 1) op o (by omega) (by omega)
        · rw [if_neg hb, if_neg hb]
          cases pItm f n i op o with
          | inl e => rfl
          | inr o2 => exact ih m2 (i + 3) true o2 (by omega) (by omega)
abbrev pG_ (f : Nat → Int32) (n i : Nat) (op : Bool) (o : pRoad) : Nat ⊕ pRoad := pGo f n (n + 1) i op o
theorem pG_end {f : Nat → Int32} {n i : Nat} {op : Bool} {o : pRoad} (h : n ≤ i) : pG_ f n i op o = pFin n o := by
  unfold pG_ pGo
  rw [if_pos h]
theorem pG_blank {f : Nat → Int32} {n i : Nat} {op : Bool} {o : pRoad} (h : i < n) (hb : f i = 32) : pG_ f n i op o = pG_ f n (i + 1) op o := by
  show pGo f n (n + 1) i op o = _
  rw [pGo, if_neg (by omega), if_pos hb]
  exact pGo_m f n n (n + 1) (i + 1) op o (by omega) (by omega)
theorem pG_item {f : Nat → Int32} {n i : Nat} {op : Bool} {o : pRoad} (h : i < n) (hb : f i ≠ 32) : pG_ f n i op o = match pItm f n i op o with
    | .inl e => .inl e
    | .inr o2 => pG_ f n (i + 3) true o2 := by
  show pGo f n (n + 1) i op o = _
  rw [pGo, if_neg (by omega), if_neg hb]
  cases pItm f n i op o with
  | inl e => rfl
  | inr o2 => exact pGo_m f n n (n + 1) (i + 3) true o2 (by omega) (by omega)
theorem pFig_some {f : Nat → Int32} {n i a : Nat} (h : pFig f n i = some a) : i < n ∧ a ≤ 9 ∧ f i = iI ((48 + a : Nat) : Int) := by
  unfold pFig at h
  split at h
  · next hc =>
    cases h
    refine ⟨hc.1, by omega, ?_⟩
    rw [show ((48 + ((f i).toInt - 48).toNat : Nat) : Int) = (f i).toInt by omega]
    exact iI_of _
  · cases h
theorem pFig_none {f : Nat → Int32} {n i : Nat} (h : pFig f n i = none) : ¬ (i < n ∧ 48 ≤ (f i).toInt ∧ (f i).toInt ≤ 57) := by
  unfold pFig at h
  split at h
  · cases h
  · assumption
/-- what is read is so -/
theorem pItm_ok {f : Nat → Int32} {n i : Nat} {op : Bool} {o o2 : pRoad} (ho : pRok o) (h : pItm f n i op o = .inr o2) : pRok o2 ∧ i + 2 < n := by
  obtain ⟨h1, h2, h3, h4, h5, h6⟩ := ho
  unfold pItm at h
  cases op with
  | false =>
    rw [if_neg Bool.false_ne_true] at h
    unfold pHead at h
    split at h
    · cases ha : pFig f n (i + 1) with
      | none => rw [ha] at h; cases h
      | some a =>
        rw [ha] at h
        dsimp only at h
        cases hb : pFig f n (i + 2) with
        | none => rw [hb] at h; cases h
        | some b =>
          rw [hb] at h
          dsimp only at h
          have a9 := pFig_some ha
          have b9 := pFig_some hb
          split at h
          · cases h
          · cases h
            exact ⟨⟨h1, h2, h3, h4, a9.2.1, by show b ≤ 2; omega⟩, by omega⟩
    · cases h
  | true =>
    rw [if_pos rfl] at h
    split at h
    · unfold pHse at h
      split at h
      · cases h
      · next hc =>
        cases ha : pFig f n (i + 1) with
        | none => rw [ha] at h; cases h
        | some a =>
          rw [ha] at h
          dsimp only at h
          cases hb : pFig f n (i + 2) with
          | none => rw [hb] at h; cases h
          | some b =>
            rw [hb] at h
            dsimp only at h
            have b9 := pFig_some hb
            split at h
            · cases h
            · next h20 =>
              cases h
              refine ⟨⟨by show rH o + 1 ≤ 6; omega, h2, fun l hl => ?_, fun k hk => ?_, h5, h6⟩, by omega⟩
              · have hl2 : l < rN o := hl
                omega
              · show va_up (rB o) (rH o) (10 * a + b) k ≤ 20
                unfold va_up
                split
                · omega
                · next hne =>
                  have hk2 : k < rH o + 1 := hk
                  exact h4 k (by omega)
    · unfold pLtr at h
      cases hs : pSgn (f i) with
      | none => rw [hs] at h; cases h
      | some k =>
        rw [hs] at h
        dsimp only at h
        split at h
        · cases h
        · next hc =>
          cases ha : pFig f n (i + 1) with
          | none => rw [ha] at h; cases h
          | some a =>
            rw [ha] at h
            dsimp only at h
            split at h
            · cases h
            · next hH =>
              cases hb : pFig f n (i + 2) with
              | none => rw [hb] at h; cases h
              | some b =>
                rw [hb] at h
                have b9 := pFig_some hb
                have k5 : k ≤ 5 := by
                  unfold pSgn at hs
                  repeat' split at hs
                  all_goals first | (cases hs; omega) | cases hs
                cases h
                refine ⟨⟨h1, by show rN o + 1 ≤ 6; omega, fun l hl => ?_, h4, h5, h6⟩, by omega⟩
                have hl2 : l < rN o + 1 := hl
                show va_up (rK o) (rN o) k l ≤ 5 ∧ va_up (rD o) (rN o) a l < rH o ∧ va_up (rW o) (rN o) b l ≤ 9
                unfold va_up
                by_cases hln : l = rN o
                · rw [if_pos hln, if_pos hln, if_pos hln]
                  exact ⟨k5, by omega, b9.2.1⟩
                · rw [if_neg hln, if_neg hln, if_neg hln]
                  exact h3 l (by omega)
def pRes (r : Nat ⊕ pRoad) : Int := match r with
  | .inl e => (e : Int)
  | .inr _ => -9
/-! reading: the class -/
def dC (T : zMem) (op : Bool) (o : pRoad) : Prop := T.1 30 4 = iI (rH o) ∧ T.1 30 5 = iI (rN o) ∧ (op = true → T.1 30 6 = iI (rM o) ∧ T.1 30 7 = iI (rE o)) ∧ (∀ h, h < rH o → T.1 31 h = iI (rB o h)) ∧ ∀ l, l < rN o → T.1 32 l = iI (rK o l) ∧ T.1 33 l = iI (rD o l) ∧ T.1 34 l = iI (rW o l)
def zFrC (T T1 : zMem) : Prop := (∀ c, (c < 30 ∨ 35 ≤ c) → T1.1 c = T.1 c) ∧ T1.2 = T.2
theorem zFrC_0 (T : zMem) : zFrC T T := ⟨fun _ _ => rfl, rfl⟩
theorem zFrC_t {T U V : zMem} (h : zFrC T U) (h2 : zFrC U V) : zFrC T V := ⟨fun c hc => (h2.1 c hc).trans (h.1 c hc), h2.2.trans h.2⟩
/-- a text in the class -/
def tXC (T : zMem) (c n : Nat) (f : Nat → Int32) : Prop := n ≤ 60 ∧ lnC (c + 1) = 60 ∧ (c < 24) ∧ T.1 c 1 = iI n ∧ ∀ k, k < n → T.1 (c + 1) k = f k
theorem tXC_f {T T1 : zMem} {c n : Nat} {f : Nat → Int32} (h : tXC T c n f) (hf : zFrC T T1) : tXC T1 c n f := by
  obtain ⟨a1, a2, a3, a4, a5⟩ := h
  exact ⟨a1, a2, a3, by rw [hf.1 c (by omega)]; exact a4, fun k hk => by rw [hf.1 (c + 1) (by omega)]; exact a5 k hk⟩
theorem figureAt_eq {T : zMem} {c n i : Nat} {f : Nat → Int32} (h : tXC T c n f) (hi : i ≤ 100) : f_X5_figureAt c (iI i) T = some (match pFig f n i with
    | some a => iI a
    | none => -1, T) := by
  obtain ⟨a1, a2, a3, a4, a5⟩ := h
  simp only [f_X5_figureAt, X5_figureAt_b0, X5_figureAt_b30]
  by_cases hin : i < n
  · rw [has_t a4 hin a1]
    simp (disch := omega) only [zb_some, one_0, if_false, a2, zi_I, zc_true, zl_e, iI_cln, a5 i hin]
    obtain ⟨z, z1, z2, ez⟩ := int_of (f i)
    have e : pFig f n i = if 48 ≤ z ∧ z ≤ 57 then some (z - 48).toNat else none := by
      unfold pFig
      rw [ez, iI_toInt z1 z2]
      simp [hin]
    rw [e, ez]
    simp (disch := omega) only [show ((48 : Int32) = iI 48) from rfl, show ((57 : Int32) = iI 57) from rfl, iI_lt, iI_le, iI_sub]
    by_cases h1 : z < 48
    · rw [if_pos h1, if_neg (by omega)]
    · rw [if_neg h1]
      by_cases h2 : z ≤ 57
      · rw [if_pos h2, if_pos (by omega)]
        dsimp only
        rw [show (((z - 48).toNat : Nat) : Int) = z - 48 by omega]
      · rw [if_neg h2, if_neg (by omega)]
  · have hp : pIn (iI (i : Int)) n = none := by
      unfold pIn
      rw [iI_toInt (by omega) (by omega), if_neg (by omega)]
    rw [has_f a4 hp a1]
    have e : pFig f n i = none := by
      unfold pFig
      rw [if_neg (fun q => hin q.1)]
    rw [e]
    simp only [zb_some, zero_0, if_true]
theorem fig_m1 {a : Nat} (h : a ≤ 9) : (iI (a : Int) = (-1 : Int32)) ↔ False := by
  rw [litm_1, iI_eq (by omega) (by omega) (by omega) (by omega)]
  exact ⟨fun q => by omega, False.elim⟩
theorem mm_11 : ((-1 : Int32) = -1) ↔ True := ⟨fun _ => trivial, fun _ => rfl⟩
theorem i1n (i k : Nat) : iI (i : Int) + iI (k : Int) = iI ((i + k : Nat) : Int) := iI_nadd i k
theorem head_C {T : zMem} {c n i : Nat} {f : Nat → Int32} {op : Bool} {o : pRoad} (h : tXC T c n f) (hd : dC T op o) (hi : i < n) : ∃ T1, f_X5_postmanFault c (iI i) T = some (iI (pRes (pHead f n i o)), T1) ∧ zFrC T T1 ∧ ∀ o2, pHead f n i o = .inr o2 → dC T1 true o2 := by
  have hn := h.1
  have e1 : iI (i : Int) + (1 : Int32) = iI ((i + 1 : Nat) : Int) := i1n i 1
  have e2 : iI (i : Int) + (2 : Int32) = iI ((i + 2 : Nat) : Int) := i1n i 2
  simp only [f_X5_postmanFault, X5_postmanFault_b0, X5_postmanFault_b51, zl_e, e1, e2]
  rw [figureAt_eq h (by omega)]
  simp only [zb_some]
  rw [figureAt_eq h (by omega)]
  simp (disch := omega) only [zb_some, h.2.1, zi_I, zc_true, iI_cln, h.2.2.2.2 i hi]
  unfold pHead
  by_cases hp : f i = 112
  · rw [if_pos hp, if_pos hp]
    cases ha : pFig f n (i + 1) with
    | none =>
      simp only [mm_11, if_true]
      exact ⟨T, rfl, zFrC_0 T, fun o2 h2 => by cases h2⟩
    | some a =>
      have a9 := (pFig_some ha).2.1
      simp only [fig_m1 a9, if_false]
      cases hb : pFig f n (i + 2) with
      | none =>
        simp only [mm_11, if_true]
        exact ⟨T, rfl, zFrC_0 T, fun o2 h2 => by cases h2⟩
      | some b =>
        have b9 := (pFig_some hb).2.1
        have q : iI (b : Int) ≤ (2 : Int32) ↔ b ≤ 2 := by
          rw [lit_2, iI_le (by omega) (by omega) (by omega) (by omega)]
          omega
        simp only [fig_m1 b9, if_false, q]
        by_cases h2 : b ≤ 2
        · rw [if_pos h2, if_neg (by omega)]
          obtain ⟨T1, w1, w2, w3, w4, w5⟩ := wr T 30 6 (iI a)
          rw [w1]
          obtain ⟨T2, x1, x2, x3, x4, x5⟩ := wr T1 30 7 (iI b)
          rw [x1]
          refine ⟨T2, rfl, ⟨fun c hc => by rw [x4 c (by omega), w4 c (by omega)], by rw [x5, w5]⟩, fun o2 ho2 => ?_⟩
          cases ho2
          obtain ⟨d1, d2, d3, d4, d5⟩ := hd
          refine ⟨by rw [x3 4 (by omega), w3 4 (by omega)]; exact d1, by rw [x3 5 (by omega), w3 5 (by omega)]; exact d2, fun _ => ⟨by rw [x3 6 (by omega)]; exact w2, x2⟩, fun k hk => ?_, fun l hl => ?_⟩
          · rw [x4 31 (by omega), w4 31 (by omega)]
            exact d4 k hk
          · rw [x4 32 (by omega), x4 33 (by omega), x4 34 (by omega), w4 32 (by omega), w4 33 (by omega), w4 34 (by omega)]
            exact d5 l hl
        · rw [if_neg h2, if_pos (by omega)]
          exact ⟨T, rfl, zFrC_0 T, fun o2 h2 => by cases h2⟩
  · rw [if_neg hp, if_neg hp]
    exact ⟨T, rfl, zFrC_0 T, fun o2 h2 => by cases h2⟩
theorem hse_C {T : zMem} {c n i : Nat} {f : Nat → Int32} {o : pRoad} (h : tXC T c n f) (hd : dC T true o) (ho : pRok o) (hi : i < n) : ∃ T1, f_X5_houseFault c (iI i) T = some (iI (pRes (pHse f n i o)), T1) ∧ zFrC T T1 ∧ ∀ o2, pHse f n i o = .inr o2 → dC T1 true o2 := by
  have hn := h.1
  have hH := ho.1
  have hN := ho.2.1
  have e1 : iI (i : Int) + (1 : Int32) = iI ((i + 1 : Nat) : Int) := i1n i 1
  have e2 : iI (i : Int) + (2 : Int32) = iI ((i + 2 : Nat) : Int) := i1n i 2
  simp only [f_X5_houseFault, X5_houseFault_b0, X5_houseFault_b39, zl_e, e1, e2]
  rw [figureAt_eq h (by omega)]
  simp only [zb_some]
  rw [figureAt_eq h (by omega)]
  obtain ⟨d1, d2, d3, d4, d5⟩ := id hd
  have q5 : (0 : Int32) < iI (rN o : Int) ↔ 0 < rN o := by
    rw [lit_0, iI_lt (by omega) (by omega) (by omega) (by omega)]
    omega
  have q4 : iI (rH o : Int) < (6 : Int32) ↔ rH o < 6 := by
    rw [lit_6, iI_lt (by omega) (by omega) (by omega) (by omega)]
    omega
  simp only [zb_some, d1, d2, q5, q4]
  unfold pHse
  by_cases hc : 0 < rN o ∨ 6 ≤ rH o
  · rw [if_pos hc]
    refine ⟨T, ?_, zFrC_0 T, fun o2 h2 => by cases h2⟩
    by_cases h0 : 0 < rN o
    · rw [if_pos h0]
      rfl
    · rw [if_neg h0, if_neg (by omega)]
      rfl
  · rw [if_neg hc, if_neg (by omega), if_pos (by omega)]
    cases ha : pFig f n (i + 1) with
    | none =>
      simp only [mm_11, if_true]
      exact ⟨T, rfl, zFrC_0 T, fun o2 h2 => by cases h2⟩
    | some a =>
      have a9 := (pFig_some ha).2.1
      simp only [fig_m1 a9, if_false]
      cases hb : pFig f n (i + 2) with
      | none =>
        simp only [mm_11, if_true]
        exact ⟨T, rfl, zFrC_0 T, fun o2 h2 => by cases h2⟩
      | some b =>
        have b9 := (pFig_some hb).2.1
        have e3 : (10 : Int32) * iI (a : Int) + iI (b : Int) = iI ((10 * a + b : Nat) : Int) := by
          rw [lit_10, iI_mul, iI_add]
          rfl
        have q : iI ((10 * a + b : Nat) : Int) ≤ (20 : Int32) ↔ 10 * a + b ≤ 20 := by
          rw [lit_20, iI_le (by omega) (by omega) (by omega) (by omega)]
          omega
        simp only [fig_m1 b9, if_false, e3, q]
        by_cases h2 : 10 * a + b ≤ 20
        · rw [if_pos h2, if_neg (by omega)]
          simp (disch := omega) only [zi_I, zc_true, iI_cln]
          obtain ⟨T1, w1, w2, w3, w4, w5⟩ := wr T 31 (rH o) (iI ((10 * a + b : Nat) : Int))
          rw [w1, w4 30 (by omega), d1, show iI (rH o : Int) + (1 : Int32) = iI ((rH o + 1 : Nat) : Int) from i1n (rH o) 1]
          obtain ⟨T2, x1, x2, x3, x4, x5⟩ := wr T1 30 4 (iI ((rH o + 1 : Nat) : Int))
          rw [w4 30 (by omega)] at x1
          rw [x1]
          refine ⟨T2, rfl, ⟨fun c hc => by rw [x4 c (by omega), w4 c (by omega)], by rw [x5, w5]⟩, fun o2 ho2 => ?_⟩
          cases ho2
          refine ⟨x2, by rw [x3 5 (by omega), w4 30 (by omega)]; exact d2, fun _ => ⟨by rw [x3 6 (by omega), w4 30 (by omega)]; exact (d3 rfl).1, by rw [x3 7 (by omega), w4 30 (by omega)]; exact (d3 rfl).2⟩, fun k hk => ?_, fun l hl => ?_⟩
          · rw [x4 31 (by omega)]
            show T1.1 31 k = iI ((va_up (rB o) (rH o) (10 * a + b) k : Nat) : Int)
            unfold va_up
            by_cases hkh : k = rH o
            · subst hkh
              rw [if_pos rfl]
              exact w2
            · have hk2 : k < rH o + 1 := hk
              rw [if_neg hkh, w3 k hkh]
              exact d4 k (by omega)
          · have hl2 : l < rN o := hl
            omega
        · rw [if_neg h2, if_pos (by omega)]
          exact ⟨T, rfl, zFrC_0 T, fun o2 h2 => by cases h2⟩
theorem bySign_eq (x : Int32) (S : zMem) : f_X1_bySign x S = some (match pSgn x with
    | some k => iI (k : Nat)
    | none => -9, S) := by
  obtain ⟨f, hf⟩ : ∃ f, zF = f + 7 := ⟨zF - 7, by have := zF_gt (n := 7) (by omega); omega⟩
  simp only [f_X1_bySign, X1_bySign_b0, hf]
  unfold pSgn
  rw [X1_bySign_l2, X1_bySign_b2, if_neg (by decide), show zi (0 : Int32) 6 = true from rfl, zc_true, zl_e, show zsig (Int32.toNatClampNeg 0) = 108 from rfl]
  by_cases h0 : x = 108
  · rw [if_pos h0.symm, if_pos h0]
    rfl
  · rw [if_neg (fun q => h0 q.symm), if_neg h0, zl_e, show (0 : Int32) + 1 = 1 from rfl]
    rw [X1_bySign_l2, X1_bySign_b2, if_neg (by decide), show zi (1 : Int32) 6 = true from rfl, zc_true, zl_e, show zsig (Int32.toNatClampNeg 1) = 116 from rfl]
    by_cases h1 : x = 116
    · rw [if_pos h1.symm, if_pos h1]
      rfl
    · rw [if_neg (fun q => h1 q.symm), if_neg h1, zl_e, show (1 : Int32) + 1 = 2 from rfl]
      rw [X1_bySign_l2, X1_bySign_b2, if_neg (by decide), show zi (2 : Int32) 6 = true from rfl, zc_true, zl_e, show zsig (Int32.toNatClampNeg 2) = 98 from rfl]
      by_cases h2 : x = 98
      · rw [if_pos h2.symm, if_pos h2]
        rfl
      · rw [if_neg (fun q => h2 q.symm), if_neg h2, zl_e, show (2 : Int32) + 1 = 3 from rfl]
        rw [X1_bySign_l2, X1_bySign_b2, if_neg (by decide), show zi (3 : Int32) 6 = true from rfl, zc_true, zl_e, show zsig (Int32.toNatClampNeg 3) = 118 from rfl]
        by_cases h3 : x = 118
        · rw [if_pos h3.symm, if_pos h3]
          rfl
        · rw [if_neg (fun q => h3 q.symm), if_neg h3, zl_e, show (3 : Int32) + 1 = 4 from rfl]
          rw [X1_bySign_l2, X1_bySign_b2, if_neg (by decide), show zi (4 : Int32) 6 = true from rfl, zc_true, zl_e, show zsig (Int32.toNatClampNeg 4) = 107 from rfl]
          by_cases h4 : x = 107
          · rw [if_pos h4.symm, if_pos h4]
            rfl
          · rw [if_neg (fun q => h4 q.symm), if_neg h4, zl_e, show (4 : Int32) + 1 = 5 from rfl]
            rw [X1_bySign_l2, X1_bySign_b2, if_neg (by decide), show zi (5 : Int32) 6 = true from rfl, zc_true, zl_e, show zsig (Int32.toNatClampNeg 5) = 102 from rfl]
            by_cases h5 : x = 102
            · rw [if_pos h5.symm, if_pos h5]
              rfl
            · rw [if_neg (fun q => h5 q.symm), if_neg h5, zl_e, show (5 : Int32) + 1 = 6 from rfl]
              rw [X1_bySign_l2, X1_bySign_b2, if_pos (by decide)]
theorem sgn_5 {x : Int32} {k : Nat} (hs : pSgn x = some k) : k ≤ 5 := by
  unfold pSgn at hs
  repeat' split at hs
  all_goals first | (cases hs; omega) | cases hs
theorem fig_m9 {a : Nat} (h : a ≤ 100) : (iI (a : Int) = (-9 : Int32)) ↔ False := by
  rw [litm_9, iI_eq (by omega) (by omega) (by omega) (by omega)]
  exact ⟨fun q => by omega, False.elim⟩
theorem mm_99 : ((-9 : Int32) = -9) ↔ True := ⟨fun _ => trivial, fun _ => rfl⟩
theorem ltr_C {T : zMem} {c n i : Nat} {f : Nat → Int32} {o : pRoad} (h : tXC T c n f) (hd : dC T true o) (ho : pRok o) (hi : i < n) : ∃ T1, f_X5_letterFault c (iI i) T = some (iI (pRes (pLtr f n i o)), T1) ∧ zFrC T T1 ∧ ∀ o2, pLtr f n i o = .inr o2 → dC T1 true o2 := by
  have hn := h.1
  have hH := ho.1
  have hN := ho.2.1
  have e1 : iI (i : Int) + (1 : Int32) = iI ((i + 1 : Nat) : Int) := i1n i 1
  have e2 : iI (i : Int) + (2 : Int32) = iI ((i + 2 : Nat) : Int) := i1n i 2
  obtain ⟨d1, d2, d3, d4, d5⟩ := id hd
  have q5 : iI (rN o : Int) < (6 : Int32) ↔ rN o < 6 := by
    rw [lit_6, iI_lt (by omega) (by omega) (by omega) (by omega)]
    omega
  simp (disch := omega) only [f_X5_letterFault, X5_letterFault_b0, X5_letterFault_b56, X5_letterFault_b76, zl_e, e1, e2, h.2.1, zi_I, zc_true, iI_cln, h.2.2.2.2 i hi, bySign_eq, zb_some]
  rw [figureAt_eq h (by omega)]
  simp only [zb_some]
  rw [figureAt_eq h (by omega)]
  simp (disch := omega) only [zb_some, d1, d2, q5, eqn0]
  unfold pLtr
  cases hs : pSgn (f i) with
  | none =>
    simp only [mm_99, if_true]
    exact ⟨T, rfl, zFrC_0 T, fun o2 h2 => by cases h2⟩
  | some k =>
    have k5 := sgn_5 hs
    simp only [fig_m9 (show k ≤ 100 by omega), if_false]
    by_cases hc : rH o = 0 ∨ 6 ≤ rN o
    · rw [if_pos hc]
      refine ⟨T, ?_, zFrC_0 T, fun o2 h2 => by cases h2⟩
      by_cases h0 : rH o = 0
      · rw [if_pos h0]
        rfl
      · rw [if_neg h0, if_neg (by omega)]
        rfl
    · rw [if_neg hc, if_neg (by omega), if_pos (by omega)]
      cases ha : pFig f n (i + 1) with
      | none =>
        simp only [mm_11, if_true]
        exact ⟨T, rfl, zFrC_0 T, fun o2 h2 => by cases h2⟩
      | some a =>
        have a9 := (pFig_some ha).2.1
        simp (disch := omega) only [fig_m1 a9, if_false, iI_lt]
        by_cases hah : rH o ≤ a
        · rw [if_neg (by omega), if_pos hah]
          exact ⟨T, rfl, zFrC_0 T, fun o2 h2 => by cases h2⟩
        · rw [if_pos (by omega), if_neg hah]
          cases hb : pFig f n (i + 2) with
          | none =>
            simp only [mm_11, if_true]
            exact ⟨T, rfl, zFrC_0 T, fun o2 h2 => by cases h2⟩
          | some b =>
            have b9 := (pFig_some hb).2.1
            simp (disch := omega) only [fig_m1 b9, if_false, zi_I, zc_true, iI_cln]
            obtain ⟨T1, w1, w2, w3, w4, w5⟩ := wr T 32 (rN o) (iI k)
            rw [w1, w4 30 (by omega), d2]
            simp (disch := omega) only [zi_I, zc_true, iI_cln]
            obtain ⟨T2, x1, x2, x3, x4, x5⟩ := wr T1 33 (rN o) (iI a)
            rw [x1, x4 30 (by omega), w4 30 (by omega), d2]
            simp (disch := omega) only [zi_I, zc_true, iI_cln]
            obtain ⟨T3, y1, y2, y3, y4, y5⟩ := wr T2 34 (rN o) (iI b)
            rw [y1, y4 30 (by omega), x4 30 (by omega), w4 30 (by omega), d2, show iI (rN o : Int) + (1 : Int32) = iI ((rN o + 1 : Nat) : Int) from i1n (rN o) 1]
            obtain ⟨T4, z1, z2, z3, z4, z5⟩ := wr T3 30 5 (iI ((rN o + 1 : Nat) : Int))
            rw [y4 30 (by omega), x4 30 (by omega), w4 30 (by omega)] at z1
            rw [z1]
            have h30 : ∀ k, k ≠ 5 → T4.1 30 k = T.1 30 k := fun k hk => by rw [z3 k hk, y4 30 (by omega), x4 30 (by omega), w4 30 (by omega)]
            refine ⟨T4, rfl, ⟨fun c hc => by rw [z4 c (by omega), y4 c (by omega), x4 c (by omega), w4 c (by omega)], by rw [z5, y5, x5, w5]⟩, fun o2 ho2 => ?_⟩
            cases ho2
            refine ⟨by rw [h30 4 (by omega)]; exact d1, z2, fun _ => ⟨by rw [h30 6 (by omega)]; exact (d3 rfl).1, by rw [h30 7 (by omega)]; exact (d3 rfl).2⟩, fun q hq => ?_, fun l hl => ?_⟩
            · rw [z4 31 (by omega), y4 31 (by omega), x4 31 (by omega), w4 31 (by omega)]
              exact d4 q hq
            · have hl2 : l < rN o + 1 := hl
              rw [z4 32 (by omega), z4 33 (by omega), z4 34 (by omega), y4 32 (by omega), y4 33 (by omega), x4 32 (by omega)]
              show T1.1 32 l = iI ((va_up (rK o) (rN o) k l : Nat) : Int) ∧ T2.1 33 l = iI ((va_up (rD o) (rN o) a l : Nat) : Int) ∧ T3.1 34 l = iI ((va_up (rW o) (rN o) b l : Nat) : Int)
              unfold va_up
              by_cases hln : l = rN o
              · subst hln
                rw [if_pos rfl, if_pos rfl, if_pos rfl]
                exact ⟨w2, x2, y2⟩
              · rw [if_neg hln, if_neg hln, if_neg hln, w3 l hln, x3 l hln, y3 l hln, w4 33 (by omega), x4 34 (by omega), w4 34 (by omega)]
                exact d5 l (by omega)
theorem faultOf_loopC {c n : Nat} {f : Nat → Int32} : ∀ (m i : Nat) (op : Bool) (o : pRoad) (T : zMem) (fuel : Nat), n < i + m → m < fuel → i ≤ n + 3 → pRok o → (op = false → rN o = 0) → dC T op o → tXC T c n f → ∃ T1, X5_faultOf_l20 fuel c (if op = true then 1 else 0) (iI i) T = some (iI (pRes (pGo f n m i op o)), T1) ∧ zFrC T T1 ∧ ∀ o2, pGo f n m i op o = .inr o2 → dC T1 true o2 ∧ pRok o2 ∧ 0 < rN o2 := by
  have fin : ∀ (i : Nat) (op : Bool) (o : pRoad) (T : zMem) (fuel : Nat), n ≤ i → 0 < fuel → i ≤ n + 3 → pRok o → (op = false → rN o = 0) → dC T op o → tXC T c n f → ∃ T1, X5_faultOf_l20 fuel c (if op = true then 1 else 0) (iI i) T = some (iI (pRes (pFin n o)), T1) ∧ zFrC T T1 ∧ ∀ o2, pFin n o = .inr o2 → dC T1 true o2 ∧ pRok o2 ∧ 0 < rN o2 := by
    intro i op o T fuel hi hf hi3 ho hop hd hx
    obtain ⟨fuel, rfl⟩ : ∃ f1, fuel = f1 + 1 := ⟨fuel - 1, by omega⟩
    have hn := hx.1
    have hN := ho.2.1
    simp (disch := omega) only [X5_faultOf_l20, X5_faultOf_b20, X5_faultOf_b103, zl_e, hx.2.2.2.1, iI_le, hd.2.1, lit_0]
    rw [if_pos (by omega)]
    unfold pFin
    by_cases h0 : 0 < rN o
    · rw [if_neg (by omega), if_pos h0]
      refine ⟨T, rfl, zFrC_0 T, fun o2 h2 => ?_⟩
      cases h2
      cases op with
      | false => exact absurd (hop rfl) (by omega)
      | true => exact ⟨hd, ho, h0⟩
    · rw [if_pos (by omega), if_neg h0]
      exact ⟨T, rfl, zFrC_0 T, fun o2 h2 => by cases h2⟩
  intro m
  induction m with
  | zero => exact fun i op o T fuel h1 h2 h3 ho hop hd hx => fin i op o T fuel (by omega) (by omega) h3 ho hop hd hx
  | succ m ih =>
    intro i op o T fuel h1 h2 h3 ho hop hd hx
    have hn := hx.1
    unfold pGo
    by_cases hi : n ≤ i
    · rw [if_pos hi]
      exact fin i op o T fuel hi (by omega) h3 ho hop hd hx
    · rw [if_neg hi]
      obtain ⟨fuel, rfl⟩ : ∃ f1, fuel = f1 + 1 := ⟨fuel - 1, by omega⟩
      simp (disch := omega) only [X5_faultOf_l20, X5_faultOf_b20, zl_e, hx.2.2.2.1, iI_le]
      rw [if_neg (by omega)]
      simp (disch := omega) only [hx.2.1, zi_I, zc_true, iI_cln, hx.2.2.2.2 i (by omega)]
      by_cases hb : f i = 32
      · rw [if_pos hb, if_pos hb, show iI (i : Int) + (1 : Int32) = iI ((i + 1 : Nat) : Int) from i1n i 1]
        exact ih (i + 1) op o T fuel (by omega) (by omega) (by omega) ho hop hd hx
      · rw [if_neg hb, if_neg hb]
        have hitm : ∃ T1, (if (if op = true then (1 : Int32) else 0) = 0 then (zb (f_X5_postmanFault c (iI i) T) fun v5 S => X5_faultOf_b64 (X5_faultOf_l20 fuel) c (iI i) v5 S) else (zb (f_X5_itemFault c (iI i) T) fun v6 S => X5_faultOf_b64 (X5_faultOf_l20 fuel) c (iI i) v6 S)) = X5_faultOf_b64 (X5_faultOf_l20 fuel) c (iI i) (iI (pRes (pItm f n i op o))) T1 ∧ zFrC T T1 ∧ ∀ o2, pItm f n i op o = .inr o2 → dC T1 true o2 := by
          unfold pItm
          cases op with
          | false =>
            rw [if_neg Bool.false_ne_true, if_pos rfl, if_neg Bool.false_ne_true]
            obtain ⟨T1, e1, e2, e3⟩ := head_C (i := i) (o := o) hx hd (by omega)
            rw [e1]
            exact ⟨T1, rfl, e2, e3⟩
          | true =>
            rw [if_pos rfl, if_neg (by decide), if_pos rfl]
            simp (disch := omega) only [f_X5_itemFault, X5_itemFault_b0, X5_itemFault_b26, hx.2.1, zi_I, zc_true, zl_e, iI_cln, hx.2.2.2.2 i (by omega)]
            by_cases hh : f i = 104
            · rw [if_pos hh, if_pos hh]
              obtain ⟨T1, e1, e2, e3⟩ := hse_C (i := i) (o := o) hx hd ho (by omega)
              rw [e1]
              exact ⟨T1, rfl, e2, e3⟩
            · rw [if_neg hh, if_neg hh]
              obtain ⟨T1, e1, e2, e3⟩ := ltr_C (i := i) (o := o) hx hd ho (by omega)
              rw [e1]
              exact ⟨T1, rfl, e2, e3⟩
        obtain ⟨T1, e1, e2, e3⟩ := hitm
        rw [e1]
        cases hr : pItm f n i op o with
        | inl e =>
          have hle : e ≤ i + 2 := by
            unfold pItm at hr
            cases op with
            | false =>
              rw [if_neg Bool.false_ne_true] at hr
              unfold pHead at hr
              repeat' split at hr
              all_goals first | (cases hr; omega) | cases hr
            | true =>
              rw [if_pos rfl] at hr
              split at hr
              · unfold pHse at hr
                repeat' split at hr
                all_goals first | (cases hr; omega) | cases hr
              · unfold pLtr at hr
                repeat' split at hr
                all_goals first | (cases hr; omega) | cases hr
          simp only [X5_faultOf_b64, pRes]
          simp only [fig_m9 (show e ≤ 100 by omega), if_false]
          exact ⟨T1, rfl, e2, fun o2 h2 => by cases h2⟩
        | inr o2 =>
          have hok := pItm_ok ho hr
          rw [X5_faultOf_b64, if_pos (show iI (pRes (.inr o2)) = (-9 : Int32) from rfl), zl_e]
          rw [show iI (i : Int) + (3 : Int32) = iI ((i + 3 : Nat) : Int) from i1n i 3]
          obtain ⟨T2, g1, g2, g3⟩ := ih (i + 3) true o2 T1 fuel (by omega) (by omega) (by omega) hok.1 (fun q => by cases q) (e3 o2 hr) (tXC_f hx e2)
          exact ⟨T2, g1, zFrC_t e2 g2, g3⟩
def pO0 : pRoad := (0, 0, fun _ => 0, fun _ => 0, fun _ => 0, fun _ => 0, 0, 0)
theorem pO0_ok : pRok pO0 := ⟨Nat.zero_le _, Nat.zero_le _, fun l hl => absurd hl (Nat.not_lt_zero l), fun l hl => absurd hl (Nat.not_lt_zero l), Nat.zero_le _, Nat.zero_le _⟩
/-- a text, read -/
abbrev pRead (w : Int × (Nat → Int32)) : Nat ⊕ pRoad := pG_ w.2 w.1.toNat 0 false pO0
theorem faultOf_C {S : zMem} {g : pSig} {t : Nat} (hg : pWf g) (h : RC S g) (ht : t < 4) (hs : ¬ (gX g t).1 < 0) : ∃ S1, f_X5_faultOf (16 + 2 * t) S = some (iI (pRes (pRead (gX g t))), S1) ∧ zFrC S S1 ∧ ∀ o2, pRead (gX g t) = .inr o2 → dC S1 true o2 ∧ pRok o2 ∧ 0 < rN o2 := by
  have hb := hg.2.1 t ht
  obtain ⟨n, hn⟩ := sz_of hb.1 hs
  have hr := h.2.2.1 t ht
  rw [hn] at hr
  simp only [f_X5_faultOf, X5_faultOf_b0, zl_e]
  obtain ⟨T1, w1, w2, w3, w4, w5⟩ := wr S 30 4 (0 : Int32)
  rw [w1]
  obtain ⟨T2, x1, x2, x3, x4, x5⟩ := wr T1 30 5 (0 : Int32)
  rw [x1]
  have fr : zFrC S T2 := ⟨fun c hc => by rw [x4 c (by omega), w4 c (by omega)], by rw [x5, w5]⟩
  have hx : tXC T2 (16 + 2 * t) n (gX g t).2 := ⟨by omega, lnC_txt t ht, by omega, by rw [fr.1 _ (by omega)]; exact hr.1, fun k hk => by rw [fr.1 _ (by omega)]; exact hr.2 k (by omega)⟩
  have hd : dC T2 false pO0 := ⟨by rw [x3 4 (by omega), w2]; rfl, x2, fun q => (by cases q), fun l hl => absurd hl (Nat.not_lt_zero l), fun l hl => absurd hl (Nat.not_lt_zero l)⟩
  obtain ⟨S1, e1, e2, e3⟩ := faultOf_loopC (n + 1) 0 false pO0 T2 zF (by omega) (zF_gt (by omega)) (by omega) pO0_ok (fun _ => rfl) hd hx
  have e1' : X5_faultOf_l20 zF (16 + 2 * t) (0 : Int32) (0 : Int32) T2 = some (iI (pRes (pGo (gX g t).2 n (n + 1) 0 false pO0)), S1) := e1
  rw [e1']
  unfold pRead pG_
  rw [hn, Int.toNat_natCast]
  exact ⟨S1, rfl, zFrC_t fr e2, e3⟩
