/-! a row as a list of letters -/
def pSeen (o : pRoad) (f : Nat → Int32) (out : Nat) : Nat → Option Nat
  | 0 => some out
  | i + 1 => match pSeen o f out i with
    | none => none
    | some s => match pIn (f i) (rN o) with
      | none => none
      | some l => if s.testBit l then none else some (s ||| 2 ^ l)
def pLets (o : pRoad) (w : Int × (Nat → Int32)) (out : Nat) : Nat := if w.1 < 0 then 1 else if 6 < w.1 then 5 else if (pSeen o w.2 out w.1.toNat).isSome then 0 else 3
theorem pSeen_none {o : pRoad} {f : Nat → Int32} {out i : Nat} (h : pSeen o f out i = none) : ∀ m, pSeen o f out (i + m) = none := by
  intro m
  induction m with
  | zero => exact h
  | succ m ih =>
    show pSeen o f out (i + m + 1) = none
    rw [pSeen, ih]
theorem pSeen_n {o : pRoad} {f : Nat → Int32} {out i n : Nat} (h : pSeen o f out i = none) (hi : i ≤ n) : pSeen o f out n = none := by
  have := pSeen_none h (n - i)
  rw [show i + (n - i) = n by omega] at this
  exact this
theorem pSeen_64 {o : pRoad} {f : Nat → Int32} {out : Nat} (ho : pRok o) (h : out < 64) : ∀ i s, pSeen o f out i = some s → s < 64 := by
  have hN := ho.2.1
  intro i
  induction i with
  | zero =>
    intro s hs
    cases hs
    exact h
  | succ i ih =>
    intro s hs
    rw [pSeen] at hs
    cases hq : pSeen o f out i with
    | none =>
      rw [hq] at hs
      cases hs
    | some c =>
      rw [hq] at hs
      dsimp only at hs
      cases hp : pIn (f i) (rN o) with
      | none =>
        rw [hp] at hs
        cases hs
      | some l =>
        have hl := (pIn_some hp).2
        rw [hp] at hs
        dsimp only at hs
        by_cases hb : c.testBit l = true
        · rw [if_pos hb] at hs
          cases hs
        · rw [if_neg hb] at hs
          cases hs
          exact Nat.or_lt_two_pow (n := 6) (ih c hq) (show 2 ^ l < 2 ^ 6 from Nat.pow_lt_pow_right (by omega) (by omega))
/-- of a row that is so: its letters -/
theorem pSeen_ok {o : pRoad} {f : Nat → Int32} {out : Nat} : ∀ n c, pSeen o f out n = some c → ∀ i, i < n → ∃ s l, pSeen o f out i = some s ∧ l < rN o ∧ f i = iI (l : Nat) ∧ s.testBit l = false ∧ pSeen o f out (i + 1) = some (s ||| 2 ^ l) := by
  intro n
  induction n with
  | zero => exact fun c hc i hi => absurd hi (by omega)
  | succ n ih =>
    intro c hc i hi
    have h0 := hc
    rw [pSeen] at hc
    cases hq : pSeen o f out n with
    | none =>
      rw [hq] at hc
      cases hc
    | some s =>
      by_cases hin : i = n
      · subst hin
        rw [hq] at hc
        dsimp only at hc
        cases hp : pIn (f i) (rN o) with
        | none =>
          rw [hp] at hc
          cases hc
        | some l =>
          have hl := pIn_some hp
          rw [hp] at hc
          dsimp only at hc
          by_cases hb : s.testBit l = true
          · rw [if_pos hb] at hc
            cases hc
          · rw [if_neg hb] at hc
            cases hc
            exact ⟨s, l, hq, hl.2, hl.1, by simpa using hb, h0⟩
      · exact ih s hq i (by omega)
theorem pLets_6 (o : pRoad) (w : Int × (Nat → Int32)) (out : Nat) : pLets o w out < 6 := by
  unfold pLets
  repeat' split
  all_goals omega
theorem pLets_0 {o : pRoad} {w : Int × (Nat → Int32)} {out : Nat} (h : pLets o w out = 0) : ∃ n : Nat, w.1 = n ∧ n ≤ 6 ∧ ∃ c, pSeen o w.2 out n = some c := by
  unfold pLets at h
  by_cases hs : w.1 < 0
  · rw [if_pos hs] at h
    omega
  · rw [if_neg hs] at h
    by_cases h2 : 6 < w.1
    · rw [if_pos h2] at h
      omega
    · rw [if_neg h2] at h
      by_cases h3 : (pSeen o w.2 out w.1.toNat).isSome = true
      · exact ⟨w.1.toNat, by omega, by omega, Option.isSome_iff_exists.mp h3⟩
      · rw [if_neg h3] at h
        omega
theorem wrongLetters_C {S : zMem} {g : pSig} {j out : Nat} (hg : pWf g) (h : RC S g) (hj : j < 6) (ho : out < 64) : f_X8_wrongLetters (4 + 2 * j) (iI out) S = some (iI (pLets (gO g) (gR g j) out), S) := by
  have hb := hg.1 j hj
  have hr := h.2.1 j hj
  have hL := lnC_row j hj
  have hN := hg.o.2.1
  unfold pLets
  simp only [f_X8_wrongLetters, X8_wrongLetters_b0]
  by_cases hs : (gR g j).1 < 0
  · have e1 : (gR g j).1 = -1 := by omega
    rw [if_pos hs]
    rw [e1] at hr
    simp only [isThere_f hr.1, zb_some, zero_0, if_true]
    rfl
  · obtain ⟨n, hn⟩ := sz_of hb.1 hs
    rw [if_neg hs]
    rw [hn] at hr hb ⊢
    simp only [isThere_t hr.1 (by omega) (by omega), zb_some, one_0, if_false, zl_e, hr.1]
    rw [show (6 : Int32) = iI ((6 : Nat) : Int) from rfl, Int.toNat_natCast]
    simp (disch := omega) only [iI_le]
    by_cases h6 : 6 < n
    · rw [if_neg (by omega), if_pos (by omega)]
      rfl
    · rw [if_pos (by omega), if_neg (by omega)]
      refine zforI (F := fun f i (c : Nat) => X8_wrongLetters_l25 f (4 + 2 * j) (iI c) (iI (i : Nat)) S) (n := n) (P := fun i c => pSeen (gO g) (gR g j).2 out i = some c) (Q := fun r => r = some (iI ((if (pSeen (gO g) (gR g j).2 out n).isSome = true then 0 else 3 : Nat) : Int), S)) (fun f i c hi hc => ?_) (fun f c hc => ?_) (zF_gt (by omega)) (a := out) rfl
      · have c64 := pSeen_64 hg.o ho i c hc
        simp (disch := omega) only [X8_wrongLetters_l25, X8_wrongLetters_b25, X8_wrongLetters_b61, zl_e, hr.1, iI_le]
        rw [if_neg (by omega)]
        simp (disch := omega) only [hL, zi_I, zc_true, iI_cln, hr.2 i (by omega)]
        have es : pSeen (gO g) (gR g j).2 out (i + 1) = match pIn ((gR g j).2 i) (rN (gO g)) with
          | none => none
          | some l => if c.testBit l then none else some (c ||| 2 ^ l) := by rw [pSeen, hc]
        cases hp : pIn ((gR g j).2 i) (rN (gO g)) with
        | none =>
          rw [hp] at es
          right
          rw [isLetter_f hg.o h.o hp, pSeen_n es (by omega)]
          simp only [zb_some, zero_0, if_true]
          rfl
        | some l =>
          obtain ⟨el, hl⟩ := pIn_some hp
          rw [hp] at es
          dsimp only at es
          rw [el, isLetter_t hg.o h.o hl]
          simp only [zb_some, one_0, if_false, bitI c c64 l (by omega)]
          by_cases hbt : c.testBit l = true
          · rw [if_pos hbt] at es
            right
            rw [if_pos hbt, if_neg (by decide), pSeen_n es (by omega)]
            rfl
          · rw [if_neg hbt] at es
            left
            rw [if_neg hbt, if_pos rfl, orI c c64 l (by omega), lit_1, iI_add]
            exact ⟨_, es, rfl⟩
      · simp (disch := omega) only [X8_wrongLetters_l25, X8_wrongLetters_b25, zl_e, hr.1, iI_le]
        rw [if_pos (by omega), hc]
        rfl
theorem noLetters_M {S : zMem} {g : pSig} {j out : Nat} (hg : pWf g) (h : RM S g) (hj : j < 6) (ho : out < 64) : f_X9_noLetters (iI j) (iI out) S = if pLets (gO g) (gR g j) out = 0 then some (0, S) else zb (f_X9_find (iI (pLets (gO g) (gR g j) out)) S) fun v S => some (v, S) := by
  have hb := hg.1 j hj
  have hr := h.2.1 j hj
  have hN := hg.o.2.1
  unfold pLets
  simp (disch := omega) only [f_X9_noLetters, X9_noLetters_b0, zi_I, zc_true, zl_e, iI_cln, hr.1]
  have q1 : (0 : Int32) ≤ iI (gR g j).1 ↔ 0 ≤ (gR g j).1 := iI_le (a := 0) (by omega) (by omega) (by omega) (by omega)
  simp only [q1]
  by_cases hs : (gR g j).1 < 0
  · rw [if_neg (show ¬ 0 ≤ (gR g j).1 by omega), if_pos hs, if_neg (by decide)]
    rfl
  · obtain ⟨n, hn⟩ := sz_of hb.1 hs
    rw [if_pos (show 0 ≤ (gR g j).1 by omega), if_neg hs]
    rw [hn] at hr hb ⊢
    rw [show (6 : Int32) = iI ((6 : Nat) : Int) from rfl, Int.toNat_natCast]
    simp (disch := omega) only [iI_le]
    by_cases h6 : 6 < n
    · rw [if_neg (by omega), if_pos (show (6 : Int) < (n : Int) by omega), if_neg (by decide)]
      rfl
    · rw [if_pos (by omega), if_neg (show ¬ (6 : Int) < (n : Int) by omega)]
      refine zforI (F := fun f i (a : Nat × Int32) => X9_noLetters_l40 f (iI j) (iI a.1) a.2 (iI (i : Nat)) S) (n := n) (P := fun i a => (a.2 = 1 ∧ pSeen (gO g) (gR g j).2 out i = some a.1) ∨ (a.2 = 0 ∧ pSeen (gO g) (gR g j).2 out n = none)) (Q := fun r => r = if (if (pSeen (gO g) (gR g j).2 out n).isSome = true then 0 else 3) = 0 then some (0, S) else zb (f_X9_find (iI ((if (pSeen (gO g) (gR g j).2 out n).isSome = true then 0 else 3 : Nat) : Int)) S) fun v S => some (v, S)) (fun f i a hi ha => ?_) (fun f a ha => ?_) (zF_gt (by omega)) (a := (out, 1)) (Or.inl ⟨rfl, rfl⟩)
      · obtain ⟨c, b⟩ := a
        dsimp only at ha ⊢
        rcases ha with ⟨rfl, hc⟩ | ⟨rfl, hc⟩
        · left
          have c64 := pSeen_64 hg.o ho i c hc
          simp (disch := omega) only [X9_noLetters_l40, X9_noLetters_b40, zi_I, zc_true, zl_e, iI_cln, hr.1, iI_le]
          rw [if_neg (by omega), if_neg (by decide)]
          simp (disch := omega) only [lit_40, iI_mul, iI_add, zi_I, zc_true, iI_cl]
          rw [show ((40 : Int) * (j : Int) + (i : Int)).toNat = 40 * j + i by omega, hr.2 i (by omega)]
          have es : pSeen (gO g) (gR g j).2 out (i + 1) = match pIn ((gR g j).2 i) (rN (gO g)) with
            | none => none
            | some l => if c.testBit l then none else some (c ||| 2 ^ l) := by rw [pSeen, hc]
          cases hp : pIn ((gR g j).2 i) (rN (gO g)) with
          | none =>
            rw [hp] at es
            rw [misLetter_f hg.o h.o hp]
            simp only [zb_some, zero_0, if_true, X9_noLetters_b92, X9_noLetters_b93, X9_noLetters_b109, zl_e, or0I, lit_1, iI_add]
            exact ⟨(c, 0), Or.inr ⟨rfl, pSeen_n es (by omega)⟩, rfl⟩
          | some l =>
            obtain ⟨el, hl⟩ := pIn_some hp
            rw [hp] at es
            dsimp only at es
            rw [el, misLetter_t hg.o h.o hl]
            simp only [zb_some, one_0, if_false, mhas_eq c64 (show l < 6 by omega)]
            by_cases hbt : c.testBit l = true
            · rw [if_pos hbt] at es
              rw [if_pos hbt]
              simp only [zero_0, one_0, if_true, if_false, X9_noLetters_b92, X9_noLetters_b93, X9_noLetters_b109, zl_e, or0I, lit_1, iI_add]
              exact ⟨(c, 0), Or.inr ⟨rfl, pSeen_n es (by omega)⟩, rfl⟩
            · rw [if_neg hbt] at es
              rw [if_neg hbt]
              simp only [zero_0, one_0, if_true, if_false, X9_noLetters_b93, X9_noLetters_b109, zl_e, orI c c64 l (show l < 6 by omega)]
              rw [lit_1, iI_add]
              exact ⟨(c ||| 2 ^ l, 1), Or.inl ⟨rfl, es⟩, rfl⟩
        · right
          simp (disch := omega) only [X9_noLetters_l40, X9_noLetters_b40, X9_noLetters_b117, X9_noLetters_b131, zi_I, zc_true, zl_e, iI_cln, hr.1, iI_le]
          rw [if_neg (by omega), hc]
          rfl
      · obtain ⟨c, b⟩ := a
        dsimp only at ha ⊢
        simp (disch := omega) only [X9_noLetters_l40, X9_noLetters_b40, X9_noLetters_b117, X9_noLetters_b131, zi_I, zc_true, zl_e, iI_cln, hr.1, iI_le]
        rw [if_pos (by omega)]
        rcases ha with ⟨rfl, hc⟩ | ⟨rfl, hc⟩
        · rw [hc]
          rfl
        · rw [hc]
          rfl
/-! rest -/
/-- the letters of a row -/
def pLf (w : Int × (Nat → Int32)) (i : Nat) : Nat := (w.2 i).toInt.toNat
theorem pLf_eq {w : Int × (Nat → Int32)} {i l : Nat} (hl : l < 6) (h : w.2 i = iI l) : pLf w i = l := by
  unfold pLf
  rw [h, iI_toInt (by omega) (by omega), Int.toNat_natCast]
def pDelN (o : pRoad) (lf : Nat → Nat) (s : pSt) : Nat → pSt
  | 0 => s
  | i + 1 => pDel o (pDelN o lf s i) (lf i)
def pDays (o : pRoad) (lf : Nat → Nat) (n : Nat) (s : pSt) : Nat → pSt
  | 0 => s
  | d + 1 => pDelN o lf (pDay (pDays o lf n s d)) n
/-- the same with the days that the reference counts -/
def pDyM (s : pSt) : pSt := (sM s, sE s, 0, 0, sD s + 1, sB s, sX s)
def pDaysM (o : pRoad) (lf : Nat → Nat) (n : Nat) (s : pSt) : Nat → pSt
  | 0 => s
  | d + 1 => pDelN o lf (pDyM (pDaysM o lf n s d)) n
def setD (s : pSt) (x : Nat) : pSt := (sM s, sE s, sP s, sC s, x, sB s, sX s)
theorem setD_del (o : pRoad) (s : pSt) (x l : Nat) : pDel o (setD s x) l = setD (pDel o s l) x := rfl
theorem setD_delN (o : pRoad) (lf : Nat → Nat) (s : pSt) (x : Nat) : ∀ n, pDelN o lf (setD s x) n = setD (pDelN o lf s n) x := by
  intro n
  induction n with
  | zero => rfl
  | succ n ih =>
    show pDel o (pDelN o lf (setD s x) n) (lf n) = _
    rw [ih, setD_del]
    rfl
theorem pDaysM_eq (o : pRoad) (lf : Nat → Nat) (n : Nat) (s : pSt) : ∀ d, pDaysM o lf n s d = setD (pDays o lf n s d) (sD s + d) := by
  intro d
  induction d with
  | zero => rfl
  | succ d ih =>
    show pDelN o lf (pDyM (pDaysM o lf n s d)) n = _
    rw [ih, show pDyM (setD (pDays o lf n s d) (sD s + d)) = setD (pDay (pDays o lf n s d)) (sD s + (d + 1)) from rfl, setD_delN]
    rfl
theorem pDay_ok {o : pRoad} {s : pSt} (h : pSok o s) : pSok o (pDay s) := ⟨h.1, h.2.1, Nat.zero_le _, Nat.two_pow_pos _, h.2.2.2.2⟩
theorem pDyM_ok {o : pRoad} {s : pSt} (h : pSok o s) : pSok o (pDyM s) := ⟨h.1, h.2.1, Nat.zero_le _, Nat.two_pow_pos _, h.2.2.2.2⟩
theorem pDelN_ok {o : pRoad} {lf : Nat → Nat} {s : pSt} (ho : pRok o) (h : pSok o s) : ∀ n, (∀ i, i < n → lf i < rN o) → pSok o (pDelN o lf s n) := by
  intro n
  induction n with
  | zero => exact fun _ => h
  | succ n ih => exact fun hl => pDel_ok ho (ih (fun i hi => hl i (by omega))) (hl n (by omega))
theorem pDays_ok {o : pRoad} {lf : Nat → Nat} {s : pSt} {n : Nat} (ho : pRok o) (h : pSok o s) (hl : ∀ i, i < n → lf i < rN o) : ∀ d, pSok o (pDays o lf n s d) := by
  intro d
  induction d with
  | zero => exact h
  | succ d ih => exact pDelN_ok ho (pDay_ok ih) n hl
theorem pDaysM_ok {o : pRoad} {lf : Nat → Nat} {s : pSt} {n : Nat} (ho : pRok o) (h : pSok o s) (hl : ∀ i, i < n → lf i < rN o) : ∀ d, pSok o (pDaysM o lf n s d) := by
  intro d
  induction d with
  | zero => exact h
  | succ d ih => exact pDelN_ok ho (pDyM_ok ih) n hl
theorem seen_C {o : pRoad} {w : Int × (Nat → Int32)} {s : pSt} (ho : pRok o) {out : Nat} (h0 : sC s = out) : ∀ i c, pSeen o w.2 out i = some c → sC (pDelN o (pLf w) s i) = c := by
  have hN := ho.2.1
  intro i
  induction i with
  | zero =>
    intro c hc
    cases hc
    exact h0
  | succ i ih =>
    intro c hc
    obtain ⟨s1, l, e1, e2, e3, e4, e5⟩ := pSeen_ok (i + 1) c hc i (by omega)
    rw [e5] at hc
    cases hc
    show sC (pDelN o (pLf w) s i) ||| 2 ^ pLf w i = _
    rw [ih s1 e1, pLf_eq (by omega) e3]
def qRest (x y z : Int32) (g : pSig) : Int32 × pSig := match pIn x (rH (gO g)), pIn y 21, pIn z 6 with
  | some h, some n, some j => if pLets (gO g) (gR g j) 0 = 0 then (iI (sB (pDays (gO g) (pLf (gR g j)) (gR g j).1.toNat (gS g) n) h), g) else qRef (pLets (gO g) (gR g j) 0) g
  | _, _, _ => (-1, g)
theorem rest_wf (x y z : Int32) : ∀ g, pWf g → pWf (qRest x y z g).2 := by
  intro g h
  unfold qRest
  split
  · split
    · exact h
    · exact wf_told (g := g) _ h
  · exact h
theorem beginDay_C {S : zMem} {P : Nat} {o : pRoad} {s : pSt} (hs : sCl S P o s) : ∃ S1, f_X4_beginDay P S = some ((), S1) ∧ sCl S1 P o (pDay s) ∧ (∀ q, q ≠ P → S1.1 q = S.1 q) ∧ S1.2 = S.2 := by
  simp only [f_X4_beginDay, X4_beginDay_b0, zl_e]
  obtain ⟨T2, x1, x2, x3, x4, x5⟩ := wr S P 10 (0 : Int32)
  rw [x1]
  obtain ⟨T3, y1, y2, y3, y4, y5⟩ := wr T2 P 11 (0 : Int32)
  rw [y1]
  obtain ⟨a1, a2, a3, a4, a5, a6, a7⟩ := hs
  refine ⟨T3, rfl, ⟨by rw [y3 7 (by omega), x3 7 (by omega)]; exact a1, by rw [y3 8 (by omega), x3 8 (by omega)]; exact a2, by rw [y3 9 (by omega), x3 9 (by omega)]; exact a3, by rw [y3 10 (by omega), x2]; rfl, y2, fun q hq => ?_, fun q hq hb => ?_⟩, fun q hq => by rw [y4 q hq, x4 q hq], by rw [y5, x5]⟩
  · rw [y4 (P + 1) (by omega), x4 (P + 1) (by omega)]
    exact a6 q hq
  · have hb0 : (0 : Nat).testBit q = true := hb
    rw [Nat.zero_testBit] at hb0
    exact absurd hb0 (by decide)
theorem rest_loopC {S T : zMem} {g : pSig} {h n j : Nat} (hg : pWf g) (hR : RC S g) (hh : h < rH (gO g)) (hn : n ≤ 20) (hj : j < 6) (hp : pLets (gO g) (gR g j) 0 = 0) (hs : sCl T 40 (gO g) (gS g)) (hq : ∀ q, (q < 40 ∨ 45 ≤ q) → T.1 q = S.1 q) (h2 : T.2 = S.2) : ∃ S1, X8_rest_l69 zF (iI h) (iI n) (4 + 2 * j) (0 : Int32) T = some (iI (sB (pDays (gO g) (pLf (gR g j)) (gR g j).1.toNat (gS g) n) h), S1) ∧ RC S1 g := by
  have hH := hg.o.1
  have hN := hg.o.2.1
  obtain ⟨m, hm, hm6, c, hc⟩ := pLets_0 hp
  have hlet := pSeen_ok m c hc
  have hlf : ∀ i, i < m → pLf (gR g j) i < rN (gO g) := fun i hi => by
    obtain ⟨s1, l, e1, e2, e3, e4, e5⟩ := hlet i hi
    rw [pLf_eq (by omega) e3]
    exact e2
  rw [hm, Int.toNat_natCast]
  have hr := hR.2.1 j hj
  rw [hm] at hr
  have hL := lnC_row j hj
  refine zforI (F := fun f i T => X8_rest_l69 f (iI h) (iI n) (4 + 2 * j) (iI (i : Nat)) T) (n := n) (P := fun d T => sCl T 40 (gO g) (pDays (gO g) (pLf (gR g j)) m (gS g) d) ∧ (∀ q, (q < 40 ∨ 45 ≤ q) → T.1 q = S.1 q) ∧ T.2 = S.2) (Q := fun r => ∃ S1, r = some (iI (sB (pDays (gO g) (pLf (gR g j)) m (gS g) n) h), S1) ∧ RC S1 g) (fun f d T hd hT => ?_) (fun f T hT => ?_) (zF_gt (by omega)) (a := T) ⟨hs, hq, h2⟩
  · left
    obtain ⟨t1, t2, t3⟩ := hT
    have hok := pDays_ok (lf := pLf (gR g j)) (n := m) hg.o hg.ok hlf d
    obtain ⟨T1, e1, e2, e3, e4⟩ := beginDay_C t1
    simp (disch := omega) only [X8_rest_l69, X8_rest_b69, iI_le]
    rw [if_neg (by omega), e1]
    simp only [zb_some]
    refine zforI (F := fun f2 i T => X8_rest_l85 (X8_rest_l69 f) f2 (iI h) (iI n) (4 + 2 * j) (iI d) (iI (i : Nat)) T) (n := m) (P := fun i T => sCl T 40 (gO g) (pDelN (gO g) (pLf (gR g j)) (pDay (pDays (gO g) (pLf (gR g j)) m (gS g) d)) i) ∧ (∀ q, (q < 40 ∨ 45 ≤ q) → T.1 q = S.1 q) ∧ T.2 = S.2) (Q := fun r => ∃ b, (sCl b 40 (gO g) (pDays (gO g) (pLf (gR g j)) m (gS g) (d + 1)) ∧ (∀ q, (q < 40 ∨ 45 ≤ q) → b.1 q = S.1 q) ∧ b.2 = S.2) ∧ r = X8_rest_l69 f (iI h) (iI n) (4 + 2 * j) (iI ((d + 1 : Nat) : Int)) b) (fun f2 i T hi hT => ?_) (fun f2 T hT => ?_) (zF_gt (by omega)) (a := T1) ⟨e2, fun q hq2 => by rw [e3 q (by omega), t2 q hq2], by rw [e4, t3]⟩
    · left
      obtain ⟨u1, u2, u3⟩ := hT
      obtain ⟨s1, l, f1, f2', f3, f4, f5⟩ := hlet i hi
      simp only [X8_rest_l85, X8_rest_b85, zl_e]
      rw [u2 (4 + 2 * j) (by omega), hr.1]
      simp (disch := omega) only [iI_le]
      rw [if_neg (by omega)]
      simp (disch := omega) only [hL, zi_I, zc_true, iI_cln]
      rw [u2 (4 + 2 * j + 1) (by omega), hr.2 i (by omega), f3]
      have hoT : oC T (gO g) := hR.o.cg (fun c x y => u2 c (by omega))
      have hok2 := pDelN_ok (lf := pLf (gR g j)) hg.o (pDay_ok hok) i (fun q hq => hlf q (by omega))
      have hcb : (sC (pDelN (gO g) (pLf (gR g j)) (pDay (pDays (gO g) (pLf (gR g j)) m (gS g) d)) i)).testBit l = false := by
        rw [seen_C hg.o (out := 0) rfl i s1 f1]
        exact f4
      obtain ⟨T2, g1, g2, g3, g4, g5, g6⟩ := deliver_C (by omega) hg.o hoT u1 hok2 f2' hcb
      rw [g1]
      refine ⟨T2, ⟨?_, fun q hq2 => by rw [g4 q (by omega) (by omega) (by omega), u2 q hq2], by rw [g5, u3]⟩, ?_⟩
      · show sCl T2 40 (gO g) (pDel (gO g) (pDelN (gO g) (pLf (gR g j)) (pDay (pDays (gO g) (pLf (gR g j)) m (gS g) d)) i) (pLf (gR g j) i))
        rw [pLf_eq (by omega) f3]
        exact g2
      · simp only [zb_some, lit_1, iI_add]
        rfl
    · obtain ⟨u1, u2, u3⟩ := hT
      simp only [X8_rest_l85, X8_rest_b85, zl_e]
      rw [u2 (4 + 2 * j) (by omega), hr.1]
      simp (disch := omega) only [iI_le]
      rw [if_pos (by omega), lit_1, iI_add]
      exact ⟨T, ⟨u1, u2, u3⟩, rfl⟩
  · obtain ⟨t1, t2, t3⟩ := hT
    simp (disch := omega) only [X8_rest_l69, X8_rest_b69, iI_le]
    rw [if_pos (by omega)]
    simp (disch := omega) only [zi_I, zc_true, zl_e, iI_cln]
    rw [show T.1 41 h = iI (sB (pDays (gO g) (pLf (gR g j)) m (gS g) n) h) from t1.2.2.2.2.2.1 h hh]
    refine ⟨T, rfl, ?_⟩
    obtain ⟨a1, a2, a3, a4, a5, a6, a7⟩ := hR
    exact ⟨a1.cg (t2 0 (by omega)) (by rw [t3]) (t2 67 (by omega)), a2.cg (fun c x y => t2 c (by omega)), a3.cg (fun c x y => t2 c (by omega)), a4.cg (fun c x y => t2 c (by omega)), a5.cg (fun c x y => t2 c (by omega)), fun q => by rw [t2 35 (by omega)]; exact a6 q, a7.cg (fun c x y => t2 c (by omega))⟩
theorem rest_C (x y z : Int32) : okC (f_X8_rest x y z) (qRest x y z) := by
  intro S g hg h
  unfold qRest
  simp only [f_X8_rest, X8_rest_b0, X8_rest_b24]
  rw [show (20 : Int32) = iI ((20 : Nat) : Int) from rfl]
  cases hx : pIn x (rH (gO g)) with
  | none =>
    simp only [isHouse_f hg.o h.o hx, zb_some, zero_0, if_true]
    exact ⟨S, rfl, h⟩
  | some k =>
    obtain ⟨rfl, hk⟩ := pIn_some hx
    simp only [isHouse_t hg.o h.o hk, zb_some, one_0, if_false]
    cases hy : pIn y 21 with
    | none =>
      simp only [within_f hy (show 20 < 1000000 by omega), zb_some, zero_0, if_true]
      exact ⟨S, rfl, h⟩
    | some n =>
      obtain ⟨rfl, hn⟩ := pIn_some hy
      simp only [within_t (show n ≤ 20 by omega) (show 20 < 1000000 by omega), zb_some, one_0, if_false]
      cases hz : pIn z 6 with
      | none =>
        simp only [isRow_f hz, zb_some, zero_0, if_true]
        exact ⟨S, rfl, h⟩
      | some j =>
        obtain ⟨rfl, hj⟩ := pIn_some hz
        have h6 := pLets_6 (gO g) (gR g j) 0
        have hw : f_X8_wrongLetters (4 + 2 * j) (0 : Int32) S = some (iI (pLets (gO g) (gR g j) 0), S) := wrongLetters_C (out := 0) hg h hj (by omega)
        simp (disch := omega) only [isRow_t hj, zb_some, one_0, if_false, zi_I, zc_true, iI_cln, hw, eqn0]
        by_cases hp : pLets (gO g) (gR g j) 0 = 0
        · rw [if_pos hp, if_pos hp]
          obtain ⟨T, e1, e2, e3, e4, e5⟩ := become_C (c0 := 40) (c1 := 35) (by omega) hg.o hg.2.2.2.1.1 h.2.2.2.2.1 (h.2.2.2.2.2.1 (by omega))
          rw [e1]
          exact rest_loopC hg h hk (by omega) hj hp e2.1 (fun q hq => e4 q (by omega)) e5
        · rw [if_neg hp, if_neg hp]
          exact ref_Ce _ h6 h rfl
theorem rest_loopM {S T : zMem} {g : pSig} {h n j : Nat} (hg : pWf g) (hR : RM S g) (hh : h < rH (gO g)) (hn : n ≤ 20) (hj : j < 6) (hp : pLets (gO g) (gR g j) 0 = 0) (hs : sMo T (2792 + 1) (gO g) (gS g)) (h1 : ∀ c, c ≠ 1 → T.1 c = S.1 c) (h2 : T.2 = S.2) (hq : ∀ q, q < 2792 → T.1 1 q = S.1 1 q) : ∃ S1, X9_rest_l52 zF (iI h) (iI n) (iI j) (0 : Int32) T = some (iI (sB (pDaysM (gO g) (pLf (gR g j)) (gR g j).1.toNat (gS g) n) h), S1) ∧ RM S1 g := by
  have hH := hg.o.1
  have hN := hg.o.2.1
  obtain ⟨m, hm, hm6, c, hc⟩ := pLets_0 hp
  have hlet := pSeen_ok m c hc
  have hlf : ∀ i, i < m → pLf (gR g j) i < rN (gO g) := fun i hi => by
    obtain ⟨s1, l, e1, e2, e3, e4, e5⟩ := hlet i hi
    rw [pLf_eq (by omega) e3]
    exact e2
  rw [hm, Int.toNat_natCast]
  have hr := hR.2.1 j hj
  rw [hm] at hr
  refine zforI (F := fun f i T => X9_rest_l52 f (iI h) (iI n) (iI j) (iI (i : Nat)) T) (n := n) (P := fun d T => sMo T (2792 + 1) (gO g) (pDaysM (gO g) (pLf (gR g j)) m (gS g) d) ∧ (∀ c, c ≠ 1 → T.1 c = S.1 c) ∧ T.2 = S.2 ∧ ∀ q, q < 2792 → T.1 1 q = S.1 1 q) (Q := fun r => ∃ S1, r = some (iI (sB (pDaysM (gO g) (pLf (gR g j)) m (gS g) n) h), S1) ∧ RM S1 g) (fun f d T hd hT => ?_) (fun f T hT => ?_) (zF_gt (by omega)) (a := T) ⟨hs, h1, h2, hq⟩
  · left
    obtain ⟨t1, t2, t3, t4⟩ := hT
    have hok := pDaysM_ok (lf := pLf (gR g j)) (n := m) hg.o hg.ok hlf d
    obtain ⟨T1, e1, e2, e3, e4, e5⟩ := beginDay_M (B := 2792) (by omega) hg.o t1
    have e1' : f_X9_beginDay (2792 : Int32) T = some ((), T1) := e1
    simp (disch := omega) only [X9_rest_l52, X9_rest_b52, iI_le]
    rw [if_neg (by omega), e1']
    simp only [zb_some]
    refine zforI (F := fun f2 i T => X9_rest_l68 (X9_rest_l52 f) f2 (iI h) (iI n) (iI j) (iI d) (iI (i : Nat)) T) (n := m) (P := fun i T => sMo T (2792 + 1) (gO g) (pDelN (gO g) (pLf (gR g j)) (pDyM (pDaysM (gO g) (pLf (gR g j)) m (gS g) d)) i) ∧ (∀ c, c ≠ 1 → T.1 c = S.1 c) ∧ T.2 = S.2 ∧ ∀ q, q < 2792 → T.1 1 q = S.1 1 q) (Q := fun r => ∃ b, (sMo b (2792 + 1) (gO g) (pDaysM (gO g) (pLf (gR g j)) m (gS g) (d + 1)) ∧ (∀ c, c ≠ 1 → b.1 c = S.1 c) ∧ b.2 = S.2 ∧ ∀ q, q < 2792 → b.1 1 q = S.1 1 q) ∧ r = X9_rest_l52 f (iI h) (iI n) (iI j) (iI ((d + 1 : Nat) : Int)) b) (fun f2 i T hi hT => ?_) (fun f2 T hT => ?_) (zF_gt (by omega)) (a := T1) ⟨e2, fun q hq2 => by rw [e3 q hq2, t2 q hq2], by rw [e4, t3], fun q hq2 => by rw [e5 q (by omega), t4 q hq2]⟩
    · left
      obtain ⟨u1, u2, u3, u4⟩ := hT
      obtain ⟨s1, l, f1, f2', f3, f4, f5⟩ := hlet i hi
      simp (disch := omega) only [X9_rest_l68, X9_rest_b68, zi_I, zc_true, zl_e, iI_cln]
      rw [u2 5 (by omega), hr.1]
      simp (disch := omega) only [iI_le]
      rw [if_neg (by omega)]
      simp (disch := omega) only [lit_40, iI_mul, iI_add, zi_I, zc_true, iI_cl]
      rw [show ((40 : Int) * (j : Int) + (i : Int)).toNat = 40 * j + i by omega, u2 6 (by omega), hr.2 i (by omega), f3]
      have hoT : oM T (gO g) := hR.o.cg (by rw [u2 0 (by omega)]) (by rw [u2 0 (by omega)]) (u2 2 (by omega)) (u2 3 (by omega)) (u2 4 (by omega))
      have hok2 := pDelN_ok (lf := pLf (gR g j)) hg.o (pDyM_ok hok) i (fun q hq => hlf q (by omega))
      obtain ⟨T2, g1, g2, g3, g4, g5⟩ := carries_M (B := 2792) (by omega) hg.o hoT u1 hok2 f2'
      have g1' : f_X9_carries (2792 : Int32) (iI ↑l) T = some (iI ↑(pEnd (gO g) (pDelN (gO g) (pLf (gR g j)) (pDyM (pDaysM (gO g) (pLf (gR g j)) m (gS g) d)) i) l), T2) := g1
      rw [g1']
      refine ⟨T2, ⟨?_, fun q hq2 => by rw [g3 q hq2, u2 q hq2], by rw [g4, u3], fun q hq2 => by rw [g5 q (by omega), u4 q hq2]⟩, ?_⟩
      · show sMo T2 (2792 + 1) (gO g) (pDel (gO g) (pDelN (gO g) (pLf (gR g j)) (pDyM (pDaysM (gO g) (pLf (gR g j)) m (gS g) d)) i) (pLf (gR g j) i))
        rw [pLf_eq (by omega) f3]
        exact g2
      · simp only [zb_some, lit_1, iI_add]
        rfl
    · obtain ⟨u1, u2, u3, u4⟩ := hT
      simp (disch := omega) only [X9_rest_l68, X9_rest_b68, zi_I, zc_true, zl_e, iI_cln]
      rw [u2 5 (by omega), hr.1]
      simp (disch := omega) only [iI_le]
      rw [if_pos (by omega), lit_1, iI_add]
      exact ⟨T, ⟨u1, u2, u3, u4⟩, rfl⟩
  · obtain ⟨t1, t2, t3, t4⟩ := hT
    simp (disch := omega) only [X9_rest_l52, X9_rest_b52, iI_le]
    rw [if_pos (by omega)]
    simp (disch := omega) only [lit_2798, iI_add, zi_I, zc_true, zl_e, iI_cl, tn_add, tn_cast]
    rw [show T.1 1 ((2798 : Int).toNat + h) = iI (sB (pDaysM (gO g) (pLf (gR g j)) m (gS g) n) h) from t1.2.2.2.2.2.1 h hh]
    exact ⟨T, rfl, hR.tried hg t2 t3 t4⟩
theorem rest_M (x y z : Int32) : okM (f_X9_rest x y z) (qRest x y z) := by
  intro S g hg h
  unfold qRest
  simp only [f_X9_rest, X9_rest_b0, X9_rest_b27, zl_e]
  cases hx : pIn x (rH (gO g)) with
  | none =>
    simp only [misHouse_f hg.o h.o hx, zb_some, zero_0, if_true]
    exact ⟨S, rfl, h⟩
  | some k =>
    obtain ⟨rfl, hk⟩ := pIn_some hx
    simp only [misHouse_t hg.o h.o hk, zb_some, one_0, if_false]
    cases hy : pIn y 21 with
    | none =>
      simp only [min_in_f (n := 20) (m := 20) rfl hy (by omega), zb_some, zero_0, if_true]
      exact ⟨S, rfl, h⟩
    | some n =>
      obtain ⟨rfl, hn⟩ := pIn_some hy
      simp only [min_in_t (n := 20) (m := 20) rfl (show n ≤ 20 by omega) (by omega), zb_some, one_0, if_false]
      cases hz : pIn z 6 with
      | none =>
        simp only [misRow_f hz, zb_some, zero_0, if_true]
        exact ⟨S, rfl, h⟩
      | some j =>
        obtain ⟨rfl, hj⟩ := pIn_some hz
        have h6 := pLets_6 (gO g) (gR g j) 0
        have hw := noLetters_M (out := 0) hg h hj (by omega)
        have hw' : f_X9_noLetters (iI j) (0 : Int32) S = _ := hw
        simp only [misRow_t hj, zb_some, one_0, if_false, hw']
        by_cases hp : pLets (gO g) (gR g j) 0 = 0
        · rw [if_pos hp, if_pos hp]
          simp only [zb_some, zero_0, if_true, layTried_eq]
          obtain ⟨S1, e1, e2⟩ := rest_loopM hg h hk (show n ≤ 20 by omega) hj hp (tried_0 hg h) (fun c hc => cpb_ne hc) rfl (fun q hq => cpb_out (by omega))
          rw [e1, pDaysM_eq]
          exact ⟨S1, rfl, e2⟩
        · rw [if_neg hp, if_neg hp]
          obtain ⟨S1, e1, e2⟩ := ref_M (f := pLets (gO g) (gR g j) 0) h6 h
          rw [e1]
          simp only [zb_some, m3_0, if_false]
          exact ⟨S1, rfl, e2⟩
