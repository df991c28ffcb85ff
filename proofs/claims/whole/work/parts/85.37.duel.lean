/-! duel -/
theorem rem2I : ∀ t, t < 8 → iI (t : Nat) - iI (t : Nat) / (2 : Int32) * (2 : Int32) = iI ((t % 2 : Nat) : Int) := by decide +kernel
def pCmb (t : Nat) (b : Option Nat) (w : Nat) : Option Nat := match b with
  | none => some w
  | some a => some (if t % 2 = 0 then (if w ≤ a then a else w) else (if a ≤ w then a else w))
def pDv (o : pRoad) : Nat → Nat → pSt → Nat → Nat
  | 0, _, _, _ => 0
  | K + 1, t, s, left => (foldN (fun b l => if left.testBit l then pCmb t b (pEnd o s l + pDv o K (t + 1) (pDel o s l) (pRem left l)) else b) none (rN o)).getD 0
theorem cmb_le {t w M : Nat} {b : Option Nat} (hw : w ≤ M) (hb : ∀ a, b = some a → a ≤ M) : ∀ a, pCmb t b w = some a → a ≤ M := by
  intro a ha
  unfold pCmb at ha
  cases b with
  | none =>
    cases ha
    exact hw
  | some c =>
    have := hb c rfl
    dsimp only at ha
    cases ha
    repeat' split
    all_goals omega
theorem fold_le {t left M N : Nat} {F : Nat → Nat} (hF : ∀ l, l < N → F l ≤ M) : ∀ n, n ≤ N → ∀ a, foldN (fun b l => if left.testBit l then pCmb t b (F l) else b) none n = some a → a ≤ M := by
  intro n
  induction n with
  | zero => exact fun _ a h => by cases h
  | succ n ih =>
    intro hn a h
    have h2 : (if left.testBit n then pCmb t (foldN (fun b l => if left.testBit l then pCmb t b (F l) else b) none n) (F n) else foldN (fun b l => if left.testBit l then pCmb t b (F l) else b) none n) = some a := h
    split at h2
    · exact cmb_le (hF n (by omega)) (ih (by omega)) a h2
    · exact ih (by omega) a h2
theorem fold_some {t left : Nat} {F : Nat → Nat} {l0 : Nat} (h0 : left.testBit l0 = true) : ∀ n, l0 < n → (foldN (fun b l => if left.testBit l then pCmb t b (F l) else b) none n).isSome = true := by
  intro n
  induction n with
  | zero => exact fun h => absurd h (by omega)
  | succ n ih =>
    intro hn
    show (if left.testBit n then pCmb t (foldN (fun b l => if left.testBit l then pCmb t b (F l) else b) none n) (F n) else foldN (fun b l => if left.testBit l then pCmb t b (F l) else b) none n).isSome = true
    by_cases hb : left.testBit n = true
    · rw [if_pos hb]
      unfold pCmb
      split
      · rfl
      · rfl
    · rw [if_neg hb]
      refine ih ?_
      by_cases hln : l0 = n
      · subst hln
        exact absurd h0 hb
      · omega
theorem bit_below {left N : Nat} (h64 : left < 64) (hN : left < 2 ^ N) (h0 : left ≠ 0) : ∃ l, l < N ∧ left.testBit l = true := by
  obtain ⟨l, hl, hb⟩ := bit_some left h64 h0
  refine ⟨l, ?_, hb⟩
  by_cases h : l < N
  · exact h
  · have : left.testBit l = false := Nat.testBit_lt_two_pow (Nat.lt_of_lt_of_le hN (Nat.pow_le_pow_right (by omega) (by omega)))
    rw [this] at hb
    exact absurd hb Bool.false_ne_true
theorem pDv_le {o : pRoad} (ho : pRok o) : ∀ K t s left, pSok o s → pDv o K t s left ≤ 9 * K := by
  intro K
  induction K with
  | zero => exact fun _ _ _ _ => Nat.le_refl _
  | succ K ih =>
    intro t s left hs
    have key := fold_le (t := t) (left := left) (M := 9 * (K + 1)) (N := rN o) (F := fun l => pEnd o s l + pDv o K (t + 1) (pDel o s l) (pRem left l)) (fun l hl => by
      have h1 := pEnd_le ho hs hl
      have h2 := ih (t + 1) (pDel o s l) (pRem left l) (pDel_ok ho hs hl)
      show pEnd o s l + pDv o K (t + 1) (pDel o s l) (pRem left l) ≤ 9 * (K + 1)
      omega) (rN o) (Nat.le_refl _)
    rw [pDv]
    generalize foldN (fun b l => if left.testBit l then pCmb t b (pEnd o s l + pDv o K (t + 1) (pDel o s l) (pRem left l)) else b) none (rN o) = z at key
    cases z with
    | none => exact Nat.zero_le _
    | some a => exact key a rfl
theorem pDv_0 {o : pRoad} : ∀ K t s, pDv o K t s 0 = 0 := by
  intro K t s
  cases K with
  | zero => rfl
  | succ K =>
    rw [pDv, foldN_id (fun i _ => by rw [Nat.zero_testBit]; rfl)]
    rfl
theorem pDv_cap {o : pRoad} (ho : pRok o) : ∀ K t s left, left < 64 → pPop left ≤ K → pDv o K t s left = pDv o (pPop left) t s left := by
  have hN := ho.2.1
  intro K
  induction K with
  | zero =>
    intro t s left h64 h
    rw [show pPop left = 0 by omega]
  | succ K ih =>
    intro t s left h64 h
    rcases Nat.eq_zero_or_pos (pPop left) with h0 | h0
    · have := (pop_0 left h64).mp h0
      subst this
      rw [pDv_0, pDv_0]
    · obtain ⟨j, hj⟩ : ∃ j, pPop left = j + 1 := ⟨pPop left - 1, by omega⟩
      rw [hj, pDv, pDv]
      refine congrArg (fun z : Option Nat => z.getD 0) (foldN_cg (fun b l hl => ?_))
      by_cases hb : left.testBit l = true
      · have hp := rem_pop left h64 l (by omega) hb
        rw [if_pos hb, if_pos hb, ih (t + 1) (pDel o s l) (pRem left l) (rem_64 left h64 l (by omega)) (by omega), show pPop (pRem left l) = j by omega]
      · rw [if_neg hb, if_neg hb]
def pEncC (a : Option Nat) : Int := match a with
  | none => -9
  | some w => (w : Int)
theorem settled_C {o : pRoad} {e turns : Nat} {T : zMem} (ho : pRok o) (hc : oC T o) (h3 : T.1 60 3 = iI e) (hT : turns ≤ 6) : ∀ (K t : Nat) (s : pSt) (left d : Nat), t + K = turns → K < d → pSok o s → sE s = e → left < 64 → left < 2 ^ rN o → f_X3_settled d (iI t) (iI turns) (iI left) (iI (sM s)) (iI (sP s)) T = some (iI (pDv o K t s left), T) := by
  have hN := ho.2.1
  intro K
  induction K with
  | zero =>
    intro t s left d ht hd hk he h64 hlN
    obtain ⟨d, rfl⟩ : ∃ d1, d = d1 + 1 := ⟨d - 1, by omega⟩
    rw [f_X3_settled, X3_settled_b0, X3_settled_b15, if_pos (show iI (turns : Int) ≤ iI (t : Int) from (iI_le (by omega) (by omega) (by omega) (by omega)).mpr (by omega))]
    split
    · rfl
    · rfl
  | succ K ih =>
    intro t s left d ht hd hk he h64 hlN
    obtain ⟨d, rfl⟩ : ∃ d1, d = d1 + 1 := ⟨d - 1, by omega⟩
    rw [f_X3_settled, X3_settled_b0, X3_settled_b15, if_neg (show ¬ iI (turns : Int) ≤ iI (t : Int) from fun q => by have := (iI_le (by omega) (by omega) (by omega) (by omega)).mp q; omega), if_pos (show iI (t : Int) < (6 : Int32) from (iI_lt (b := 6) (by omega) (by omega) (by omega) (by omega)).mpr (by omega))]
    simp only [eqn0 (show left < 2147483648 by omega)]
    by_cases h0 : left = 0
    · rw [if_pos h0]
      subst h0
      rw [pDv_0]
      rfl
    · rw [if_neg h0, zl_e, rem2I t (by omega)]
      simp only [eqn0 (show t % 2 < 2147483648 by omega)]
      have main : ∀ s0 : Int32, s0 = (if t % 2 = 0 then 1 else 0) → X3_settled_b28 (f_X3_settled d) (iI t) (iI turns) (iI left) (iI (sM s)) (iI (sP s)) s0 T = some (iI (pDv o (K + 1) t s left), T) := by
        intro s0 hs0
        obtain ⟨l0, hl0, hb0⟩ := bit_below h64 hlN h0
        have hsome := fold_some (t := t) (F := fun l => pEnd o s l + pDv o K (t + 1) (pDel o s l) (pRem left l)) hb0 (rN o) hl0
        have hle := fold_le (t := t) (left := left) (M := 54) (N := rN o) (F := fun l => pEnd o s l + pDv o K (t + 1) (pDel o s l) (pRem left l)) (fun l hl => by
          have h1 := pEnd_le ho hk hl
          have h2 := pDv_le ho K (t + 1) (pDel o s l) (pRem left l) (pDel_ok ho hk hl)
          show pEnd o s l + pDv o K (t + 1) (pDel o s l) (pRem left l) ≤ 54
          omega)
        rw [X3_settled_b28]
        refine zfor (F := fun f i => X3_settled_l37 (f_X3_settled d) f (iI t) (iI turns) (iI left) (iI (sM s)) (iI (sP s)) s0 (iI (pEncC (foldN (fun b l => if left.testBit l then pCmb t b (pEnd o s l + pDv o K (t + 1) (pDel o s l) (pRem left l)) else b) none i))) (iI (i : Nat)) T) (n := rN o) (fun f l hl => ?_) (fun f => ?_) (zF_gt (by omega))
        · have efold : foldN (fun b l => if left.testBit l then pCmb t b (pEnd o s l + pDv o K (t + 1) (pDel o s l) (pRem left l)) else b) none (l + 1) = if left.testBit l then pCmb t (foldN (fun b l => if left.testBit l then pCmb t b (pEnd o s l + pDv o K (t + 1) (pDel o s l) (pRem left l)) else b) none l) (pEnd o s l + pDv o K (t + 1) (pDel o s l) (pRem left l)) else foldN (fun b l => if left.testBit l then pCmb t b (pEnd o s l + pDv o K (t + 1) (pDel o s l) (pRem left l)) else b) none l := rfl
          have hlel := hle l (by omega)
          rw [efold]
          generalize foldN (fun b l => if left.testBit l then pCmb t b (pEnd o s l + pDv o K (t + 1) (pDel o s l) (pRem left l)) else b) none l = acc at hlel
          simp (disch := omega) only [X3_settled_l37, X3_settled_b37, X3_settled_b49, zl_e, hc.2.1, iI_le]
          rw [if_neg (by omega), bitI left h64 l (by omega)]
          have l1 : iI (l : Int) + (1 : Int32) = iI ((l + 1 : Nat) : Int) := i1n l 1
          by_cases hb : left.testBit l = true
          · rw [if_pos hb, if_pos hb, if_neg (by decide)]
            obtain ⟨g1, g2, g3⟩ := del_args (e := T.1 60 3) ho hc hk hl (by rw [h3, he])
            have hle1 : left ≠ 0 := h0
            have hrlt : pRem left l < 2 ^ rN o := by
              rw [pRem, if_pos hb]
              exact Nat.lt_of_le_of_lt (Nat.sub_le _ _) hlN
            have hrec := ih (t + 1) (pDel o s l) (pRem left l) d (by omega) (by omega) (pDel_ok ho hk hl) he (rem_64 left h64 l (by omega)) hrlt
            have hrec' : f_X3_settled d (iI ((t + 1 : Nat) : Int)) (iI turns) (iI (pRem left l)) (iI (sM (pDel o s l))) (iI (rD o l)) T = some (iI (pDv o K (t + 1) (pDel o s l) (pRem left l)), T) := hrec
            rw [g1]
            simp only [zb_some]
            rw [g2]
            simp only [zb_some]
            rw [g3]
            simp (disch := omega) only [zb_some, zi_I, zc_true, iI_cln, (hc.2.2.2.2.2 l hl).2.1, remI left h64 l (by omega)]
            rw [show iI (t : Int) + (1 : Int32) = iI ((t + 1 : Nat) : Int) from i1n t 1, hrec']
            have h1 := pEnd_le ho hk hl
            have h2 := pDv_le ho K (t + 1) (pDel o s l) (pRem left l) (pDel_ok ho hk hl)
            have hw54 : pEnd o s l + pDv o K (t + 1) (pDel o s l) (pRem left l) ≤ 54 := by omega
            simp only [zb_some, iI_nadd]
            generalize pEnd o s l + pDv o K (t + 1) (pDel o s l) (pRem left l) = w at hw54 ⊢
            cases acc with
            | none =>
              have e9 : iI (pEncC none) = (-9 : Int32) := rfl
              rw [e9, if_pos rfl, X3_settled_b167, X3_settled_b171, zl_e, l1]
              rfl
            | some a =>
              have ha := hlel a rfl
              have e9 : iI (pEncC (some a)) = iI (a : Int) := rfl
              have q9 : ¬ iI (a : Int) = (-9 : Int32) := by
                rw [litm_9, iI_eq (by omega) (by omega) (by omega) (by omega)]
                omega
              have hw2 : w < 1000000 := by omega
              have qa : iI (a : Int) ≤ iI (w : Int) ↔ a ≤ w := by
                rw [iI_le (by omega) (by omega) (by omega) (by omega)]
                omega
              have qb : iI (w : Int) ≤ iI (a : Int) ↔ w ≤ a := by
                rw [iI_le (by omega) (by omega) (by omega) (by omega)]
                omega
              rw [e9, if_neg q9, hs0]
              simp only [qa, qb, X3_settled_b167, X3_settled_b171, zl_e, l1]
              show _ = X3_settled_l37 (f_X3_settled d) f (iI t) (iI turns) (iI left) (iI (sM s)) (iI (sP s)) _ (iI (pEncC (some (if t % 2 = 0 then (if w ≤ a then a else w) else (if a ≤ w then a else w))))) (iI ((l + 1 : Nat) : Int)) T
              by_cases ht2 : t % 2 = 0
              · rw [if_pos ht2, if_neg (by decide), if_pos ht2]
                by_cases hwa : w ≤ a
                · rw [if_pos hwa, if_pos hwa]
                  rfl
                · rw [if_neg hwa, if_neg hwa]
                  rfl
              · rw [if_neg ht2, if_pos rfl, if_neg ht2]
                by_cases hwa : a ≤ w
                · rw [if_pos hwa, if_pos hwa]
                  rfl
                · rw [if_neg hwa, if_neg hwa]
                  rfl
          · rw [if_neg hb, if_neg hb, if_pos rfl, X3_settled_b171, zl_e, l1]
        · simp (disch := omega) only [X3_settled_l37, X3_settled_b37, zl_e, hc.2.1, iI_le]
          rw [if_pos (by omega), pDv]
          obtain ⟨w, hw⟩ := Option.isSome_iff_exists.mp hsome
          rw [show foldN (fun b l => if left.testBit l then pCmb t b (pEnd o s l + pDv o K (t + 1) (pDel o s l) (pRem left l)) else b) none (rN o) = some w from hw]
          rfl
      by_cases ht2 : t % 2 = 0
      · rw [if_pos ht2]
        exact main 1 (by rw [if_pos ht2])
      · rw [if_neg ht2]
        exact main 0 (by rw [if_neg ht2])
def qDuel (x : Int32) (g : pSig) : Int32 × pSig := match pIn x 4 with
  | none => (-1, g)
  | some n => if rN (gO g) = 0 then (-4, g) else qTell (iI (pDv (gO g) (2 * n) 0 (gS g) (pLeft (rN (gO g)) (sC (gS g))))) g
theorem duel_wf (x : Int32) : ∀ g, pWf g → pWf (qDuel x g).2 := by
  intro g h
  unfold qDuel
  cases pIn x 4 with
  | none => exact h
  | some n =>
    dsimp only
    split
    · exact h
    · exact wf_told _ h
theorem duel_C (x : Int32) : okC (f_X8_duel x) (qDuel x) := by
  intro S g hg hR
  have hN := hg.o.2.1
  have hp := pow_7 hN
  have c64 := hg.ok.c64 hg.o
  have l64 := left_64 (rN (gO g)) (by omega) (sC (gS g))
  unfold qDuel
  simp only [f_X8_duel, X8_duel_b0]
  cases hx : pIn x 4 with
  | none =>
    rw [show (3 : Int32) = iI ((3 : Nat) : Int) from rfl, within_f hx (by omega)]
    simp only [zb_some, zero_0, if_true]
    exact ⟨S, rfl, hR⟩
  | some n =>
    obtain ⟨rfl, hn⟩ := pIn_some hx
    rw [show (3 : Int32) = iI ((3 : Nat) : Int) from rfl, within_t (show n ≤ 3 by omega) (by omega)]
    simp only [zb_some, one_0, if_false]
    by_cases h0 : rN (gO g) = 0
    · rw [isPosted_f hR.o (by omega), if_pos h0]
      simp only [zb_some, zero_0, if_true]
      exact ⟨S, rfl, hR⟩
    · rw [isPosted_t hg.o hR.o (by omega), if_neg h0]
      have hs := hR.s
      simp only [zb_some, one_0, if_false, zl_e, lit_2, iI_mul, f_X3_byTurns, X3_byTurns_b0]
      rw [hs.2.2.1]
      obtain ⟨T, w1, w2, w3, w4, w5⟩ := wr S 60 3 (iI (sE (gS g)))
      have hRT : RC T g := hR.cg (fun c hc => w4 c (by omega)) w5
      have hsT := hRT.s
      have e8 : T.1 35 8 = iI (sM (gS g)) := hsT.2.1
      have e10 : T.1 35 10 = iI (sP (gS g)) := hsT.2.2.2.1
      have e11 : T.1 35 11 = iI (sC (gS g)) := hsT.2.2.2.2.1
      rw [w1, allLetters_C hg.o hRT.o]
      simp only [zb_some, e8, e10, e11, leftI _ (show rN (gO g) < 7 by omega) _ c64 hg.ok.2.2.2.1]
      have hlt : pLeft (rN (gO g)) (sC (gS g)) < 2 ^ rN (gO g) := by
        unfold pLeft
        omega
      have hset := settled_C (turns := 2 * n) hg.o hRT.o w2 (by omega) (2 * n) 0 (gS g) (pLeft (rN (gO g)) (sC (gS g))) 8 (by omega) (by omega) hg.ok rfl l64 hlt
      have hset' : f_X3_settled 8 (0 : Int32) (iI (2 * (n : Int))) (iI (pLeft (rN (gO g)) (sC (gS g)))) (iI (sM (gS g))) (iI (sP (gS g))) T = some (iI (pDv (gO g) (2 * n) 0 (gS g) (pLeft (rN (gO g)) (sC (gS g)))), T) := hset
      rw [hset']
      simp only [zb_some]
      obtain ⟨S1, h1, h2, h3⟩ := tell_C (iI (pDv (gO g) (2 * n) 0 (gS g) (pLeft (rN (gO g)) (sC (gS g))))) hRT
      rw [h1]
      exact ⟨S1, rfl, h2⟩
