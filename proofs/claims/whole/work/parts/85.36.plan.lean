/-! plan -/
def pLeft (n c : Nat) : Nat := 2 ^ n - 1 - c
theorem leftI : ∀ n, n < 7 → ∀ c, c < 64 → c < 2 ^ n → iI ((2 ^ n - 1 : Nat) : Int) &&& (iI (c : Nat) ^^^ (-1)) = iI (pLeft n c : Nat) := by decide +kernel
theorem left_64 : ∀ n, n < 7 → ∀ c, pLeft n c < 64 := fun n hn c => by
  have := pow_7 (show n ≤ 6 by omega)
  unfold pLeft
  omega
theorem left_bit : ∀ n, n < 7 → ∀ c, c < 64 → c < 2 ^ n → ∀ l, l < 6 → l < n → (pLeft n c).testBit l = !c.testBit l := by decide +kernel
theorem left_pop : ∀ n, n < 7 → ∀ c, c < 64 → c < 2 ^ n → pPop (pLeft n c) + pPop c = n := by decide +kernel
def pFnd (g : pSig) (h v n : Nat) : Option (List Nat) := dfs (rN (gO g)) n (pLeft (rN (gO g)) (sC (gS g))) (uPln (gO g) h v [] (gS g)) none
def pPl (f : Nat → Option (List Nat)) : Nat → Nat → Option (Nat × List Nat)
  | 0, _ => none
  | m + 1, i => match f i with
    | some q => some (i, q)
    | none => pPl f m (i + 1)
theorem pPl_none {f : Nat → Option (List Nat)} : ∀ m i, (∀ j, j < i + m → f j = none) → pPl f m i = none := by
  intro m
  induction m with
  | zero => exact fun _ _ => rfl
  | succ m ih =>
    intro i h
    rw [pPl, h i (by omega)]
    exact ih (i + 1) (fun j hj => h j (by omega))
theorem pPl_some {f : Nat → Option (List Nat)} {n : Nat} {q : List Nat} (h1 : ∀ j, j < n → f j = none) (h2 : f n = some q) : ∀ m i, i ≤ n → n < i + m → pPl f m i = some (n, q) := by
  intro m
  induction m with
  | zero => exact fun i h h2 => absurd h2 (by omega)
  | succ m ih =>
    intro i hi hm
    rw [pPl]
    by_cases h : i = n
    · subst h
      rw [h2]
    · rw [h1 i (by omega)]
      exact ih (i + 1) (by omega) (by omega)
theorem pFnd_none {g : pSig} {h v n : Nat} (hg : pWf g) (hn : pPop (pLeft (rN (gO g)) (sC (gS g))) < n) : pFnd g h v n = none := by
  have hN := hg.o.2.1
  exact dfs_none hN n _ _ none (left_64 _ (by omega) _) hn
def qPlan (x v r : Int32) (g : pSig) : Int32 × pSig := match pIn x (rH (gO g)), pIn v 21, pIn r 6 with
  | some h, some w, some j => (match pPl (pFnd g h w) 7 0 with
    | some (n, q) => (iI n, gOrd g j q)
    | none => (-9, g))
  | _, _, _ => (-1, g)
theorem plan_len {N : Nat} {o : pRoad} {h v : Nat} (L : Nat) : ∀ m set (pi : List Nat) (s : pSt) (a : Option (List Nat)), pi.length + m ≤ L → (∀ q, a = some q → q.length ≤ L) → ∀ q, dfs N m set (uPln o h v pi s) a = some q → q.length ≤ L := by
  intro m
  induction m with
  | zero =>
    intro set pi s a hL ha q hq
    have hq2 : uPln o h v pi s a [] = some q := hq
    unfold uPln at hq2
    cases a with
    | some b =>
      cases hq2
      exact ha _ rfl
    | none =>
      dsimp only at hq2
      split at hq2
      · cases hq2
        rw [List.append_nil]
        omega
      · cases hq2
  | succ m ih =>
    intro set pi s a hL ha
    have key : ∀ M, ∀ q, foldN (fun b l => if set.testBit l then dfs N m (pRem set l) (fun b p => uPln o h v pi s b (l :: p)) b else b) a M = some q → q.length ≤ L := by
      intro M
      induction M with
      | zero => exact ha
      | succ M ihM =>
        intro q hq
        have hq2 : (if set.testBit M then dfs N m (pRem set M) (fun b p => uPln o h v pi s b (M :: p)) (foldN (fun b l => if set.testBit l then dfs N m (pRem set l) (fun b p => uPln o h v pi s b (l :: p)) b else b) a M) else foldN (fun b l => if set.testBit l then dfs N m (pRem set l) (fun b p => uPln o h v pi s b (l :: p)) b else b) a M) = some q := hq
        split at hq2
        · rw [← dfs_cg m (pRem set M) _ _ _ (fun b p => uPln_cons o h v pi s M b p)] at hq2
          exact ih (pRem set M) (pi ++ [M]) (pDel o s M) _ (by rw [List.length_append]; simp only [List.length_cons, List.length_nil]; omega) ihM q hq2
        · exact ihM q hq2
    exact key N
theorem pPl_in {f : Nat → Option (List Nat)} {n : Nat} {q : List Nat} : ∀ m i, pPl f m i = some (n, q) → f n = some q ∧ n < i + m := by
  intro m
  induction m with
  | zero => exact fun i h => absurd h (by unfold pPl; exact fun h => by cases h)
  | succ m ih =>
    intro i h
    rw [pPl] at h
    cases hf : f i with
    | some b =>
      rw [hf] at h
      cases h
      exact ⟨hf, by omega⟩
    | none =>
      rw [hf] at h
      have := ih (i + 1) h
      exact ⟨this.1, by omega⟩
theorem plan_wf (x v r : Int32) : ∀ g, pWf g → pWf (qPlan x v r g).2 := by
  intro g h
  unfold qPlan
  cases hx : pIn x (rH (gO g)) with
  | none => exact h
  | some k =>
    cases hv : pIn v 21 with
    | none => exact h
    | some w =>
      cases hr : pIn r 6 with
      | none => exact h
      | some j =>
        dsimp only
        cases hp : pPl (pFnd g k w) 7 0 with
        | none => exact h
        | some b =>
          obtain ⟨n, q⟩ := b
          obtain ⟨h1, h2⟩ := pPl_in 7 0 hp
          exact wf_ord h (plan_len 6 n _ _ _ _ (by simp only [List.length_nil]; omega) (fun q hq => by cases hq) q h1)
theorem fewest_C {S : zMem} {g : pSig} {h v : Nat} (hg : pWf g) (hR : RC S g) (hh : h < rH (gO g)) (hv : v ≤ 20) : ∃ S1, RC S1 g ∧ match pPl (pFnd g h v) 7 0 with
    | some (n, q) => f_X3_fewest (iI h) (iI v) S = some (iI n, S1) ∧ q.length = n ∧ n ≤ 6 ∧ lnIs S1 61 q
    | none => f_X3_fewest (iI h) (iI v) S = some (-9, S1) := by
  have hN := hg.o.2.1
  have hH := hg.o.1
  have hp := pow_7 hN
  have hs := hR.s
  have c64 := hg.ok.c64 hg.o
  have l64 := left_64 (rN (gO g)) (by omega) (sC (gS g))
  have n6 := pop_6 _ l64
  simp only [f_X3_fewest, X3_fewest_b0]
  rw [zl_e, hs.2.2.1, zl_e]
  obtain ⟨T1, w1, w2, w3, w4, w5⟩ := wr S 60 3 (iI (sE (gS g)))
  rw [w1, zl_e]
  obtain ⟨T2, x1, x2, x3, x4, x5⟩ := wr T1 60 5 (iI h)
  rw [x1, zl_e]
  obtain ⟨T3, y1, y2, y3, y4, y5⟩ := wr T2 60 6 (iI v)
  have ne : ∀ c, c ≠ 60 → T3.1 c = S.1 c := fun c hc => by rw [y4 c hc, x4 c hc, w4 c hc]
  have hR3 : RC T3 g := hR.cg (fun c hc => ne c (by omega)) (by rw [y5, x5, w5])
  rw [y1, allLetters_C hg.o hR3.o]
  have e11 : T3.1 35 11 = iI (sC (gS g)) := hR3.s.2.2.2.2.1
  simp only [zb_some, zl_e, e11, leftI _ (show rN (gO g) < 7 by omega) _ c64 hg.ok.2.2.2.1]
  rw [bitCount_eq l64]
  simp only [zb_some]
  refine zforI (F := fun f i U => X3_fewest_l44 f (iI h) (iI (pLeft (rN (gO g)) (sC (gS g)))) (iI (pPop (pLeft (rN (gO g)) (sC (gS g))))) (iI (i : Nat)) U) (n := pPop (pLeft (rN (gO g)) (sC (gS g))) + 1) (P := fun i U => (∀ j, j < i → pFnd g h v j = none) ∧ (∀ c, c ≠ 61 → U.1 c = T3.1 c) ∧ U.2 = T3.2) (Q := fun r => ∃ S1, RC S1 g ∧ match pPl (pFnd g h v) 7 0 with
    | some (n, q) => r = some (iI n, S1) ∧ q.length = n ∧ n ≤ 6 ∧ lnIs S1 61 q
    | none => r = some (-9, S1)) (fun f i U hi hU => ?_) (fun f U hU => ?_) (zF_gt (by omega)) (a := T3) ⟨fun j hj => by omega, fun _ _ => rfl, rfl⟩
  · obtain ⟨u1, u2, u3⟩ := hU
    have hRU : RC U g := hR3.cg (fun c hc => u2 c (by omega)) u3
    have hsU := hRU.s
    have e8 : U.1 35 8 = iI (sM (gS g)) := hsU.2.1
    have e10 : U.1 35 10 = iI (sP (gS g)) := hsU.2.2.2.1
    have e36 : U.1 36 h = iI (sB (gS g) h) := hsU.2.2.2.2.2.1 h hh
    simp (disch := omega) only [X3_fewest_l44, X3_fewest_b44, iI_lt]
    rw [if_neg (by omega)]
    simp (disch := omega) only [zl_e, zi_I, zc_true, iI_cln, e8, e10, e36]
    obtain ⟨V, r1, r2, r3, r4, r5⟩ := reaches_C (n := i) (e := sE (gS g)) (h := h) (v := v) hg.o (show i ≤ 6 by omega) hh hv i 0 8 (gS g) (pLeft (rN (gO g)) (sC (gS g))) [] U l64 (by omega) (by omega) hg.ok rfl (by rw [u2 60 (by omega), y3 3 (by omega), x3 3 (by omega)]; exact w2) (by rw [u2 60 (by omega), y3 5 (by omega)]; exact x2) (by rw [u2 60 (by omega)]; exact y2) hRU.o rfl (fun k hk => by omega)
    have hRV : RC V g := hRU.cg (fun c hc => r4 c (by omega)) r5
    have r1' : f_X3_reaches 8 (0 : Int32) (iI i) (iI (pLeft (rN (gO g)) (sC (gS g)))) (iI (sM (gS g))) (iI (sP (gS g))) (iI (sB (gS g) h)) U = some (if (pFnd g h v i).isSome = true then 1 else 0, V) := r1
    rw [r1']
    simp only [zb_some]
    cases hf : pFnd g h v i with
    | none =>
      left
      rw [if_neg (show ¬ (none : Option (List Nat)).isSome = true by decide), if_pos rfl]
      refine ⟨V, ⟨fun j hj => ?_, fun c hc => by rw [r4 c hc, u2 c hc], by rw [r5, u3]⟩, ?_⟩
      · by_cases hji : j = i
        · subst hji
          exact hf
        · exact u1 j (by omega)
      · rw [lit_1, iI_add]
        rfl
    | some q =>
      right
      obtain ⟨q1, q2⟩ := r2 q hf
      rw [pPl_some u1 hf 7 0 (by omega) (by omega), if_pos (show (some q).isSome = true from rfl), if_neg (by decide)]
      exact ⟨V, hRV, rfl, q1, by omega, q2⟩
  · obtain ⟨u1, u2, u3⟩ := hU
    have hRU : RC U g := hR3.cg (fun c hc => u2 c (by omega)) u3
    simp (disch := omega) only [X3_fewest_l44, X3_fewest_b44, iI_lt]
    rw [if_pos (by omega), pPl_none 7 0 (fun j hj => by
      by_cases hjn : j < pPop (pLeft (rN (gO g)) (sC (gS g))) + 1
      · exact u1 j hjn
      · exact pFnd_none hg (by omega))]
    exact ⟨U, hRU, rfl⟩
theorem plan_C (x v r : Int32) : okC (f_X8_plan x v r) (qPlan x v r) := by
  intro S g hg hR
  unfold qPlan
  simp only [f_X8_plan, X8_plan_b0, X8_plan_b24, X8_plan_b66]
  cases hx : pIn x (rH (gO g)) with
  | none =>
    rw [isHouse_f hg.o hR.o hx]
    simp only [zb_some, zero_0, if_true]
    exact ⟨S, rfl, hR⟩
  | some k =>
    obtain ⟨rfl, hk⟩ := pIn_some hx
    rw [isHouse_t hg.o hR.o hk]
    simp only [zb_some, one_0, if_false]
    cases hv : pIn v 21 with
    | none =>
      rw [show (20 : Int32) = iI ((20 : Nat) : Int) from rfl, within_f hv (by omega)]
      simp only [zb_some, zero_0, if_true]
      exact ⟨S, rfl, hR⟩
    | some w =>
      obtain ⟨rfl, hw⟩ := pIn_some hv
      rw [show (20 : Int32) = iI ((20 : Nat) : Int) from rfl, within_t (show w ≤ 20 by omega) (by omega)]
      simp only [zb_some, one_0, if_false]
      cases hr : pIn r 6 with
      | none =>
        simp only [isRow_f hr, zb_some, zero_0, if_true]
        exact ⟨S, rfl, hR⟩
      | some j =>
        obtain ⟨rfl, hj⟩ := pIn_some hr
        simp only [isRow_t hj, zb_some, one_0, if_false]
        obtain ⟨S1, h1, h2⟩ := fewest_C hg hR hk (show w ≤ 20 by omega)
        cases hp : pPl (pFnd g k w) 7 0 with
        | none =>
          rw [hp] at h2
          have h2' : f_X3_fewest (iI k) (iI w) S = some (-9, S1) := h2
          rw [h2']
          simp only [zb_some, if_true]
          exact ⟨S1, rfl, h1⟩
        | some b =>
          obtain ⟨n, q⟩ := b
          rw [hp] at h2
          obtain ⟨a1, a2, a3, a4⟩ := h2
          rw [a1]
          have q9 : ¬ iI (n : Int) = (-9 : Int32) := by
            rw [litm_9, iI_eq (by omega) (by omega) (by omega) (by omega)]
            omega
          simp only [zb_some]
          rw [if_neg q9]
          simp (disch := omega) only [zi_I, zc_true, iI_cln]
          obtain ⟨S2, f1, f2⟩ := lieAs_C (c1 := 61) hg h1 hj rfl (by omega) (by omega) a4
          rw [a2] at f1
          rw [f1]
          exact ⟨S2, rfl, f2⟩
theorem plan_loopM {S : zMem} {g : pSig} {h v j : Nat} (hg : pWf g) (hR : RM S g) (hh : h < rH (gO g)) (hv : v ≤ 20) (hj : j < 6) : ∃ S1, X9_plan_l32 zF (iI h) (iI v) (iI j) (0 : Int32) S = some ((match pPl (pFnd g h v) 7 0 with
    | some (n, q) => (iI n, gOrd g j q)
    | none => (-9, g)).1, S1) ∧ RM S1 (match pPl (pFnd g h v) 7 0 with
    | some (n, q) => (iI n, gOrd g j q)
    | none => ((-9 : Int32), g)).2 := by
  have hN := hg.o.2.1
  have hH := hg.o.1
  have hp := pow_7 hN
  have c64 := hg.ok.c64 hg.o
  have l64 := left_64 (rN (gO g)) (by omega) (sC (gS g))
  have n6 := pop_6 _ l64
  have lp := left_pop (rN (gO g)) (by omega) _ c64 hg.ok.2.2.2.1
  refine zforI (F := fun f i U => X9_plan_l32 f (iI h) (iI v) (iI j) (iI (i : Nat)) U) (n := rN (gO g) + 1) (P := fun i U => (∀ k, k < i → pFnd g h v k = none) ∧ zFl S U) (Q := fun r => ∃ S1, r = some ((match pPl (pFnd g h v) 7 0 with
    | some (n, q) => (iI n, gOrd g j q)
    | none => (-9, g)).1, S1) ∧ RM S1 (match pPl (pFnd g h v) 7 0 with
    | some (n, q) => (iI n, gOrd g j q)
    | none => ((-9 : Int32), g)).2) (fun f2 n U hi hU => ?_) (fun f U hU => ?_) (zF_gt (by omega)) (a := S) ⟨fun j hj => by omega, zFl_0 S⟩
  · obtain ⟨u1, u2⟩ := hU
    have hRU := zFl_R u2 hg hR
    simp (disch := omega) only [X9_plan_l32, X9_plan_b32, zl_e, hRU.o.2.1, iI_lt]
    rw [if_neg (by omega)]
    obtain ⟨T0, t1, t2, t3, t4⟩ := beginLine_M U
    rw [t1]
    simp only [zb_some]
    have hT0 : zFl S T0 := zFl_t u2 ⟨fun c h1 h2 h3 => t3 c h2, t4, fun q hq => by rw [t3 1 (by omega)]⟩
    have hN0 : n = 0 ∨ 0 < rN (gO g) := by omega
    have hpos := pow_pos0 hN0
    have n6' : n ≤ 6 := by omega
    have hfin : foldN (fun b x => if goodL (pLeft (rN (gO g)) (sC (gS g))) (dgL (rN (gO g)) n x) then uPln (gO g) h v [] (gS g) b (dgL (rN (gO g)) n x) else b) none (rN (gO g) ^ n) = pFnd g h v n := dfs_eq _ _ _ _ _
    have h1e : X9_plan_l48 (X9_plan_l32 f2) zF (iI h) (iI v) (iI j) (iI n) (1 : Int32) T0 = X9_plan_l48 (X9_plan_l32 f2) zF (iI h) (iI v) (iI j) (iI n) (if 0 < rN (gO g) ^ n then 1 else 0) T0 := by rw [if_pos hpos]
    rw [h1e]
    refine zforI (F := fun f x V => X9_plan_l48 (X9_plan_l32 f2) f (iI h) (iI v) (iI j) (iI n) (if x < rN (gO g) ^ n then 1 else 0) V) (n := rN (gO g) ^ n) (P := fun x V => foldN (fun b x => if goodL (pLeft (rN (gO g)) (sC (gS g))) (dgL (rN (gO g)) n x) then uPln (gO g) h v [] (gS g) b (dgL (rN (gO g)) n x) else b) none x = none ∧ zFl S V ∧ (x < rN (gO g) ^ n → lnIs V 12 (dgL (rN (gO g)) n x))) (Q := fun r => (∃ b, ((∀ k, k < n + 1 → pFnd g h v k = none) ∧ zFl S b) ∧ r = X9_plan_l32 f2 (iI h) (iI v) (iI j) (iI ((n + 1 : Nat) : Int)) b) ∨ ∃ S1, r = some ((match pPl (pFnd g h v) 7 0 with
    | some (n, q) => (iI n, gOrd g j q)
    | none => (-9, g)).1, S1) ∧ RM S1 (match pPl (pFnd g h v) 7 0 with
    | some (n, q) => (iI n, gOrd g j q)
    | none => ((-9 : Int32), g)).2) (fun f x V hx hV => ?_) (fun f V hV => Or.inl ?_) (zF_gt (pow_it hN n6')) (a := T0) ⟨rfl, hT0, fun _ => zero_line n6' t2 hN0⟩
    · obtain ⟨a1, a2, a3⟩ := hV
      have hRV := zFl_R a2 hg hR
      have hli := a3 hx
      have hlen := dgL_len (rN (gO g)) n x
      have hin := dgL_in hx
      have e5 : V.1 1 5 = iI (sC (gS g)) := hRV.s.2.2.2.2.1
      have hgd := snL_good (out := sC (gS g)) hN (dgL (rN (gO g)) n x) 0 (pLeft (rN (gO g)) (sC (gS g))) hin (by omega) l64 (fun k hk => by
        rw [Nat.zero_or]
        exact left_bit _ (by omega) _ c64 hg.ok.2.2.2.1 k (by omega) hk)
      have hlo := lettersOf_M (out := sC (gS g)) hN hin (by rw [hlen]; exact n6') c64 e5 hli
      rw [hlen] at hlo
      rw [if_pos hx, X9_plan_l48, X9_plan_b48, if_neg (by decide), hlo]
      simp only [zb_some]
      have efold : foldN (fun b x => if goodL (pLeft (rN (gO g)) (sC (gS g))) (dgL (rN (gO g)) n x) then uPln (gO g) h v [] (gS g) b (dgL (rN (gO g)) n x) else b) none (x + 1) = if goodL (pLeft (rN (gO g)) (sC (gS g))) (dgL (rN (gO g)) n x) then uPln (gO g) h v [] (gS g) none (dgL (rN (gO g)) n x) else none := by
        show (if goodL (pLeft (rN (gO g)) (sC (gS g))) (dgL (rN (gO g)) n x) then uPln (gO g) h v [] (gS g) (foldN _ none x) (dgL (rN (gO g)) n x) else foldN _ none x) = _
        rw [a1]
      have nxt : ∀ W : zMem, zFl S W → lnIs W 12 (dgL (rN (gO g)) n x) → foldN (fun b x => if goodL (pLeft (rN (gO g)) (sC (gS g))) (dgL (rN (gO g)) n x) then uPln (gO g) h v [] (gS g) b (dgL (rN (gO g)) n x) else b) none (x + 1) = none → ∃ b, (foldN (fun b x => if goodL (pLeft (rN (gO g)) (sC (gS g))) (dgL (rN (gO g)) n x) then uPln (gO g) h v [] (gS g) b (dgL (rN (gO g)) n x) else b) none (x + 1) = none ∧ zFl S b ∧ (x + 1 < rN (gO g) ^ n → lnIs b 12 (dgL (rN (gO g)) n (x + 1)))) ∧ X9_plan_b99 (X9_plan_l32 f2) (X9_plan_l48 (X9_plan_l32 f2) f) (iI h) (iI v) (iI j) (iI n) W = X9_plan_l48 (X9_plan_l32 f2) f (iI h) (iI v) (iI j) (iI n) (if x + 1 < rN (gO g) ^ n then 1 else 0) b := by
        intro W z1 z2 z3
        have hRW := zFl_R z1 hg hR
        obtain ⟨Y, v1, v2, v3, v4⟩ := nextLine_M hN n6' hx hRW.o.2.1 z2
        refine ⟨Y, ⟨z3, zFl_t z1 ⟨fun c h1 h2 h3 => v3 c h2, v4, fun q hq => by rw [v3 1 (by omega)]⟩, v2⟩, ?_⟩
        rw [X9_plan_b99, v1]
        rfl
      cases hs : pSnL (sC (gS g)) 0 (dgL (rN (gO g)) n x) with
      | none =>
        left
        rw [hs] at hgd
        have hgf : ¬ goodL (pLeft (rN (gO g)) (sC (gS g))) (dgL (rN (gO g)) n x) = true := by
          rw [← hgd]
          exact Bool.false_ne_true
        rw [if_neg hgf] at efold
        dsimp only
        rw [if_pos (show (-1 : Int32) < 0 by decide)]
        exact nxt V a2 hli efold
      | some t2 =>
        have ht := snL_lt hN _ _ _ hin (by omega) hs
        rw [hs] at hgd
        have hgt : goodL (pLeft (rN (gO g)) (sC (gS g))) (dgL (rN (gO g)) n x) = true := hgd.symm
        rw [if_pos hgt] at efold
        dsimp only
        have q0 : ¬ iI (t2 : Int) < (0 : Int32) := by
          rw [lit_0, iI_lt (by omega) (by omega) (by omega) (by omega)]
          omega
        rw [if_neg q0]
        have het := endTogether_M hg hRV hin (by rw [hlen]; exact n6') hli
        rw [hlen] at het
        obtain ⟨W, g1, g2, g3⟩ := het
        rw [g1]
        have hb := (pDelL_ok hg.o (dgL (rN (gO g)) n x) (gS g) hg.ok hin).2.2.2.2.1 h hh
        have e28 : W.1 1 (2798 + h) = iI (sB (pDelL (gO g) (gS g) (dgL (rN (gO g)) n x)) h) := g3.2.2.2.2.2.1 h hh
        have hWli : lnIs W 12 (dgL (rN (gO g)) n x) := fun k hk => by rw [g2.1 12 (by omega)]; exact hli k hk
        have hWf : zFl S W := zFl_t a2 ⟨fun c h1 h2 h3 => g2.1 c h1, g2.2.1, g2.2.2⟩
        simp (disch := omega) only [zb_some, zl_e, show (2798 : Int32) + iI (h : Int) = iI ((2798 + h : Nat) : Int) from i1n 2798 h, zi_I, zc_true, iI_cln, e28, iI_lt]
        have eu : uPln (gO g) h v [] (gS g) none (dgL (rN (gO g)) n x) = if v ≤ sB (pDelL (gO g) (gS g) (dgL (rN (gO g)) n x)) h then some ([] ++ dgL (rN (gO g)) n x) else none := rfl
        by_cases hlt : v ≤ sB (pDelL (gO g) (gS g) (dgL (rN (gO g)) n x)) h
        · right
          right
          rw [if_neg (by omega)]
          rw [eu, if_pos hlt, List.nil_append] at efold
          have hfd : pFnd g h v n = some (dgL (rN (gO g)) n x) := by
            rw [← hfin]
            refine foldN_abs efold (by omega) (fun i => ?_)
            split
            · rfl
            · rfl
          rw [pPl_some u1 hfd 7 0 (by omega) (by omega)]
          have hkl := keepLine_M (li := dgL (rN (gO g)) n x) (by rw [hlen]; exact n6') hWli
          rw [hlen] at hkl
          obtain ⟨Y, y1, y2, y3, y4⟩ := hkl
          rw [y1]
          simp only [zb_some]
          have hY : zFl S Y := zFl_t hWf ⟨fun c h1 h2 h3 => y3 c h3, y4, fun q hq => by rw [y3 1 (by omega)]⟩
          have htl := tellLine_M (r := j) hg (zFl_R hY hg hR) hj (by rw [hlen]; exact n6') y2
          rw [hlen] at htl
          obtain ⟨Z, z1, z2⟩ := htl
          rw [z1]
          exact ⟨Z, rfl, z2⟩
        · left
          rw [if_pos (by omega)]
          rw [eu, if_neg hlt] at efold
          exact nxt W hWf hWli efold
    · obtain ⟨a1, a2, a3⟩ := hV
      rw [hfin] at a1
      rw [if_neg (Nat.lt_irrefl _), X9_plan_l48, X9_plan_b48, if_pos rfl]
      refine ⟨V, ⟨fun k hk => ?_, a2⟩, ?_⟩
      · by_cases hkn : k = n
        · subst hkn
          exact a1
        · exact u1 k (by omega)
      · rw [zl_e, lit_1, iI_add]
        rfl
  · obtain ⟨u1, u2⟩ := hU
    have hRU := zFl_R u2 hg hR
    simp (disch := omega) only [X9_plan_l32, X9_plan_b32, zl_e, hRU.o.2.1, iI_lt]
    rw [if_pos (by omega), pPl_none 7 0 (fun k hk => by
      by_cases hkn : k < rN (gO g) + 1
      · exact u1 k hkn
      · exact pFnd_none hg (by omega))]
    exact ⟨U, rfl, hRU⟩
theorem plan_M (x v r : Int32) : okM (f_X9_plan x v r) (qPlan x v r) := by
  intro S g hg hR
  unfold qPlan
  simp only [f_X9_plan, X9_plan_b0, X9_plan_b27, zl_e]
  cases hx : pIn x (rH (gO g)) with
  | none =>
    rw [misHouse_f hg.o hR.o hx]
    simp only [zb_some, zero_0, if_true]
    exact ⟨S, rfl, hR⟩
  | some k =>
    obtain ⟨rfl, hk⟩ := pIn_some hx
    rw [misHouse_t hg.o hR.o hk]
    simp only [zb_some, one_0, if_false]
    cases hv : pIn v 21 with
    | none =>
      rw [min_in_f (n := 20) (m := 20) (by decide) hv (by omega)]
      simp only [zb_some, zero_0, if_true]
      exact ⟨S, rfl, hR⟩
    | some w =>
      obtain ⟨rfl, hw⟩ := pIn_some hv
      rw [min_in_t (n := 20) (m := 20) (by decide) (show w ≤ 20 by omega) (by omega)]
      simp only [zb_some, one_0, if_false]
      cases hr : pIn r 6 with
      | none =>
        simp only [misRow_f hr, zb_some, zero_0, if_true]
        exact ⟨S, rfl, hR⟩
      | some j =>
        obtain ⟨rfl, hj⟩ := pIn_some hr
        simp only [misRow_t hj, zb_some, one_0, if_false]
        exact plan_loopM hg hR hk (show w ≤ 20 by omega) hj
