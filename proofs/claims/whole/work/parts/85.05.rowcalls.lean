theorem int_of (x : Int32) : ∃ z : Int, -2147483648 ≤ z ∧ z < 2147483648 ∧ x = iI z := ⟨x.toInt, by have := Int32.le_toInt x; omega, by have := Int32.toInt_lt x; omega, iI_of x⟩
theorem one_0 : ((1 : Int32) = 0) ↔ False := by decide
theorem zero_0 : ((0 : Int32) = 0) ↔ True := by decide
/-! Strip.lieAnew -/
theorem lieAnew_loop {c n : Nat} {v : Int32} (hn : n ≤ lnC (c + 1)) (hl : n ≤ 60) (hl2 : lnC (c + 1) ≤ 60) : ∀ (m i fuel : Nat) (S : zMem), i + m = n → m < fuel → ∃ S1, X7_lieAnew_l21 fuel c (iI n) v (iI i) S = some ((), S1) ∧ (∀ q, q ≠ c + 1 → S1.1 q = S.1 q) ∧ S1.2 = S.2 ∧ (∀ k, i ≤ k → k < n → S1.1 (c + 1) k = v) ∧ ∀ k, k < i → S1.1 (c + 1) k = S.1 (c + 1) k := by
  intro m
  induction m with
  | zero =>
    intro i fuel S hi hf
    obtain ⟨f, rfl⟩ : ∃ f, fuel = f + 1 := ⟨fuel - 1, by omega⟩
    refine ⟨S, ?_, fun _ _ => rfl, rfl, fun k h1 h2 => by omega, fun _ _ => rfl⟩
    simp (disch := omega) only [X7_lieAnew_l21, X7_lieAnew_b21, iI_le]
    rw [if_pos (by omega)]
  | succ m ih =>
    intro i fuel S hi hf
    obtain ⟨f, rfl⟩ : ∃ f, fuel = f + 1 := ⟨fuel - 1, by omega⟩
    obtain ⟨S1, e1, e2, e3, e4, e5⟩ := ih (i + 1) f (zp S (c + 1) (upd (S.1 (c + 1)) i v)) (by omega) (by omega)
    refine ⟨S1, ?_, fun q hq => ?_, by rw [e3]; rfl, fun k h1 h2 => ?_, fun k h1 => ?_⟩
    · simp (disch := omega) only [X7_lieAnew_l21, X7_lieAnew_b21, iI_le]
      rw [if_neg (by omega)]
      simp (disch := omega) only [zi_I, zc_true, zl_e, iI_cln, lit_1, iI_add]
      exact e1
    · rw [e2 q hq, zp_at, if_neg hq]
    · by_cases hk : k = i
      · subst hk
        rw [e5 k (by omega)]
        simp [zp_at, upd_at]
      · exact e4 k (by omega) h2
    · rw [e5 k (by omega)]
      have : k ≠ i := by omega
      simp [zp_at, upd_at, this]
theorem lieAnew_eq {c n : Nat} {v : Int32} (S : zMem) (hn : n ≤ lnC (c + 1)) (hl2 : lnC (c + 1) ≤ 60) : ∃ S1, f_X7_lieAnew c (iI n) v S = some ((), S1) ∧ (∀ q, q ≠ c → q ≠ c + 1 → S1.1 q = S.1 q) ∧ S1.2 = S.2 ∧ S1.1 c 1 = iI n ∧ (∀ k, k < n → S1.1 (c + 1) k = v) := by
  obtain ⟨S1, e1, e2, e3, e4, e5⟩ := lieAnew_loop (v := v) hn (by omega) hl2 n 0 zF (zp S c (upd (S.1 c) 1 (iI n))) (by omega) (zF_gt (by omega))
  refine ⟨S1, ?_, fun q h1 h2 => by rw [e2 q h2, zp_at, if_neg h1], by rw [e3]; rfl, ?_, fun k hk => e4 k (by omega) hk⟩
  · have eL : Int32.ofNat (lnC (c + 1)) = iI (lnC (c + 1) : Nat) := iI_nat _
    simp (disch := omega) only [f_X7_lieAnew, X7_lieAnew_b0, lit_0, iI_lt, eL, iI_le, zl_e]
    rw [if_neg (by omega), if_pos (by omega)]
    exact e1
  · rw [e2 c (by omega)]
    simp [zp_at, upd_at]
/-! makeRow, text of the reference -/
theorem makeRow_loop {r : Nat} (hr : r < 6) : ∀ (m i fuel : Nat) (S : zMem), i + m = 40 → m < fuel → ∃ S1, X9_makeRow_l9 fuel (iI r) (iI i) S = some ((), S1) ∧ (∀ q, q ≠ 6 → S1.1 q = S.1 q) ∧ S1.2 = S.2 ∧ (∀ k, i ≤ k → k < 40 → S1.1 6 (40 * r + k) = 0) ∧ ∀ j, j < 40 * r + i ∨ 40 * r + 40 ≤ j → S1.1 6 j = S.1 6 j := by
  intro m
  induction m with
  | zero =>
    intro i fuel S hi hf
    obtain ⟨f, rfl⟩ : ∃ f, fuel = f + 1 := ⟨fuel - 1, by omega⟩
    refine ⟨S, ?_, fun _ _ => rfl, rfl, fun k h1 h2 => by omega, fun _ _ => rfl⟩
    simp (disch := omega) only [X9_makeRow_l9, X9_makeRow_b9, lit_40, iI_le]
    rw [if_pos (by omega)]
  | succ m ih =>
    intro i fuel S hi hf
    obtain ⟨f, rfl⟩ : ∃ f, fuel = f + 1 := ⟨fuel - 1, by omega⟩
    obtain ⟨S1, e1, e2, e3, e4, e5⟩ := ih (i + 1) f (zp S 6 (upd (S.1 6) (40 * r + i) 0)) (by omega) (by omega)
    refine ⟨S1, ?_, fun q hq => ?_, by rw [e3]; rfl, fun k h1 h2 => ?_, fun k h1 => ?_⟩
    · simp (disch := omega) only [X9_makeRow_l9, X9_makeRow_b9, lit_40, iI_le]
      rw [if_neg (by omega)]
      simp (disch := omega) only [zl_e, iI_mul, iI_add, zi_I, zc_true, iI_cl, lit_1]
      have ej : ((40 : Int) * r + i).toNat = 40 * r + i := by omega
      rw [ej]
      exact e1
    · rw [e2 q hq, zp_at, if_neg hq]
    · by_cases hk : k = i
      · subst hk
        rw [e5 _ (by omega)]
        simp [zp_at, upd_at]
      · exact e4 k (by omega) h2
    · rw [e5 k (by omega)]
      have : k ≠ 40 * r + i := by omega
      simp [zp_at, upd_at, this]
theorem makeRow_eq {r n : Nat} (S : zMem) (hr : r < 6) (hn : n ≤ 40) : ∃ S1, f_X9_makeRow (iI r) (iI n) S = some ((), S1) ∧ (∀ q, q ≠ 5 → q ≠ 6 → S1.1 q = S.1 q) ∧ S1.2 = S.2 ∧ S1.1 5 = upd (S.1 5) r (iI n) ∧ (∀ k, k < 40 → S1.1 6 (40 * r + k) = 0) ∧ ∀ j, j < 40 * r ∨ 40 * r + 40 ≤ j → S1.1 6 j = S.1 6 j := by
  obtain ⟨S1, e1, e2, e3, e4, e5⟩ := makeRow_loop hr 40 0 zF (zp S 5 (upd (S.1 5) r (iI n))) rfl (zF_gt (Nat.le_of_ble_eq_true rfl))
  refine ⟨S1, ?_, fun q h1 h2 => by rw [e2 q h2, zp_at, if_neg h1], by rw [e3]; rfl, ?_, fun k hk => e4 k (by omega) hk, fun j hj => by rw [e5 j (by omega)]; simp [zp_at]⟩
  · simp (disch := omega) only [f_X9_makeRow, X9_makeRow_b0, zi_I, zc_true, zl_e, iI_cln, lit_0]
    exact e1
  · rw [e2 5 (by omega)]
    simp [zp_at]
/-! changes of rows alone -/
def gR_ (g : pSig) (R : pRw) : pSig := (g.1, R, g.2.2)
def gX_ (g : pSig) (R : pRw) : pSig := (g.1, g.2.1, R, g.2.2.2)
theorem RC.rows {S S1 : zMem} {g : pSig} {R : pRw} (h : RC S g) (hw : wC S1 4 6 R) (h0 : S1.1 0 = S.1 0) (h2 : S1.2 = S.2) (hc : ∀ c, 16 ≤ c → S1.1 c = S.1 c) : RC S1 (gR_ g R) := by
  obtain ⟨a1, a2, a3, a4, a5, a6, a7⟩ := h
  exact ⟨a1.cg h0 (by rw [h2]) (hc 67 (by omega)), hw, a3.cg (fun c x y => hc c (by omega)), a4.cg (fun c x y => hc c (by omega)), a5.cg (fun c x y => hc c (by omega)), fun q => by rw [hc 35 (by omega)]; exact a6 q, a7.cg (fun c x y => hc c (by omega))⟩
theorem RC.texts {S S1 : zMem} {g : pSig} {R : pRw} (h : RC S g) (hw : wC S1 16 4 R) (h2 : S1.2 = S.2) (hc : ∀ c, (c < 16 ∨ 24 ≤ c) → S1.1 c = S.1 c) : RC S1 (gX_ g R) := by
  obtain ⟨a1, a2, a3, a4, a5, a6, a7⟩ := h
  exact ⟨a1.cg (hc 0 (by omega)) (by rw [h2]) (hc 67 (by omega)), a2.cg (fun c x y => hc c (by omega)), hw, a4.cg (fun c x y => hc c (by omega)), a5.cg (fun c x y => hc c (by omega)), fun q => by rw [hc 35 (by omega)]; exact a6 q, a7.cg (fun c x y => hc c (by omega))⟩
theorem nM.cg1 {S S1 : zMem} {B : Nat} {o : pRoad} {ds : pDs} (h : nM S B o ds) (e : S1.1 1 = S.1 1) : nM S1 B o ds := by
  unfold nM sMo at *
  rw [e]
  exact h
theorem kM.cg1 {S S1 : zMem} {o : pRoad} {kp : Nat → Option pDs} (h : kM S o kp) (e : S1.1 1 = S.1 1) : kM S1 o kp := by
  unfold kM nM sMo at *
  rw [e]
  exact h
theorem RM.rows {S S1 : zMem} {g : pSig} {R : pRw} (h : RM S g) (hw : wM S1 5 6 40 6 R) (h2 : S1.2 = S.2) (hc : ∀ c, c ≠ 5 → c ≠ 6 → S1.1 c = S.1 c) : RM S1 (gR_ g R) := by
  obtain ⟨a1, a2, a3, a4, a5, a6⟩ := h
  have e0 := hc 0 (by omega) (by omega)
  exact ⟨a1.cg (by rw [e0]) (by rw [e0]) (by rw [h2]) (hc 9 (by omega) (by omega)), hw, a3.cg (hc 7 (by omega) (by omega)) (hc 8 (by omega) (by omega)), a4.cg (by rw [e0]) (by rw [e0]) (hc 2 (by omega) (by omega)) (hc 3 (by omega) (by omega)) (hc 4 (by omega) (by omega)), a5.cg1 (hc 1 (by omega) (by omega)), a6.cg1 (hc 1 (by omega) (by omega))⟩
theorem RM.texts {S S1 : zMem} {g : pSig} {R : pRw} (h : RM S g) (hw : wM S1 7 8 60 4 R) (h2 : S1.2 = S.2) (hc : ∀ c, c ≠ 7 → c ≠ 8 → S1.1 c = S.1 c) : RM S1 (gX_ g R) := by
  obtain ⟨a1, a2, a3, a4, a5, a6⟩ := h
  have e0 := hc 0 (by omega) (by omega)
  exact ⟨a1.cg (by rw [e0]) (by rw [e0]) (by rw [h2]) (hc 9 (by omega) (by omega)), a2.cg (hc 5 (by omega) (by omega)) (hc 6 (by omega) (by omega)), hw, a4.cg (by rw [e0]) (by rw [e0]) (hc 2 (by omega) (by omega)) (hc 3 (by omega) (by omega)) (hc 4 (by omega) (by omega)), a5.cg1 (hc 1 (by omega) (by omega)), a6.cg1 (hc 1 (by omega) (by omega))⟩
/-! row -/
def qRow (x n : Int32) (g : pSig) : Int32 × pSig := match pIn x 6 with
  | none => (-1, g)
  | some j => if 40 < n.toInt then (-1, g) else if n.toInt < 0 then qRef 5 g else (n, gR_ g (va_up (gR g) j (n.toInt, fun _ => 0)))
theorem lnC_row : ∀ j, j < 6 → lnC (4 + 2 * j + 1) = 40 := by decide +kernel
theorem lnC_txt : ∀ j, j < 4 → lnC (16 + 2 * j + 1) = 60 := by decide +kernel
theorem row_wf (x n : Int32) : ∀ g, pWf g → pWf (qRow x n g).2 := by
  intro g h
  unfold qRow
  split
  · exact h
  · next j hj =>
    split
    · exact h
    · split
      · exact h
      · refine ⟨fun r hr => ?_, h.2⟩
        show -1 ≤ (va_up (gR g) j (n.toInt, fun _ => 0) r).1 ∧ (va_up (gR g) j (n.toInt, fun _ => 0) r).1 ≤ 40
        unfold va_up
        split
        · dsimp only; omega
        · exact h.1 r hr
theorem row_C (x n : Int32) : okC (f_X8_row x n) (qRow x n) := by
  intro S g hg h
  unfold qRow
  cases hj : pIn x 6 with
  | none =>
    simp only [X8_row_b13, X8_row_b0, f_X8_row, isRow_f hj, zb_some, zero_0, if_true]
    exact ⟨S, rfl, h⟩
  | some j =>
    obtain ⟨rfl, hj6⟩ := pIn_some hj
    obtain ⟨z, hz1, hz2, rfl⟩ := int_of n
    simp only [X8_row_b13, X8_row_b0, f_X8_row, isRow_t hj6, zb_some, one_0, if_false, iI_toInt hz1 hz2]
    simp (disch := omega) only [lit_40, lit_0, iI_le]
    by_cases h1 : z ≤ 40
    · rw [if_pos h1, if_neg (show ¬ 40 < z by omega)]
      by_cases h2 : 0 ≤ z
      · rw [if_pos h2, if_neg (show ¬ z < 0 by omega)]
        obtain ⟨n, rfl⟩ := Int.eq_ofNat_of_zero_le h2
        obtain ⟨S1, e1, e2, e3, e4, e5⟩ := lieAnew_eq (c := 4 + 2 * j) (n := n) (v := iI 0) S (by rw [lnC_row j hj6]; omega) (by rw [lnC_row j hj6]; omega)
        simp (disch := omega) only [zi_I, zc_true, iI_cln]
        have e1' : f_X7_lieAnew (4 + 2 * j) (iI ↑n) (iI 0) S = some ((), S1) := e1
        rw [e1']
        refine ⟨S1, rfl, h.rows ?_ (e2 0 (by omega) (by omega)) e3 (fun c hc => e2 c (by omega) (by omega))⟩
        intro r hr
        have hr2 := h.2.1 r hr
        by_cases hrj : r = j
        · subst hrj
          refine ⟨by simpa [va_up] using e4, fun k hk => ?_⟩
          simp only [va_up, if_true] at hk ⊢
          rw [e5 k (by omega)]
        · simp only [va_up, if_neg hrj]
          rw [e2 (4 + 2 * r) (by omega) (by omega), e2 (4 + 2 * r + 1) (by omega) (by omega)]
          exact hr2
      · rw [if_neg h2, if_pos (show z < 0 by omega)]
        obtain ⟨S1, e1, e2⟩ := ref_C (f := 5) (by omega) h
        have e1' : f_X8_refuse (5 : Int32) S = some (-3, S1) := e1
        rw [e1']
        exact ⟨S1, rfl, e2⟩
    · rw [if_neg h1, if_pos (show 40 < z by omega)]
      exact ⟨S, rfl, h⟩
