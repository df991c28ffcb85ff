/-! longs -/
theorem iJ_add (a b : Int) : iJ a + iJ b = iJ (a + b) := (Int64.ofInt_add a b).symm
theorem iJ_mul (a b : Int) : iJ a * iJ b = iJ (a * b) := (Int64.ofInt_mul a b).symm
theorem iJ_sub (a b : Int) : iJ a - iJ b = iJ (a - b) := (Int64.ofInt_sub a b).symm
theorem iJ_toInt {z : Int} (h1 : -9223372036854775808 ≤ z) (h2 : z < 9223372036854775808) : (iJ z).toInt = z := Int64.toInt_ofInt_of_le h1 h2
theorem iJ_lt {a b : Int} (h1 : -9223372036854775808 ≤ a) (h2 : a < 9223372036854775808) (h3 : -9223372036854775808 ≤ b) (h4 : b < 9223372036854775808) : iJ a < iJ b ↔ a < b := by
  rw [Int64.lt_iff_toInt_lt, iJ_toInt h1 h2, iJ_toInt h3 h4]
theorem iJ_eq {a b : Int} (h1 : -9223372036854775808 ≤ a) (h2 : a < 9223372036854775808) (h3 : -9223372036854775808 ≤ b) (h4 : b < 9223372036854775808) : iJ a = iJ b ↔ a = b := by
  rw [← Int64.toInt_inj, iJ_toInt h1 h2, iJ_toInt h3 h4]
theorem iJ_div {a b : Int} (h1 : 0 ≤ a) (h2 : a < 9223372036854775808) (h3 : 0 < b) (h4 : b < 9223372036854775808) : iJ a / iJ b = iJ (a / b) := by
  have e := Int64.ofInt_tdiv (a := a) (b := b) (by show (-9223372036854775808 : Int) ≤ a; omega) (by show a ≤ (9223372036854775807 : Int); omega) (by show (-9223372036854775808 : Int) ≤ b; omega) (by show b ≤ (9223372036854775807 : Int); omega)
  rw [Int.tdiv_eq_ediv_of_nonneg h1] at e
  exact e.symm
theorem iJ_rem {a b : Int} (h1 : 0 ≤ a) (h2 : a < 9223372036854775808) (h3 : 0 < b) (h4 : b < 9223372036854775808) : iJ a - iJ a / iJ b * iJ b = iJ (a % b) := by
  rw [iJ_div h1 h2 h3 h4, iJ_mul, iJ_sub]
  congr 1
  have := Int.emod_def a b
  rw [Int.mul_comm] at this
  omega
theorem iJ_i (z : Int) : (iJ z).toInt32 = iI z := Int64.toInt32_ofInt
theorem iI_j {z : Int} (h1 : -2147483648 ≤ z) (h2 : z < 2147483648) : (iI z).toInt64 = iJ z := Int32.toInt64_ofInt (by show (-2147483648 : Int) ≤ z; omega) (by show z ≤ (2147483647 : Int); omega)
theorem iI_divn {x d : Nat} (h1 : x < 2147483648) (h2 : 0 < d) (h3 : d < 2147483648) : iI (x : Int) / iI (d : Int) = iI ((x / d : Nat) : Int) := by
  rw [iI_div (by omega) (by omega) (by omega) (by omega)]
  rfl
theorem iI_remn {x d : Nat} (h1 : x < 2147483648) (h2 : 0 < d) (h3 : d < 2147483648) : iI (x : Int) - iI (x : Int) / iI (d : Int) * iI (d : Int) = iI ((x % d : Nat) : Int) := by
  rw [iI_rem (by omega) (by omega) (by omega) (by omega)]
  rfl
theorem iJ_divn {x d : Nat} (h1 : x < 9223372036854775808) (h2 : 0 < d) (h3 : d < 9223372036854775808) : iJ (x : Int) / iJ (d : Int) = iJ ((x / d : Nat) : Int) := by
  rw [iJ_div (by omega) (by omega) (by omega) (by omega)]
  rfl
theorem iJ_remn {x d : Nat} (h1 : x < 9223372036854775808) (h2 : 0 < d) (h3 : d < 9223372036854775808) : iJ (x : Int) - iJ (x : Int) / iJ (d : Int) * iJ (d : Int) = iJ ((x % d : Nat) : Int) := by
  rw [iJ_rem (by omega) (by omega) (by omega) (by omega)]
  rfl
/-! lots -/
def pLot (x : Nat) : Nat := x * 48271 % 2147483647
def pLotD (o : pRoad) (x : Nat) : Nat × Nat := if x / 8 % 8 = 7 then (3, 0) else if x / 8 % 8 = 6 then (2, x / 64 % 3) else if x / 8 % 8 = 5 then (1, 1 + x / 64 % 9) else (0, x % rN o)
def pLots (o : pRoad) : Nat → Nat → pDs
  | 0, _ => []
  | n + 1, x => pLotD o (pLot x) :: pLots o n (pLot x)
theorem pLots_len (o : pRoad) : ∀ n x, (pLots o n x).length = n := by
  intro n
  induction n with
  | zero => exact fun _ => rfl
  | succ n ih =>
    intro x
    show (pLots o n (pLot x)).length + 1 = n + 1
    rw [ih]
theorem pLotD_ok {o : pRoad} {x : Nat} (ho : pRok o) (hN : 0 < rN o) : pDok o (pLotD o x) := by
  unfold pLotD
  split
  · exact pDok_3
  · split
    · exact pDok_2 (by omega)
    · split
      · exact pDok_1 (by omega)
      · exact pDok_0 ho (Nat.mod_lt _ hN)
theorem pLots_ok {o : pRoad} (ho : pRok o) (hN : 0 < rN o) : ∀ n x, ∀ d ∈ pLots o n x, pDok o d := by
  intro n
  induction n with
  | zero => exact fun _ d hd => absurd hd (by simp [pLots])
  | succ n ih =>
    intro x d hd
    rcases List.mem_cons.mp hd with rfl | hd
    · exact pLotD_ok ho hN
    · exact ih _ d hd
theorem pLot_lt (x : Nat) : pLot x < 2147483647 := Nat.mod_lt _ (by omega)
theorem eqn {k n : Nat} (hk : k < 2147483648) (hn : n < 2147483648) : (iI (k : Int) = iI (n : Int)) ↔ k = n := by
  rw [iI_eq (by omega) (by omega) (by omega) (by omega)]
  omega
theorem performLot_C {S : zMem} {g : pSig} {x : Nat} (hg : pWf g) (h : RC S g) (hN : 0 < rN (gO g)) (hl : (gD g).length < 40) (hx : x < 2147483647) : ∃ S1, f_X8_performLot (iI x) S = some ((), S1) ∧ RC S1 (gD_ g (gD g ++ [pLotD (gO g) x])) ∧ pWf (gD_ g (gD g ++ [pLotD (gO g) x])) := by
  have hN6 := hg.o.2.1
  obtain ⟨S1, e1, e2, e3⟩ := perf_RC hg h hl (pLotD_ok (x := x) hg.o hN)
  refine ⟨S1, ?_, e2, e3⟩
  simp only [f_X8_performLot, X8_performLot_b0, X8_performLot_b100, zl_e]
  rw [show (8 : Int32) = iI ((8 : Nat) : Int) from rfl, show (64 : Int32) = iI ((64 : Nat) : Int) from rfl, show (7 : Int32) = iI ((7 : Nat) : Int) from rfl, show (6 : Int32) = iI ((6 : Nat) : Int) from rfl, show (5 : Int32) = iI ((5 : Nat) : Int) from rfl, show (3 : Int32) = iI ((3 : Nat) : Int) from rfl, show (9 : Int32) = iI ((9 : Nat) : Int) from rfl]
  rw [iI_divn (x := x) (by omega) (by omega) (by omega), iI_divn (x := x) (by omega) (by omega) (by omega), iI_remn (x := x / 8) (by omega) (by omega) (by omega), iI_remn (x := x / 64) (d := 3) (by omega) (by omega) (by omega), iI_remn (x := x / 64) (d := 9) (by omega) (by omega) (by omega)]
  have k8 : x / 8 % 8 < 8 := Nat.mod_lt _ (by omega)
  simp (disch := omega) only [eqn]
  unfold pLotD at e1
  by_cases h7 : x / 8 % 8 = 7
  · rw [if_pos h7] at e1 ⊢
    have e1' : f_X4_perform 35 (iI ((3 : Nat) : Int)) (0 : Int32) S = some ((), S1) := e1
    rw [e1']
    rfl
  · rw [if_neg h7] at e1 ⊢
    by_cases h6 : x / 8 % 8 = 6
    · rw [if_pos h6] at e1 ⊢
      have e1' : f_X4_perform 35 (2 : Int32) (iI ((x / 64 % 3 : Nat) : Int)) S = some ((), S1) := e1
      rw [e1']
      rfl
    · rw [if_neg h6] at e1 ⊢
      by_cases h5 : x / 8 % 8 = 5
      · rw [if_pos h5] at e1 ⊢
        have e1' : f_X4_perform 35 (1 : Int32) (1 + iI ((x / 64 % 9 : Nat) : Int)) S = some ((), S1) := by
          rw [show (1 : Int32) + iI ((x / 64 % 9 : Nat) : Int) = iI ((1 + x / 64 % 9 : Nat) : Int) by rw [lit_1, iI_add]; rfl]
          exact e1
        rw [e1']
        rfl
      · rw [if_neg h5] at e1 ⊢
        rw [h.o.2.1, show (0 : Int32) = iI ((0 : Nat) : Int) from rfl, iI_remn (x := x) (d := rN (gO g)) (by omega) (by omega) (by omega)]
        simp (disch := omega) only [eqn, iI_le]
        rw [if_neg (by omega), show decide (¬ rN (gO g) = 0) = true by simp; omega, zc_true]
        have e1' : f_X4_perform 35 (iI ((0 : Nat) : Int)) (iI ((x % rN (gO g) : Nat) : Int)) S = some ((), S1) := e1
        rw [e1']
        rfl
theorem lot_step {x : Nat} (hx : x < 2147483647) : iJ (x : Int) * (48271 : Int64) - iJ (x : Int) * (48271 : Int64) / (2147483647 : Int64) * (2147483647 : Int64) = iJ (pLot x : Nat) := by
  rw [show (48271 : Int64) = iJ ((48271 : Nat) : Int) from rfl, show (2147483647 : Int64) = iJ ((2147483647 : Nat) : Int) from rfl, iJ_mul, show (x : Int) * ((48271 : Nat) : Int) = ((x * 48271 : Nat) : Int) from rfl, iJ_remn (by omega) (by omega) (by omega)]
  rfl
def qLots (x y : Int32) (g : pSig) : Int32 × pSig :=
  if 1 ≤ x.toInt ∧ x.toInt ≤ 20 ∧ 1 ≤ y.toInt ∧ y.toInt ≤ 2147483646 then (if rN (gO g) = 0 then (-4, g) else if 40 < ((gD g).length : Int) + x.toInt then (-2, g) else (iI (pSum (sB (pRun (gO g) (gD g ++ pLots (gO g) x.toInt.toNat y.toInt.toNat))) (rH (gO g))), gD_ g (gD g ++ pLots (gO g) x.toInt.toNat y.toInt.toNat))) else (-1, g)
theorem lots_wf (x y : Int32) : ∀ g, pWf g → pWf (qLots x y g).2 := by
  intro g h
  unfold qLots
  split
  · split
    · exact h
    · split
      · exact h
      · next hN h40 =>
        refine wf_D h ⟨?_, fun d hd => ?_⟩
        · rw [List.length_append, pLots_len]
          omega
        · rcases List.mem_append.mp hd with hd | hd
          · exact h.2.2.2.1.2 d hd
          · exact pLots_ok h.o (by omega) _ _ d hd
  · exact h
theorem lots_loop {S : zMem} {g : pSig} {n y : Nat} (hg : pWf g) (h : RC S g) (hN : 0 < rN (gO g)) (hn : n ≤ 20) (hl : (gD g).length + n ≤ 40) (hy : y < 2147483647) : ∃ S1, X8_lots_l57 zF (iI n) (iJ y) (0 : Int32) S = some (iI (pSum (sB (pRun (gO g) (gD g ++ pLots (gO g) n y))) (rH (gO g))), S1) ∧ RC S1 (gD_ g (gD g ++ pLots (gO g) n y)) := by
  refine zforI (F := fun f i (a : zMem × Nat × pDs) => X8_lots_l57 f (iI n) (iJ (a.2.1 : Nat)) (iI (i : Nat)) a.1) (n := n) (P := fun i a => RC a.1 (gD_ g a.2.2) ∧ pWf (gD_ g a.2.2) ∧ a.2.1 < 2147483647 ∧ gD g ++ pLots (gO g) n y = a.2.2 ++ pLots (gO g) (n - i) a.2.1 ∧ a.2.2.length = (gD g).length + i) (Q := fun r => ∃ S1, r = some (iI (pSum (sB (pRun (gO g) (gD g ++ pLots (gO g) n y))) (rH (gO g))), S1) ∧ RC S1 (gD_ g (gD g ++ pLots (gO g) n y))) (fun f i a hi ha => ?_) (fun f a ha => ?_) (zF_gt (by omega)) (a := (S, y, gD g)) ⟨h, hg, hy, rfl, rfl⟩
  · left
    obtain ⟨T, x, ds⟩ := a
    obtain ⟨a1, a2, a3, a4, a5⟩ := ha
    dsimp only at a1 a2 a3 a4 a5
    have hlt : ds.length < 40 := by omega
    obtain ⟨S1, e1, e2, e3⟩ := performLot_C (x := pLot x) a2 a1 hN hlt (pLot_lt x)
    refine ⟨(S1, pLot x, ds ++ [pLotD (gO g) (pLot x)]), ⟨e2, e3, pLot_lt x, ?_, ?_⟩, ?_⟩
    · dsimp only
      rw [a4, show n - i = (n - (i + 1)) + 1 by omega, List.append_assoc]
      rfl
    · dsimp only
      rw [List.length_append]
      simp only [List.length_cons, List.length_nil]
      omega
    · simp (disch := omega) only [X8_lots_l57, X8_lots_b57, iI_le]
      rw [if_neg (by omega)]
      simp only [zl_e, lot_step a3, iJ_i, e1, zb_some, lit_1, iI_add]
      rfl
  · obtain ⟨T, x, ds⟩ := a
    obtain ⟨a1, a2, a3, a4, a5⟩ := ha
    dsimp only at a1 a2 a3 a4 a5
    rw [show n - n = 0 by omega] at a4
    have e : gD g ++ pLots (gO g) n y = ds := by rw [a4]; exact List.append_nil ds
    rw [e]
    simp (disch := omega) only [X8_lots_l57, X8_lots_b57, iI_le]
    rw [if_pos (by omega), allBonds_C a2.o a1.o a1.s]
    exact ⟨T, rfl, a1⟩
theorem lots_C (x y : Int32) : okC (f_X8_lots x y) (qLots x y) := by
  intro S g hg h
  obtain ⟨z, z1, z2, rfl⟩ := int_of x
  obtain ⟨w, w1, w2, rfl⟩ := int_of y
  have h40 := hg.2.2.2.1.1
  unfold qLots
  rw [iI_toInt z1 z2, iI_toInt w1 w2]
  simp only [f_X8_lots, X8_lots_b0, X8_lots_b25, zl_e, iI_j w1 w2, lg_cmp_lt]
  rw [show (2147483647 : Int64) = iJ 2147483647 from rfl]
  simp (disch := omega) only [lit_1, lit_20, iI_lt, iJ_lt]
  by_cases hc : 1 ≤ z ∧ z ≤ 20 ∧ 1 ≤ w ∧ w ≤ 2147483646
  · rw [if_pos hc, if_neg (by omega), if_neg (by omega), if_neg (by omega), if_pos (by omega)]
    by_cases hN : 0 < rN (gO g)
    · rw [if_neg (show ¬ rN (gO g) = 0 by omega)]
      simp (disch := omega) only [isPosted_t hg.o h.o hN, zb_some, show ¬ ((1 : Int32) = 0) by decide, if_false, spare_eq h, iI_le]
      by_cases h4 : 40 < ((gD g).length : Int) + z
      · rw [if_pos h4, if_neg (by omega)]
        exact ⟨S, rfl, h⟩
      · rw [if_neg h4, if_pos (by omega)]
        obtain ⟨n, rfl⟩ := Int.eq_ofNat_of_zero_le (show 0 ≤ z by omega)
        obtain ⟨m, rfl⟩ := Int.eq_ofNat_of_zero_le (show 0 ≤ w by omega)
        exact lots_loop hg h hN (by omega) (by omega) (by omega)
    · rw [if_pos (show rN (gO g) = 0 by omega)]
      simp only [isPosted_f h.o hN, zb_some, zero_0, if_true]
      exact ⟨S, rfl, h⟩
  · rw [if_neg hc]
    refine ⟨S, ?_, h⟩
    by_cases h1 : z < 1
    · rw [if_pos h1]
    · rw [if_neg h1]
      by_cases h2 : 20 < z
      · rw [if_pos h2]
      · rw [if_neg h2]
        by_cases h3 : w < 1
        · rw [if_pos h3]
        · rw [if_neg h3, if_neg (by omega)]
theorem byLot_M {S T : zMem} {g : pSig} {x : Nat} (hg : pWf g) (h : RM S g) (hN : 0 < rN (gO g)) (hl : (gD g).length < 40) (hx : x < 2147483647) (hT : T.1 1 0 = iI (((gD g).length : Int) + 1) ∧ sMo T 1 (gO g) (gS g) ∧ (∀ i, i < (gD g).length + 1 → sMo T (18 + 17 * i) (gO g) (pRun (gO g) ((gD g).take i))) ∧ (∀ q, q ≠ 1 → T.1 q = S.1 q) ∧ T.2 = S.2 ∧ (∀ q, 698 ≤ q → T.1 1 q = S.1 1 q)) : ∃ S1, f_X9_byLot (iJ x) T = some ((), S1) ∧ RM S1 (gD_ g (gD g ++ [pLotD (gO g) x])) := by
  have hN6 := hg.o.2.1
  have hoT : oM T (gO g) := h.o.cg (by rw [hT.2.2.2.1 0 (by omega)]) (by rw [hT.2.2.2.1 0 (by omega)]) (hT.2.2.2.1 2 (by omega)) (hT.2.2.2.1 3 (by omega)) (hT.2.2.2.1 4 (by omega))
  have c64 := hg.ok.c64 hg.o
  have k8 : x / 8 % 8 < 8 := Nat.mod_lt _ (by omega)
  have hM := hg.ok.1
  obtain ⟨a1, a2, a3, a4, a5, a6, a7⟩ := id hT.2.1
  simp only [f_X9_byLot, X9_byLot_b0, X9_byLot_b119, zl_e]
  rw [hoT.2.1, iI_j (by omega) (by omega), show (8 : Int64) = iJ ((8 : Nat) : Int) from rfl, show (64 : Int64) = iJ ((64 : Nat) : Int) from rfl, show (9 : Int64) = iJ ((9 : Nat) : Int) from rfl, show (3 : Int64) = iJ ((3 : Nat) : Int) from rfl, show (0 : Int64) = iJ ((0 : Nat) : Int) from rfl]
  rw [iJ_divn (x := x) (d := 8) (by omega) (by omega) (by omega), iJ_divn (x := x) (d := 64) (by omega) (by omega) (by omega), iJ_remn (x := x / 8) (by omega) (by omega) (by omega), iJ_remn (x := x / 64) (d := 3) (by omega) (by omega) (by omega), iJ_remn (x := x / 64) (d := 9) (by omega) (by omega) (by omega), iJ_remn (x := x) (d := rN (gO g)) (by omega) (by omega) (by omega)]
  have enz : decide (¬ iJ (rN (gO g) : Int) = iJ ((0 : Nat) : Int)) = true := by
    rw [decide_eq_true_iff, iJ_eq (by omega) (by omega) (by omega) (by omega)]
    omega
  rw [enz, zc_true]
  simp only [iJ_i]
  rw [show (6 : Int32) = iI ((6 : Nat) : Int) from rfl, show (5 : Int32) = iI ((5 : Nat) : Int) from rfl]
  simp (disch := omega) only [eqn, iI_le]
  unfold pLotD
  by_cases h5 : 5 ≤ x / 8 % 8
  · rw [if_pos (by omega)]
    by_cases e5 : x / 8 % 8 = 5
    · have r2 : T.1 1 2 = iI (sM (gS g)) := a2
      rw [if_pos e5, if_neg (by omega), if_neg (by omega), if_pos e5]
      simp only [z2, n2, zc_true, r2, lit_1, iI_add, lit_9]
      rw [X9_kept_eq (by omega) (by omega) (by omega) (by omega), show max 0 (min 9 ((sM (gS g) : Int) + 1 + ((x / 64 % 9 : Nat) : Int))) = ((min 9 (sM (gS g) + (1 + x / 64 % 9)) : Nat) : Int) by omega]
      simp only [zb_some]
      obtain ⟨T1, w1, w2, w3, w4, w5⟩ := wr T 1 2 (iI ((min 9 (sM (gS g) + (1 + x / 64 % 9)) : Nat) : Int))
      rw [w1]
      exact ⟨T1, rfl, deed_M hg h hl hT (show sMo T1 1 (gO g) (min 9 (sM (gS g) + (1 + x / 64 % 9)), (gS g).2) from ⟨(w3 _ (by omega)).trans a1, w2, (w3 _ (by omega)).trans a3, (w3 _ (by omega)).trans a4, (w3 _ (by omega)).trans a5, fun q hq => (w3 _ (by omega)).trans (a6 q hq), fun q hq hb => (w3 _ (by omega)).trans (a7 q hq hb)⟩) w4 w5 (fun q hq => w3 q (by omega))⟩
    · rw [if_neg e5]
      by_cases e6 : x / 8 % 8 = 6
      · rw [if_pos e6, if_neg (by omega), if_pos e6]
        simp only [z3, n3, zc_true]
        obtain ⟨T1, w1, w2, w3, w4, w5⟩ := wr T 1 3 (iI ((x / 64 % 3 : Nat) : Int))
        rw [w1]
        exact ⟨T1, rfl, deed_M hg h hl hT (show sMo T1 1 (gO g) (sM (gS g), x / 64 % 3, (gS g).2.2) from ⟨(w3 _ (by omega)).trans a1, (w3 _ (by omega)).trans a2, w2, (w3 _ (by omega)).trans a4, (w3 _ (by omega)).trans a5, fun q hq => (w3 _ (by omega)).trans (a6 q hq), fun q hq hb => (w3 _ (by omega)).trans (a7 q hq hb)⟩) w4 w5 (fun q hq => w3 q (by omega))⟩
      · rw [if_neg e6, if_pos (by omega)]
        obtain ⟨S1, e1, e2, e3, e4, e5⟩ := beginDay_M (B := 0) (by omega) hg.o hT.2.1
        have e1' : f_X9_beginDay (0 : Int32) T = some ((), S1) := e1
        rw [e1']
        exact ⟨S1, rfl, deed_M (d := (3, 0)) hg h hl hT e2 e3 e4 (fun q hq => e5 q (by omega))⟩
  · have hm := Nat.mod_lt x hN
    have r5 : T.1 1 5 = iI (sC (gS g)) := a5
    rw [if_neg (by omega), if_neg (by omega), if_neg (by omega), if_neg (by omega)]
    simp only [show zi (iI ((5 : Nat) : Int)) 2810 = true from rfl, show (iI ((5 : Nat) : Int)).toNatClampNeg = 5 from rfl, zc_true, r5, mhas_eq c64 (show x % rN (gO g) < 6 by omega), zb_some]
    cases hb : (sC (gS g)).testBit (x % rN (gO g)) with
    | true =>
      simp only [if_true, one_0, if_false]
      exact ⟨T, rfl, deed_M hg h hl hT (by rw [pAct_0t hb]; exact hT.2.1) (fun _ _ => rfl) rfl (fun _ _ => rfl)⟩
    | false =>
      simp only [if_neg Bool.false_ne_true, zero_0, if_true]
      obtain ⟨S1, e1, e2, e3, e4, e5⟩ := carries_M (B := 0) (by omega) hg.o hoT hT.2.1 hg.ok hm
      have e1' : f_X9_carries (0 : Int32) (iI ((x % rN (gO g) : Nat) : Int)) T = some (iI ↑(pEnd (gO g) (gS g) (x % rN (gO g))), S1) := e1
      rw [e1']
      exact ⟨S1, rfl, deed_M hg h hl hT (by rw [pAct_0 hb]; exact e2) e3 e4 (fun q hq => e5 q (by omega))⟩
theorem lots_loopM {S : zMem} {g : pSig} {n y : Nat} (hg : pWf g) (h : RM S g) (hN : 0 < rN (gO g)) (hn : n ≤ 20) (hl : (gD g).length + n ≤ 40) (hy : y < 2147483647) : ∃ S1, X9_lots_l58 zF (iI n) (iJ y) (0 : Int32) S = some (iI (pSum (sB (pRun (gO g) (gD g ++ pLots (gO g) n y))) (rH (gO g))), S1) ∧ RM S1 (gD_ g (gD g ++ pLots (gO g) n y)) := by
  refine zforI (F := fun f i (a : zMem × Nat × pDs) => X9_lots_l58 f (iI n) (iJ (a.2.1 : Nat)) (iI (i : Nat)) a.1) (n := n) (P := fun i a => RM a.1 (gD_ g a.2.2) ∧ pWf (gD_ g a.2.2) ∧ a.2.1 < 2147483647 ∧ gD g ++ pLots (gO g) n y = a.2.2 ++ pLots (gO g) (n - i) a.2.1 ∧ a.2.2.length = (gD g).length + i) (Q := fun r => ∃ S1, r = some (iI (pSum (sB (pRun (gO g) (gD g ++ pLots (gO g) n y))) (rH (gO g))), S1) ∧ RM S1 (gD_ g (gD g ++ pLots (gO g) n y))) (fun f i a hi ha => ?_) (fun f a ha => ?_) (zF_gt (by omega)) (a := (S, y, gD g)) ⟨h, hg, hy, rfl, rfl⟩
  · left
    obtain ⟨T, x, ds⟩ := a
    obtain ⟨a1, a2, a3, a4, a5⟩ := ha
    dsimp only at a1 a2 a3 a4 a5
    have hlt : ds.length < 40 := by omega
    obtain ⟨T1, k1, kT⟩ := keepPast_M a2.o a1.n hlt
    obtain ⟨S1, e1, e2⟩ := byLot_M (x := pLot x) a2 a1 hN hlt (pLot_lt x) kT
    refine ⟨(S1, pLot x, ds ++ [pLotD (gO g) (pLot x)]), ⟨e2, wf_D hg (ok_snoc a2.2.2.2.1 hlt (pLotD_ok hg.o hN)), pLot_lt x, ?_, ?_⟩, ?_⟩
    · dsimp only
      rw [a4, show n - i = (n - (i + 1)) + 1 by omega, List.append_assoc]
      rfl
    · dsimp only
      rw [List.length_append]
      simp only [List.length_cons, List.length_nil]
      omega
    · simp (disch := omega) only [X9_lots_l58, X9_lots_b58, iI_le]
      rw [if_neg (by omega)]
      simp only [zl_e, lot_step a3, k1, zb_some]
      rw [e1]
      simp only [zb_some, lit_1, iI_add]
      rfl
  · obtain ⟨T, x, ds⟩ := a
    obtain ⟨a1, a2, a3, a4, a5⟩ := ha
    dsimp only at a1 a2 a3 a4 a5
    rw [show n - n = 0 by omega] at a4
    have e : gD g ++ pLots (gO g) n y = ds := by rw [a4]; exact List.append_nil ds
    rw [e]
    simp (disch := omega) only [X9_lots_l58, X9_lots_b58, iI_le]
    rw [if_pos (by omega), allBonds_M a2.o a1.o a1.s]
    exact ⟨T, rfl, a1⟩
theorem lots_M (x y : Int32) : okM (f_X9_lots x y) (qLots x y) := by
  intro S g hg h
  obtain ⟨z, z1, z2, rfl⟩ := int_of x
  obtain ⟨w, w1, w2, rfl⟩ := int_of y
  have h40 := hg.2.2.2.1.1
  unfold qLots
  simp only [f_X9_lots, X9_lots_b0, X9_lots_b24, zl_e]
  rw [show (1 : Int64) = (iI 1).toInt64 from rfl, show (20 : Int64) = (iI 20).toInt64 from rfl, show (2147483646 : Int64) = (iI 2147483646).toInt64 from rfl, X9_in_eq]
  simp only [zb_some, X9_in_eq, b01_0]
  rw [iI_toInt z1 z2, iI_toInt w1 w2, iI_toInt (z := 1) (by omega) (by omega), iI_toInt (z := 20) (by omega) (by omega), iI_toInt (z := 2147483646) (by omega) (by omega)]
  simp only [mposted hg h, z0, n0, zc_true, h.n.1, iI_add]
  by_cases hc : 1 ≤ z ∧ z ≤ 20 ∧ 1 ≤ w ∧ w ≤ 2147483646
  · rw [if_pos hc, if_neg (by omega), if_neg (by omega)]
    by_cases hN : rN (gO g) = 0
    · rw [if_pos hN, if_pos hN]
      exact ⟨S, rfl, h⟩
    · rw [if_neg hN, if_neg hN]
      simp (disch := omega) only [lit_40, iI_le]
      by_cases h4 : 40 < ((gD g).length : Int) + z
      · rw [if_pos h4, if_neg (by omega)]
        exact ⟨S, rfl, h⟩
      · rw [if_neg h4, if_pos (by omega), iI_j w1 w2]
        obtain ⟨n, rfl⟩ := Int.eq_ofNat_of_zero_le (show 0 ≤ z by omega)
        obtain ⟨m, rfl⟩ := Int.eq_ofNat_of_zero_le (show 0 ≤ w by omega)
        exact lots_loopM hg h (by omega) (by omega) (by omega) (by omega)
  · rw [if_neg hc]
    refine ⟨S, ?_, h⟩
    by_cases h1 : 1 ≤ z ∧ z ≤ 20
    · rw [if_neg (fun q => q h1), if_pos (by omega)]
    · rw [if_pos h1]
