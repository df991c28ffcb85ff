/-! the greatest common divisor, by steps -/
theorem gcd_st {x y : Nat} : Nat.gcd x y = Nat.gcd y (x % y) := by
  rw [Nat.gcd_comm x y, Nat.gcd_rec y x, Nat.gcd_comm]
theorem iJ_z {y : Nat} (h : y < 4611686018427387904) : (iJ (y : Int) = (0 : Int64)) ↔ y = 0 := by
  rw [show (0 : Int64) = iJ 0 from rfl, iJ_eq (by omega) (by omega) (by omega) (by omega)]
  omega
theorem iJ_nz {y : Nat} (h : y < 4611686018427387904) (h0 : y ≠ 0) : decide (¬ iJ (y : Int) = (0 : Int64)) = true := by
  rw [decide_eq_true_iff, iJ_z h]
  exact h0
theorem half_mod {x y : Nat} (h : x % y ≠ 0) (hy : y ≠ 0) : 2 * (y % (x % y)) < y := by
  have h1 : x % y < y := Nat.mod_lt _ (by omega)
  have h2 : y % (x % y) < x % y := Nat.mod_lt _ (by omega)
  have h3 := Nat.div_add_mod y (x % y)
  have h4 : 1 ≤ y / (x % y) := (Nat.le_div_iff_mul_le (by omega)).mpr (by omega)
  have h5 : (x % y) * 1 ≤ (x % y) * (y / (x % y)) := Nat.mul_le_mul_left _ h4
  omega
theorem gcd_C (S : zMem) : ∀ (k x y i f : Nat), y < 2 ^ k → x < 4611686018427387904 → y < 4611686018427387904 → i + 2 * k + 1 ≤ 100 → 2 * k + 1 < f → X8_commonDivisor_l9 f (iJ x) (iJ y) (iI i) S = some (iJ (Nat.gcd x y), S) := by
  intro k
  induction k with
  | zero =>
    intro x y i f hy hx _ hi hf
    have h0 : y = 0 := by
      have : (2 : Nat) ^ 0 = 1 := rfl
      omega
    subst h0
    obtain ⟨f, rfl⟩ : ∃ f1, f = f1 + 1 := ⟨f - 1, by omega⟩
    simp only [X8_commonDivisor_l9, X8_commonDivisor_b9, X8_commonDivisor_b44, zl_e, lg_cmp_eq, Nat.gcd_zero_right]
    split
    · rfl
    · rw [if_pos (show iJ ((0 : Nat) : Int) = 0 from rfl)]
  | succ k ih =>
    intro x y i f hy hx hy2 hi hf
    have hp : 2 ^ (k + 1) = 2 * 2 ^ k := by rw [Nat.pow_succ, Nat.mul_comm]
    obtain ⟨f, rfl⟩ : ∃ f1, f = f1 + 1 := ⟨f - 1, by omega⟩
    have e100 : ∀ q : Nat, q < 100 → ((100 : Int32) ≤ iI (q : Int) ↔ False) := fun q hq => by
      rw [show (100 : Int32) = iI 100 from rfl, iI_le (by omega) (by omega) (by omega) (by omega)]
      exact ⟨fun h => by omega, False.elim⟩
    simp only [X8_commonDivisor_l9, X8_commonDivisor_b9, X8_commonDivisor_b44, zl_e, lg_cmp_eq, e100 i (by omega), if_false, iJ_z hy2]
    by_cases h0 : y = 0
    · rw [if_pos h0, h0, Nat.gcd_zero_right]
    · rw [if_neg h0, decide_eq_true (show ¬ y = 0 from h0), zc_true, iJ_remn (by omega) (by omega) (by omega), lit_1, iI_add]
      have hm : x % y < y := Nat.mod_lt _ (by omega)
      rw [gcd_st]
      obtain ⟨f, rfl⟩ : ∃ f1, f = f1 + 1 := ⟨f - 1, by omega⟩
      have eI : iI ((i : Int) + 1) = iI ((i + 1 : Nat) : Int) := rfl
      rw [eI]
      simp only [X8_commonDivisor_l9, X8_commonDivisor_b9, X8_commonDivisor_b44, zl_e, lg_cmp_eq, e100 (i + 1) (by omega), if_false, iJ_z (show x % y < 4611686018427387904 by omega)]
      by_cases h1 : x % y = 0
      · rw [if_pos h1, h1, Nat.gcd_zero_right]
      · rw [if_neg h1, decide_eq_true (show ¬ x % y = 0 from h1), zc_true, iJ_remn (by omega) (by omega) (by omega), lit_1, iI_add, gcd_st]
        have hh := half_mod h1 h0
        exact ih (x % y) (y % (x % y)) (i + 1 + 1) f (by omega) (by omega) (by omega) (by omega) (by omega)
theorem gcd_M {S : zMem} {a b : Int64} {r : Option (Unit × zMem)} : ∀ (k x y f : Nat), y < 2 ^ k → x < 4611686018427387904 → y < 4611686018427387904 → 2 * k + 1 < f → (∀ f2, X9_tellParts_l6 (f2 + 1) a b (iJ (Nat.gcd x y)) (0 : Int64) S = r) → X9_tellParts_l6 f a b (iJ x) (iJ y) S = r := by
  intro k
  induction k with
  | zero =>
    intro x y f hy hx _ hf hr
    have h0 : y = 0 := by
      have : (2 : Nat) ^ 0 = 1 := rfl
      omega
    subst h0
    obtain ⟨f, rfl⟩ : ∃ f1, f = f1 + 1 := ⟨f - 1, by omega⟩
    rw [Nat.gcd_zero_right] at hr
    exact hr f
  | succ k ih =>
    intro x y f hy hx hy2 hf hr
    have hp : 2 ^ (k + 1) = 2 * 2 ^ k := by rw [Nat.pow_succ, Nat.mul_comm]
    obtain ⟨f, rfl⟩ : ∃ f1, f = f1 + 1 := ⟨f - 1, by omega⟩
    by_cases h0 : y = 0
    · subst h0
      rw [Nat.gcd_zero_right] at hr
      exact hr f
    · rw [X9_tellParts_l6, X9_tellParts_b6]
      simp only [zl_e, lg_cmp_eq, iJ_z hy2]
      rw [if_neg h0, decide_eq_true (show ¬ y = 0 from h0), zc_true, iJ_remn (by omega) (by omega) (by omega)]
      have hm : x % y < y := Nat.mod_lt _ (by omega)
      rw [gcd_st] at hr
      obtain ⟨f, rfl⟩ : ∃ f1, f = f1 + 1 := ⟨f - 1, by omega⟩
      by_cases h1 : x % y = 0
      · rw [h1, Nat.gcd_zero_right] at hr
        rw [h1]
        exact hr f
      · rw [X9_tellParts_l6, X9_tellParts_b6]
        simp only [zl_e, lg_cmp_eq, iJ_z (show x % y < 4611686018427387904 by omega)]
        rw [if_neg h1, decide_eq_true (show ¬ x % y = 0 from h1), zc_true, iJ_remn (by omega) (by omega) (by omega)]
        rw [gcd_st] at hr
        have hh := half_mod h1 h0
        exact ih (x % y) (y % (x % y)) f (by omega) (by omega) (by omega) (by omega) hr
def gPart (up low : Nat) (g : pSig) : pSig := (((gT g).1, iJ ((up / Nat.gcd up low : Nat) : Int), iJ ((low / Nat.gcd up low : Nat) : Int), (gT g).2.2.2), g.2)
theorem tellPart_C {S : zMem} {g : pSig} {up low : Nat} (h : RC S g) (hu : up < 4611686018427387904) (h0 : 0 < low) (hl : low < 2 ^ 40) : ∃ S1, f_X8_tellPart (iJ up) (iJ low) S = some (1, S1) ∧ RC S1 (gPart up low g) ∧ S1.1 = S.1 := by
  have h40 : (2 : Nat) ^ 40 = 1099511627776 := rfl
  have hg0 : 0 < Nat.gcd up low := Nat.gcd_pos_of_pos_right _ h0
  have hgl : Nat.gcd up low ≤ low := Nat.gcd_le_right _ h0
  have e := gcd_C S 40 up low 0 zF hl hu (by omega) (by omega) (zF_gt (by omega))
  have e' : X8_commonDivisor_l9 zF (iJ up) (iJ low) (0 : Int32) S = some (iJ (Nat.gcd up low), S) := e
  simp only [f_X8_tellPart, X8_tellPart_b0, X8_tellPart_b30, f_X8_commonDivisor, X8_commonDivisor_b0, e', zb_some, zl_e, lg_cmp_le]
  have q : iJ (Nat.gcd up low : Int) ≤ (0 : Int64) ↔ False := by
    rw [Int64.le_iff_toInt_le, iJ_toInt (by omega) (by omega)]
    constructor
    · intro q
      have : (0 : Int64).toInt = 0 := rfl
      omega
    · exact False.elim
  simp only [q, if_false]
  rw [iJ_nz (by omega) (by omega), zc_true, zc_true, iJ_divn (by omega) hg0 (by omega), iJ_divn (by omega) hg0 (by omega)]
  refine ⟨_, rfl, h.told ?_ (fun c _ _ => rfl), rfl⟩
  obtain ⟨a1, a2, a3, a4, a5⟩ := h.1
  refine ⟨a1, ?_, ?_, a4, a5⟩
  · rw [zq_eq, updL_at, if_neg (by decide), zq_eq, updL_at, if_pos rfl]
  · rw [zq_eq, updL_at, if_pos rfl]
/-! sets -/
theorem dm (a s n : Int32) : (a &&& (s ^^^ (-1))) &&& (n ^^^ (-1)) = a &&& ((s ||| n) ^^^ (-1)) := by
  rw [Int32.xor_neg_one, Int32.xor_neg_one, Int32.xor_neg_one]
  apply Int32.toBitVec_inj.1
  simp only [Int32.toBitVec_and, Int32.toBitVec_not, Int32.toBitVec_or]
  ext i hi
  simp [Bool.and_assoc]
theorem all_n : ∀ n, n < 7 → ((1 : Int32) <<< (iI (n : Nat) &&& 31)) - 1 = iI ((2 ^ n - 1 : Nat) : Int) := by decide +kernel
theorem allLetters_C {S : zMem} {o : pRoad} (ho : pRok o) (hc : oC S o) : f_X6_allLetters S = some (iI ((2 ^ rN o - 1 : Nat) : Int), S) := by
  have hN := ho.2.1
  simp only [f_X6_allLetters, X6_allLetters_b0, zl_e, hc.2.1, all_n (rN o) (by omega)]
def pWds (o : pRoad) (set : Nat) : Nat := pSum (fun l => if set.testBit l then rW o l else 0) (rN o)
theorem pSum_bd {f : Nat → Nat} {b : Nat} : ∀ n, (∀ i, i < n → f i ≤ b) → pSum f n ≤ b * n := by
  intro n
  induction n with
  | zero => exact fun _ => Nat.zero_le _
  | succ n ih =>
    intro h
    have h1 := ih (fun i hi => h i (by omega))
    have h2 := h n (by omega)
    show pSum f n + f n ≤ b * (n + 1)
    rw [Nat.mul_add]
    omega
theorem pWds_le {o : pRoad} {set : Nat} (ho : pRok o) : pWds o set ≤ 54 := by
  have hN := ho.2.1
  have h := pSum_bd (f := fun l => if set.testBit l then rW o l else 0) (b := 9) (rN o) (fun i hi => by
    have := (ho.2.2.1 i hi).2.2
    split <;> omega)
  show pSum (fun l => if set.testBit l then rW o l else 0) (rN o) ≤ 54
  omega
theorem wordsOf_C {S : zMem} {o : pRoad} {set : Nat} (ho : pRok o) (hc : oC S o) (hs : set < 64) : f_X6_wordsOf (iI set) S = some (iI (pWds o set), S) := by
  have hN := ho.2.1
  refine zfor (F := fun f i => X6_wordsOf_l4 f (iI set) (iI (pSum (fun l => if set.testBit l then rW o l else 0) i : Nat)) (iI (i : Nat)) S) (n := rN o) (fun f i hi => ?_) (fun f => ?_) (zF_gt (by omega))
  · simp (disch := omega) only [X6_wordsOf_l4, X6_wordsOf_b4, X6_wordsOf_b29, zl_e, hc.2.1, iI_le]
    rw [if_neg (by omega), bitI set hs i (by omega), show pSum (fun l => if set.testBit l then rW o l else 0) (i + 1) = pSum (fun l => if set.testBit l then rW o l else 0) i + (if set.testBit i then rW o i else 0) from rfl]
    by_cases hb : set.testBit i = true
    · simp (disch := omega) only [hb, if_true, one_0, if_false, zi_I, zc_true, iI_cln, (hc.2.2.2.2.2 i hi).2.2]
      rw [iI_nadd, lit_1, iI_add]
      rfl
    · rw [if_neg hb, if_neg hb, if_pos rfl, lit_1, iI_add]
      rfl
  · simp (disch := omega) only [X6_wordsOf_l4, X6_wordsOf_b4, zl_e, hc.2.1, iI_le]
    rw [if_pos (by omega)]
    rfl
theorem wordsOf_M {S : zMem} {o : pRoad} {set : Nat} (ho : pRok o) (hc : oM S o) (hs : set < 64) : f_X9_wordsOf (iI set) S = some (iI (pWds o set), S) := by
  have hN := ho.2.1
  refine zfor (F := fun f i => X9_wordsOf_l4 f (iI set) (iI (pSum (fun l => if set.testBit l then rW o l else 0) i : Nat)) (iI (i : Nat)) S) (n := rN o) (fun f i hi => ?_) (fun f => ?_) (zF_gt (by omega))
  · simp (disch := omega) only [X9_wordsOf_l4, X9_wordsOf_b4, X9_wordsOf_b31, zl_e, hc.2.1, iI_le]
    rw [if_neg (by omega), mhas_eq hs (by omega), show pSum (fun l => if set.testBit l then rW o l else 0) (i + 1) = pSum (fun l => if set.testBit l then rW o l else 0) i + (if set.testBit i then rW o i else 0) from rfl]
    simp only [zb_some]
    by_cases hb : set.testBit i = true
    · simp (disch := omega) only [hb, if_true, one_0, if_false, zi_I, zc_true, iI_cln, (hc.2.2 i hi).2.2]
      rw [iI_nadd, lit_1, iI_add]
      rfl
    · rw [if_neg hb, if_neg hb, if_pos rfl, lit_1, lit_0, iI_add, iI_add]
      rfl
  · simp (disch := omega) only [X9_wordsOf_l4, X9_wordsOf_b4, zl_e, hc.2.1, iI_le]
    rw [if_pos (by omega)]
    rfl
def pMany (p : Nat → Bool) (n : Nat) : Nat := pSum (fun s => if p s then 1 else 0) n
def pFst (p : Nat → Bool) : Nat → Int
  | 0 => -9
  | n + 1 => if p n then (if pMany p n = 0 then (n : Int) else pFst p n) else pFst p n
theorem pMany_le (p : Nat → Bool) (n : Nat) : pMany p n ≤ n := pSum_le (fun i => by split <;> omega) n
theorem pMany_s (p : Nat → Bool) (n : Nat) : pMany p (n + 1) = pMany p n + if p n then 1 else 0 := rfl
theorem pFst_0 (p : Nat → Bool) : ∀ n, pMany p n = 0 → pFst p n = -9 := by
  intro n
  induction n with
  | zero => exact fun _ => rfl
  | succ n ih =>
    intro h
    rw [pMany_s] at h
    cases hp : p n with
    | true =>
      rw [hp] at h
      simp only [if_true] at h
      omega
    | false =>
      unfold pFst
      rw [if_neg (by rw [hp]; exact Bool.false_ne_true)]
      exact ih (by omega)
/-- the first from j on, of m -/
def pFrm (p : Nat → Bool) : Nat → Nat → Int
  | 0, _ => -9
  | m + 1, j => if p j then (j : Int) else pFrm p m (j + 1)
theorem pFst_eq (p : Nat → Bool) (n : Nat) : ∀ m j, j + m = n → pFst p n = if pMany p j = 0 then pFrm p m j else pFst p j := by
  intro m
  induction m with
  | zero =>
    intro j hj
    have e : j = n := by omega
    subst e
    by_cases h : pMany p j = 0
    · rw [if_pos h]
      exact pFst_0 p j h
    · rw [if_neg h]
  | succ m ih =>
    intro j hj
    have e1 : pFst p (j + 1) = if p j then (if pMany p j = 0 then (j : Int) else pFst p j) else pFst p j := rfl
    have e2 : pFrm p (m + 1) j = if p j then (j : Int) else pFrm p m (j + 1) := rfl
    rw [ih (j + 1) (by omega), pMany_s, e1, e2]
    cases hp : p j with
    | true =>
      simp only [if_true]
      rw [if_neg (by omega)]
    | false =>
      simp only [Bool.false_eq_true, if_false, Nat.add_zero]
theorem pFrm_0 (p : Nat → Bool) (n : Nat) : pFst p n = pFrm p n 0 := by
  rw [pFst_eq p n n 0 (by omega), if_pos (show pMany p 0 = 0 from rfl)]
theorem pFst_r (p : Nat → Bool) : ∀ n, -9 ≤ pFst p n ∧ pFst p n ≤ n := by
  intro n
  induction n with
  | zero => exact ⟨Int.le_refl _, by show (-9 : Int) ≤ 0; omega⟩
  | succ n ih =>
    unfold pFst
    repeat' split
    all_goals omega
def qSets (x : Int32) (g : pSig) : Int32 × pSig := match pIn x 55 with
  | none => (-1, g)
  | some v => if rN (gO g) = 0 then (-4, g) else (1, (qTell (iI (pFst (fun s => pWds (gO g) s == v) (2 ^ rN (gO g)))) (gPart (pMany (fun s => pWds (gO g) s == v) (2 ^ rN (gO g))) 1 g)).2)
theorem sets_wf (x : Int32) : ∀ g, pWf g → pWf (qSets x g).2 := by
  intro g h
  unfold qSets
  split
  · exact h
  · split
    · exact h
    · exact wf_told (g := g) _ h
theorem pow_7 {n : Nat} (h : n ≤ 6) : 0 < 2 ^ n ∧ 2 ^ n ≤ 64 := ⟨Nat.two_pow_pos n, pow_le_64 h⟩
theorem sets_C (x : Int32) : okC (f_X8_sets x) (qSets x) := by
  intro S g hg h
  unfold qSets
  simp only [f_X8_sets, X8_sets_b0]
  rw [show (54 : Int32) = iI ((54 : Nat) : Int) from rfl]
  cases hx : pIn x 55 with
  | none =>
    simp only [within_f hx (show 54 < 1000000 by omega), zb_some, zero_0, if_true]
    exact ⟨S, rfl, h⟩
  | some v =>
    obtain ⟨rfl, hv⟩ := pIn_some hx
    simp only [within_t (show v ≤ 54 by omega) (show 54 < 1000000 by omega), zb_some, one_0, if_false]
    by_cases hN : 0 < rN (gO g)
    · rw [if_neg (show ¬ rN (gO g) = 0 by omega)]
      simp only [isPosted_t hg.o h.o hN, zb_some, one_0, if_false]
      have hp7 := pow_7 hg.o.2.1
      refine zforI (F := fun f i (_ : Unit) => X8_sets_l29 f (iI v) (iI (pMany (fun s => pWds (gO g) s == v) i : Nat)) (iI (pFst (fun s => pWds (gO g) s == v) i)) (iI (i : Nat)) S) (n := 2 ^ rN (gO g)) (P := fun _ _ => True) (Q := fun r => ∃ S1, r = some ((1 : Int32), S1) ∧ RC S1 (qTell (iI (pFst (fun s => pWds (gO g) s == v) (2 ^ rN (gO g)))) (gPart (pMany (fun s => pWds (gO g) s == v) (2 ^ rN (gO g))) 1 g)).2) (fun f i a hi ha => Or.inl ⟨(), trivial, ?_⟩) (fun f a ha => ?_) (zF_gt (by omega)) (a := ()) trivial
      · have hw := pWds_le (set := i) hg.o
        have hm := pMany_le (fun s => pWds (gO g) s == v) i
        simp only [X8_sets_l29, X8_sets_b29, X8_sets_b64, X8_sets_b68, allLetters_C hg.o h.o, zb_some]
        have q : iI ((2 ^ rN (gO g) - 1 : Nat) : Int) < iI (i : Int) ↔ False := by
          rw [iI_lt (by omega) (by omega) (by omega) (by omega)]
          exact ⟨fun h => by omega, False.elim⟩
        simp (disch := omega) only [q, if_false, wordsOf_C hg.o h.o (show i < 64 by omega), zb_some, eqn, eqn0, zl_e, lit_1, iI_add]
        rw [show pFst (fun s => pWds (gO g) s == v) (i + 1) = if pWds (gO g) i == v then (if pMany (fun s => pWds (gO g) s == v) i = 0 then (i : Int) else pFst (fun s => pWds (gO g) s == v) i) else pFst (fun s => pWds (gO g) s == v) i from rfl, pMany_s]
        by_cases hq : pWds (gO g) i = v
        · simp only [hq, if_true, beq_self_eq_true]
          by_cases hz : pMany (fun s => pWds (gO g) s == v) i = 0
          · rw [if_pos hz, if_pos hz]
            rfl
          · rw [if_neg hz, if_neg hz]
            rfl
        · have hq2 : (pWds (gO g) i == v) = false := by simpa using hq
          simp only [hq, hq2, if_false, Bool.false_eq_true, Nat.add_zero]
          rfl
      · have hm := pMany_le (fun s => pWds (gO g) s == v) (2 ^ rN (gO g))
        simp only [X8_sets_l29, X8_sets_b29, allLetters_C hg.o h.o, zb_some]
        have q : iI ((2 ^ rN (gO g) - 1 : Nat) : Int) < iI ((2 ^ rN (gO g) : Nat) : Int) ↔ True := by
          rw [iI_lt (by omega) (by omega) (by omega) (by omega)]
          exact ⟨fun _ => trivial, fun _ => by omega⟩
        simp only [q, if_true, zl_e]
        rw [iI_j (by omega) (by omega), show (1 : Int64) = iJ ((1 : Nat) : Int) from rfl]
        obtain ⟨S1, e1, e2, e3⟩ := tellPart_C (up := pMany (fun s => pWds (gO g) s == v) (2 ^ rN (gO g))) (low := 1) h (by omega) (by omega) (by decide)
        rw [e1]
        simp only [zb_some]
        obtain ⟨S2, f1, f2, -⟩ := tell_C (iI (pFst (fun s => pWds (gO g) s == v) (2 ^ rN (gO g)))) e2
        rw [f1]
        exact ⟨S2, rfl, f2⟩
    · rw [if_pos (show rN (gO g) = 0 by omega)]
      simp only [isPosted_f h.o hN, zb_some, zero_0, if_true]
      exact ⟨S, rfl, h⟩
theorem noSets_M {S : zMem} {g : pSig} (hg : pWf g) (h : RM S g) (x : Int32) : f_X9_noSets x S = some (match pIn x 55 with
  | none => -1
  | some _ => if rN (gO g) = 0 then -4 else 0, S) := by
  simp only [f_X9_noSets, X9_noSets_b0, X9_noSets_b29, zl_e]
  cases hx : pIn x 55 with
  | none => simp only [min_in_f (n := 54) (m := 54) rfl hx (by omega), zb_some, zero_0, if_true]
  | some v =>
    obtain ⟨rfl, hv⟩ := pIn_some hx
    simp only [min_in_t (n := 54) (m := 54) rfl (show v ≤ 54 by omega) (by omega), zb_some, one_0, if_false, mposted hg h]
    split <;> rfl
theorem m4_0 : ((-4 : Int32) = 0) ↔ False := by decide
theorem gPart_1 (n : Nat) (g : pSig) : gPart n 1 g = (((gT g).1, iJ (n : Int), iJ 1, (gT g).2.2.2), g.2) := by
  unfold gPart
  rw [Nat.gcd_one_right, Nat.div_one]
  rfl
theorem sets_M (x : Int32) : okM (f_X9_sets x) (qSets x) := by
  intro S g hg h
  unfold qSets
  simp only [f_X9_sets, X9_sets_b0, noSets_M hg h, zb_some]
  cases hx : pIn x 55 with
  | none =>
    simp only [m1_0, if_false]
    exact ⟨S, rfl, h⟩
  | some v =>
    obtain ⟨rfl, hv⟩ := pIn_some hx
    dsimp only
    by_cases hN : rN (gO g) = 0
    · simp only [if_pos hN, m4_0, if_false]
      exact ⟨S, rfl, h⟩
    · simp only [if_neg hN, zero_0, if_true]
      have hp7 := pow_7 hg.o.2.1
      obtain ⟨S0, e0, r0⟩ := tell_M (-9 : Int32) h
      have e0' : zp S 0 (upd (S.1 0) 10 (-9 : Int32)) = S0 := (Prod.mk.inj (Option.some.inj e0)).2
      have hN6 := hg.o.2.1
      rw [zl_e, e0', zl_e, r0.o.2.1]
      simp only [zl_e]
      rw [show gO (qTell (-9) g).2 = gO g from rfl, all_n (rN (gO g)) (by omega)]
      have hR : ∀ k, k ≤ 2 ^ rN (gO g) → pFrm (fun s => pWds (gO g) s == v) k (2 ^ rN (gO g) - k) = pFrm (fun s => pWds (gO g) s == v) k (2 ^ rN (gO g) - k) := fun _ _ => rfl
      have e00 : iI ((2 ^ rN (gO g) - 1 : Nat) : Int) = iI ((2 ^ rN (gO g) : Nat) - 1 - (0 : Nat) : Int) := by congr 1; omega
      rw [e00]
      have m0 : (0 : Int32) = iI ((pMany (fun s => pWds (gO g) s == v) (2 ^ rN (gO g)) : Int) - (pMany (fun s => pWds (gO g) s == v) (2 ^ rN (gO g) - 0) : Int)) := by
        rw [Nat.sub_zero, Int.sub_self]
        rfl
      rw [m0]
      refine zforI (F := fun f k T => X9_sets_l30 f (iI v) (iI ((pMany (fun s => pWds (gO g) s == v) (2 ^ rN (gO g)) : Int) - (pMany (fun s => pWds (gO g) s == v) (2 ^ rN (gO g) - k) : Int))) (iI ((2 ^ rN (gO g) : Nat) - 1 - (k : Nat) : Int)) T) (n := 2 ^ rN (gO g)) (P := fun k T => RM T (qTell (iI (pFrm (fun s => pWds (gO g) s == v) k (2 ^ rN (gO g) - k))) g).2) (Q := fun r => ∃ S1, r = some ((1 : Int32), S1) ∧ RM S1 (qTell (iI (pFst (fun s => pWds (gO g) s == v) (2 ^ rN (gO g)))) (gPart (pMany (fun s => pWds (gO g) s == v) (2 ^ rN (gO g))) 1 g)).2) (fun f k T hk hT => Or.inl ?_) (fun f T hT => ?_) (zF_gt (by omega)) (a := S0) r0
      · have hw := pWds_le (set := 2 ^ rN (gO g) - 1 - k) hg.o
        have ek : ((2 ^ rN (gO g) : Nat) : Int) - 1 - (k : Int) = ((2 ^ rN (gO g) - 1 - k : Nat) : Int) := by omega
        have q : iI ((2 ^ rN (gO g) - 1 - k : Nat) : Int) < (0 : Int32) ↔ False := by
          rw [lit_0, iI_lt (by omega) (by omega) (by omega) (by omega)]
          exact ⟨fun h => by omega, False.elim⟩
        have hoT : oM T (gO g) := hT.o
        simp (disch := omega) only [X9_sets_l30, X9_sets_b30, X9_sets_b50, X9_sets_b63, X9_sets_b80, ek, q, if_false, wordsOf_M hg.o hoT (show 2 ^ rN (gO g) - 1 - k < 64 by omega), zb_some, eqn]
        have es : 2 ^ rN (gO g) - k = (2 ^ rN (gO g) - 1 - k) + 1 := by omega
        have es2 : 2 ^ rN (gO g) - (k + 1) = 2 ^ rN (gO g) - 1 - k := by omega
        have ef : pFrm (fun s => pWds (gO g) s == v) (k + 1) (2 ^ rN (gO g) - (k + 1)) = if pWds (gO g) (2 ^ rN (gO g) - 1 - k) == v then ((2 ^ rN (gO g) - 1 - k : Nat) : Int) else pFrm (fun s => pWds (gO g) s == v) k (2 ^ rN (gO g) - k) := by
          rw [es2, es]
          rfl
        have em : pMany (fun s => pWds (gO g) s == v) (2 ^ rN (gO g) - k) = pMany (fun s => pWds (gO g) s == v) (2 ^ rN (gO g) - (k + 1)) + if pWds (gO g) (2 ^ rN (gO g) - 1 - k) == v then 1 else 0 := by
          rw [es2, es]
          rfl
        by_cases hq : pWds (gO g) (2 ^ rN (gO g) - 1 - k) = v
        · have hq2 : (pWds (gO g) (2 ^ rN (gO g) - 1 - k) == v) = true := by simpa using hq
          rw [hq2] at em ef
          rw [if_pos hq, if_neg (by decide)]
          simp only [zl_e, one_0, if_false]
          obtain ⟨T1, e1, r1⟩ := tell_M (iI ((2 ^ rN (gO g) - 1 - k : Nat) : Int)) hT
          have e1' : zp T 0 (upd (T.1 0) 10 (iI ((2 ^ rN (gO g) - 1 - k : Nat) : Int))) = T1 := (Prod.mk.inj (Option.some.inj e1)).2
          refine ⟨T1, ?_, ?_⟩
          · rw [ef]
            exact r1
          · rw [e1', litm_1, lit_1, iI_add, iI_add]
            congr 2
            · rw [em]
              simp only [if_true]
              omega
            · omega
        · have hq2 : (pWds (gO g) (2 ^ rN (gO g) - 1 - k) == v) = false := by simpa using hq
          rw [hq2] at em ef
          rw [if_neg hq, if_pos (by decide)]
          simp only [zl_e, zero_0, if_true]
          obtain ⟨T1, e1, r1⟩ := tell_M (T.1 0 10) hT
          have e1' : zp T 0 (upd (T.1 0) 10 (T.1 0 10)) = T1 := (Prod.mk.inj (Option.some.inj e1)).2
          refine ⟨T1, ?_, ?_⟩
          · rw [ef]
            rw [hT.1.1] at r1
            exact r1
          · rw [e1', litm_1, lit_0, iI_add, iI_add]
            congr 2
            · rw [em]
              simp only [Bool.false_eq_true, if_false]
              omega
            · omega
      · have hm := pMany_le (fun s => pWds (gO g) s == v) (2 ^ rN (gO g))
        have hm0 : pMany (fun s => pWds (gO g) s == v) (2 ^ rN (gO g) - 2 ^ rN (gO g)) = 0 := by
          rw [Nat.sub_self]
          rfl
        have q : iI (((2 ^ rN (gO g) : Nat) : Int) - 1 - ((2 ^ rN (gO g) : Nat) : Int)) < (0 : Int32) ↔ True := by
          rw [lit_0, iI_lt (by omega) (by omega) (by omega) (by omega)]
          exact ⟨fun _ => trivial, fun _ => by omega⟩
        simp only [X9_sets_l30, X9_sets_b30, q, if_true, zl_e, hm0]
        rw [Nat.sub_self, ← pFrm_0] at hT
        refine ⟨_, rfl, ?_⟩
        rw [gPart_1]
        refine hT.told (t := (iI (pFst (fun s => pWds (gO g) s == v) (2 ^ rN (gO g))), iJ (pMany (fun s => pWds (gO g) s == v) (2 ^ rN (gO g)) : Int), iJ 1, (gT g).2.2.2)) ?_ rfl rfl (fun c _ _ => rfl)
        obtain ⟨a1, a2, a3, a4, a5⟩ := hT.1
        refine ⟨a1, ?_, ?_, a4, a5⟩
        · rw [zq_eq, updL_at, if_neg (by decide), zq_eq, updL_at, if_pos rfl, iI_j (by omega) (by omega)]
          exact congrArg iJ (by omega)
        · rw [zq_eq, updL_at, if_pos rfl]
          rfl
/-! sure -/
def pEach (p : Nat → Bool) (all : Int32) : Nat → Int32
  | 0 => all
  | n + 1 => if p n then pEach p all n &&& iI (n : Int) else pEach p all n
def pSome (p : Nat → Bool) : Nat → Int32
  | 0 => 0
  | n + 1 => if p n then pSome p n ||| iI (n : Int) else pSome p n
def pAny (p : Nat → Bool) (n : Nat) : Int32 := if pMany p n = 0 then 0 else 1
theorem pAny_s (p : Nat → Bool) (n : Nat) : pAny p (n + 1) = if p n then 1 else pAny p n := by
  unfold pAny
  rw [pMany_s]
  cases p n with
  | true =>
    simp only [if_true]
    rw [if_neg (by omega)]
  | false => simp only [Bool.false_eq_true, if_false, Nat.add_zero]
theorem pAny_0 (p : Nat → Bool) (n : Nat) : (pAny p n = 0) ↔ pMany p n = 0 := by
  unfold pAny
  split
  · next h => exact ⟨fun _ => h, fun _ => rfl⟩
  · next h => exact ⟨fun q => absurd q (by decide), fun q => absurd q h⟩
def qSure (x : Int32) (g : pSig) : Int32 × pSig := match pIn x 55 with
  | none => (-1, g)
  | some v => if rN (gO g) = 0 then (-4, g) else if pMany (fun s => pWds (gO g) s == v) (2 ^ rN (gO g)) = 0 then qRef 4 g else (pEach (fun s => pWds (gO g) s == v) (iI ((2 ^ rN (gO g) - 1 : Nat) : Int)) (2 ^ rN (gO g)), (qTell (iI ((2 ^ rN (gO g) - 1 : Nat) : Int) &&& (pSome (fun s => pWds (gO g) s == v) (2 ^ rN (gO g)) ^^^ (-1))) g).2)
theorem sure_wf (x : Int32) : ∀ g, pWf g → pWf (qSure x g).2 := by
  intro g h
  unfold qSure
  split
  · exact h
  · split
    · exact h
    · split
      · exact wf_told (g := g) _ h
      · exact wf_told (g := g) _ h
theorem sure_C (x : Int32) : okC (f_X8_sure x) (qSure x) := by
  intro S g hg h
  unfold qSure
  simp only [f_X8_sure, X8_sure_b0]
  rw [show (54 : Int32) = iI ((54 : Nat) : Int) from rfl]
  cases hx : pIn x 55 with
  | none =>
    simp only [within_f hx (show 54 < 1000000 by omega), zb_some, zero_0, if_true]
    exact ⟨S, rfl, h⟩
  | some v =>
    obtain ⟨rfl, hv⟩ := pIn_some hx
    simp only [within_t (show v ≤ 54 by omega) (show 54 < 1000000 by omega), zb_some, one_0, if_false]
    by_cases hN : 0 < rN (gO g)
    · rw [if_neg (show ¬ rN (gO g) = 0 by omega)]
      simp only [isPosted_t hg.o h.o hN, zb_some, one_0, if_false, allLetters_C hg.o h.o]
      have hp7 := pow_7 hg.o.2.1
      have key := zfor (F := fun f i => X8_sure_l43 f (iI v) (pAny (fun s => pWds (gO g) s == v) i) (pEach (fun s => pWds (gO g) s == v) (iI ((2 ^ rN (gO g) - 1 : Nat) : Int)) i) (iI ((2 ^ rN (gO g) - 1 : Nat) : Int) &&& (pSome (fun s => pWds (gO g) s == v) i ^^^ (-1))) (iI (i : Nat)) S) (n := 2 ^ rN (gO g)) (r := if pMany (fun s => pWds (gO g) s == v) (2 ^ rN (gO g)) = 0 then (zb (f_X8_refuse (4 : Int32) S) fun v3 S => some (v3, S)) else (zb (f_X8_tell (iI ((2 ^ rN (gO g) - 1 : Nat) : Int) &&& (pSome (fun s => pWds (gO g) s == v) (2 ^ rN (gO g)) ^^^ (-1))) S) fun _ S => some (pEach (fun s => pWds (gO g) s == v) (iI ((2 ^ rN (gO g) - 1 : Nat) : Int)) (2 ^ rN (gO g)), S))) (fun f i hi => ?_) (fun f => ?_) (zF_gt (by omega))
      · have e0 : iI ((2 ^ rN (gO g) - 1 : Nat) : Int) &&& (pSome (fun s => pWds (gO g) s == v) 0 ^^^ (-1)) = iI ((2 ^ rN (gO g) - 1 : Nat) : Int) := by
          show iI ((2 ^ rN (gO g) - 1 : Nat) : Int) &&& ((0 : Int32) ^^^ (-1)) = _
          simp
        rw [e0] at key
        have key' : X8_sure_l43 zF (iI v) (0 : Int32) (iI ((2 ^ rN (gO g) - 1 : Nat) : Int)) (iI ((2 ^ rN (gO g) - 1 : Nat) : Int)) (0 : Int32) S = _ := key
        rw [key']
        by_cases hz : pMany (fun s => pWds (gO g) s == v) (2 ^ rN (gO g)) = 0
        · rw [if_pos hz, if_pos hz]
          exact ref_Ce 4 (by omega) h rfl
        · rw [if_neg hz, if_neg hz]
          obtain ⟨S1, f1, f2, -⟩ := tell_C (iI ((2 ^ rN (gO g) - 1 : Nat) : Int) &&& (pSome (fun s => pWds (gO g) s == v) (2 ^ rN (gO g)) ^^^ (-1))) h
          rw [f1]
          exact ⟨S1, rfl, f2⟩
      · have hw := pWds_le (set := i) hg.o
        simp only [X8_sure_l43, X8_sure_b43, X8_sure_b84, allLetters_C hg.o h.o, zb_some]
        have q : iI ((2 ^ rN (gO g) - 1 : Nat) : Int) < iI (i : Int) ↔ False := by
          rw [iI_lt (by omega) (by omega) (by omega) (by omega)]
          exact ⟨fun h => by omega, False.elim⟩
        simp (disch := omega) only [q, if_false, wordsOf_C hg.o h.o (show i < 64 by omega), zb_some, eqn, zl_e]
        rw [pAny_s, show pEach (fun s => pWds (gO g) s == v) (iI ((2 ^ rN (gO g) - 1 : Nat) : Int)) (i + 1) = if pWds (gO g) i == v then pEach (fun s => pWds (gO g) s == v) (iI ((2 ^ rN (gO g) - 1 : Nat) : Int)) i &&& iI (i : Int) else pEach (fun s => pWds (gO g) s == v) (iI ((2 ^ rN (gO g) - 1 : Nat) : Int)) i from rfl, show pSome (fun s => pWds (gO g) s == v) (i + 1) = if pWds (gO g) i == v then pSome (fun s => pWds (gO g) s == v) i ||| iI (i : Int) else pSome (fun s => pWds (gO g) s == v) i from rfl]
        by_cases hq : pWds (gO g) i = v
        · have hq2 : (pWds (gO g) i == v) = true := by simpa using hq
          simp only [hq, hq2, if_true, beq_self_eq_true, dm]
          rw [lit_1, iI_add]
          rfl
        · have hq2 : (pWds (gO g) i == v) = false := by simpa using hq
          simp only [hq, hq2, if_false, Bool.false_eq_true]
          rw [lit_1, iI_add]
          rfl
      · simp only [X8_sure_l43, X8_sure_b43, allLetters_C hg.o h.o, zb_some]
        have q : iI ((2 ^ rN (gO g) - 1 : Nat) : Int) < iI ((2 ^ rN (gO g) : Nat) : Int) ↔ True := by
          rw [iI_lt (by omega) (by omega) (by omega) (by omega)]
          exact ⟨fun _ => trivial, fun _ => by omega⟩
        simp only [q, if_true, pAny_0]
    · rw [if_pos (show rN (gO g) = 0 by omega)]
      simp only [isPosted_f h.o hN, zb_some, zero_0, if_true]
      exact ⟨S, rfl, h⟩
theorem sure_M (x : Int32) : okM (f_X9_sure x) (qSure x) := by
  intro S g hg h
  unfold qSure
  simp only [f_X9_sure, X9_sure_b0, noSets_M hg h, zb_some]
  cases hx : pIn x 55 with
  | none =>
    simp only [m1_0, if_false]
    exact ⟨S, rfl, h⟩
  | some v =>
    obtain ⟨rfl, hv⟩ := pIn_some hx
    dsimp only
    by_cases hN : rN (gO g) = 0
    · simp only [if_pos hN, m4_0, if_false]
      exact ⟨S, rfl, h⟩
    · have hN6 := hg.o.2.1
      simp only [if_neg hN, zero_0, if_true, zl_e, h.o.2.1, all_n (rN (gO g)) (show rN (gO g) < 7 by omega)]
      have hp7 := pow_7 hg.o.2.1
      have key := zfor (F := fun f i => X9_sure_l33 f (iI v) (iI ((2 ^ rN (gO g) - 1 : Nat) : Int)) (pEach (fun s => pWds (gO g) s == v) (iI ((2 ^ rN (gO g) - 1 : Nat) : Int)) i) (pSome (fun s => pWds (gO g) s == v) i) (pAny (fun s => pWds (gO g) s == v) i) (iI (i : Nat)) S) (n := 2 ^ rN (gO g)) (r := if pMany (fun s => pWds (gO g) s == v) (2 ^ rN (gO g)) = 0 then (zb (f_X9_find (4 : Int32) S) fun v3 S => some (v3, S)) else (zb (f_X9_tell (iI ((2 ^ rN (gO g) - 1 : Nat) : Int) &&& (pSome (fun s => pWds (gO g) s == v) (2 ^ rN (gO g)) ^^^ (-1))) S) fun _ S => some (pEach (fun s => pWds (gO g) s == v) (iI ((2 ^ rN (gO g) - 1 : Nat) : Int)) (2 ^ rN (gO g)), S))) (fun f i hi => ?_) (fun f => ?_) (zF_gt (by omega))
      · have key' : X9_sure_l33 zF (iI v) (iI ((2 ^ rN (gO g) - 1 : Nat) : Int)) (iI ((2 ^ rN (gO g) - 1 : Nat) : Int)) (0 : Int32) (0 : Int32) (0 : Int32) S = _ := key
        rw [key']
        by_cases hz : pMany (fun s => pWds (gO g) s == v) (2 ^ rN (gO g)) = 0
        · rw [if_pos hz, if_pos hz]
          exact ref_Me 4 (by omega) h rfl
        · rw [if_neg hz, if_neg hz]
          obtain ⟨S1, f1, f2⟩ := tell_M (iI ((2 ^ rN (gO g) - 1 : Nat) : Int) &&& (pSome (fun s => pWds (gO g) s == v) (2 ^ rN (gO g)) ^^^ (-1))) h
          rw [f1]
          exact ⟨S1, rfl, f2⟩
      · have hw := pWds_le (set := i) hg.o
        have q : iI ((2 ^ rN (gO g) - 1 : Nat) : Int) < iI (i : Int) ↔ False := by
          rw [iI_lt (by omega) (by omega) (by omega) (by omega)]
          exact ⟨fun h => by omega, False.elim⟩
        simp (disch := omega) only [X9_sure_l33, X9_sure_b33, X9_sure_b66, q, if_false, wordsOf_M hg.o h.o (show i < 64 by omega), zb_some, eqn, zl_e]
        rw [pAny_s, show pEach (fun s => pWds (gO g) s == v) (iI ((2 ^ rN (gO g) - 1 : Nat) : Int)) (i + 1) = if pWds (gO g) i == v then pEach (fun s => pWds (gO g) s == v) (iI ((2 ^ rN (gO g) - 1 : Nat) : Int)) i &&& iI (i : Int) else pEach (fun s => pWds (gO g) s == v) (iI ((2 ^ rN (gO g) - 1 : Nat) : Int)) i from rfl, show pSome (fun s => pWds (gO g) s == v) (i + 1) = if pWds (gO g) i == v then pSome (fun s => pWds (gO g) s == v) i ||| iI (i : Int) else pSome (fun s => pWds (gO g) s == v) i from rfl]
        by_cases hq : pWds (gO g) i = v
        · have hq2 : (pWds (gO g) i == v) = true := by simpa using hq
          simp only [hq, hq2, if_true, beq_self_eq_true]
          rw [lit_1, iI_add]
          rfl
        · have hq2 : (pWds (gO g) i == v) = false := by simpa using hq
          simp only [hq, hq2, if_false, Bool.false_eq_true]
          rw [lit_1, iI_add]
          rfl
      · have q : iI ((2 ^ rN (gO g) - 1 : Nat) : Int) < iI ((2 ^ rN (gO g) : Nat) : Int) ↔ True := by
          rw [iI_lt (by omega) (by omega) (by omega) (by omega)]
          exact ⟨fun _ => trivial, fun _ => by omega⟩
        simp only [X9_sure_l33, X9_sure_b33, q, if_true, pAny_0, zl_e]
        split
        · rfl
        · rfl
