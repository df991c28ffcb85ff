/-! round -/
theorem mask_b : ∀ n, n < 7 → ∀ k, k < 64 → k < 2 ^ n → iI (k : Nat) &&& (iI ((2 ^ n - 1 : Nat) : Int) ^^^ (-1)) = 0 := by decide +kernel
theorem and_split (x m : Int32) (h : x &&& (m ^^^ (-1)) = 0) : x &&& m = x := by
  rw [Int32.xor_neg_one] at h
  apply Int32.toBitVec_inj.1
  have h2 : (x &&& ~~~m).toBitVec = (0 : Int32).toBitVec := by rw [h]
  rw [Int32.toBitVec_and, Int32.toBitVec_not] at h2
  rw [Int32.toBitVec_and]
  have h3 : ∀ i, (hi : i < 32) → (x.toBitVec &&& ~~~m.toBitVec)[i] = false := fun i hi => by
    rw [h2]
    show (0#32)[i] = false
    simp
  ext i hi
  have h4 := h3 i hi
  simp only [BitVec.getElem_and, BitVec.getElem_not] at h4 ⊢
  cases hx : x.toBitVec[i] <;> cases hm : m.toBitVec[i] <;> simp_all
theorem and_lt {x : Int32} {M : Nat} (hM : M < 64) (h : x &&& iI (M : Int) = x) : ∃ k : Nat, k ≤ M ∧ x = iI k := by
  have e : (x &&& iI (M : Int)).toBitVec.toNat = x.toBitVec.toNat := by rw [h]
  rw [Int32.toBitVec_and, BitVec.toNat_and] at e
  have hMn : (iI (M : Int)).toBitVec.toNat = M := by
    rw [← iI_nat]
    show (BitVec.ofNat 32 M).toNat = M
    rw [BitVec.toNat_ofNat]
    omega
  rw [hMn] at e
  have hle : x.toBitVec.toNat ≤ M := by rw [← e]; exact Nat.and_le_right
  refine ⟨x.toBitVec.toNat, hle, ?_⟩
  apply Int32.toBitVec_inj.1
  rw [← iI_nat]
  show x.toBitVec = BitVec.ofNat 32 x.toBitVec.toNat
  rw [BitVec.ofNat_toNat, BitVec.setWidth_eq]
theorem mask_0 {x : Int32} {n : Nat} (hn : n ≤ 6) : (x &&& (iI ((2 ^ n - 1 : Nat) : Int) ^^^ (-1)) = 0) ↔ (pIn x (2 ^ n)).isSome = true := by
  have hp := pow_7 hn
  constructor
  · intro h
    obtain ⟨k, hk, rfl⟩ := and_lt (by omega) (and_split x _ h)
    rw [pIn_iI (by omega) (by omega)]
    rfl
  · intro h
    obtain ⟨k, hk⟩ := Option.isSome_iff_exists.mp h
    obtain ⟨rfl, hk2⟩ := pIn_some hk
    exact mask_b n (by omega) k (by omega) hk2
theorem and64I : ∀ c, c < 64 → ∀ d, d < 64 → iI (c : Nat) &&& iI (d : Nat) = iI ((c &&& d : Nat) : Int) := by decide +kernel
theorem and_64 : ∀ c, c < 64 → ∀ d, c &&& d < 64 := fun c hc d => Nat.lt_of_le_of_lt Nat.and_le_left hc
def pBst (g : pSig) (k : Nat) : Option (Nat × List Nat) := dfs (rN (gO g)) (pPop k) k (uRnd (gO g) [] (gS g) 0) none
def qRound (x r : Int32) (g : pSig) : Int32 × pSig := match pIn r 6, pIn x (2 ^ rN (gO g)) with
  | some j, some k => if k &&& sC (gS g) = 0 then (match pBst g k with
    | some (t, q) => (iI t, gOrd g j q)
    | none => (-9, g)) else (-4, g)
  | _, _ => (-1, g)
theorem uRnd_some (o : pRoad) (pi : List Nat) (s : pSt) (sum : Nat) (b : Option (Nat × List Nat)) (p : List Nat) : (uRnd o pi s sum b p).isSome = true := by
  unfold uRnd
  repeat' split
  all_goals rfl
theorem pBst_some {g : pSig} {k : Nat} (hg : pWf g) (hk : k < 2 ^ rN (gO g)) : ∃ t q, pBst g k = some (t, q) := by
  have hp := pow_7 hg.o.2.1
  have h := dfs_some (a := none) hg.o.2.1 (pPop k) k (uRnd (gO g) [] (gS g) 0) (by omega) hk rfl (fun b p => uRnd_some _ _ _ _ b p)
  obtain ⟨⟨t, q⟩, h2⟩ := Option.isSome_iff_exists.mp h
  exact ⟨t, q, h2⟩
theorem lieAs_C {S : zMem} {g : pSig} {j c1 : Nat} {li : List Nat} (hg : pWf g) (h : RC S g) (hj : j < 6) (hc1 : lnC c1 = 6) (h29 : 60 ≤ c1) (hn : li.length ≤ 6) (hli : lnIs S c1 li) : ∃ S1, f_X7_lieAs (4 + 2 * j) c1 (iI li.length) S = some ((), S1) ∧ RC S1 (gOrd g j li) := by
  have hL := lnC_row j hj
  have e6 : Int32.ofNat (lnC c1) = iI ((6 : Nat) : Int) := by rw [hc1]; exact iI_nat _
  have e40 : Int32.ofNat (lnC (4 + 2 * j + 1)) = iI ((40 : Nat) : Int) := by rw [hL]; exact iI_nat _
  simp only [f_X7_lieAs, X7_lieAs_b0, X7_lieAs_b19, e6, e40]
  simp only [hc1, hL]
  rw [show (0 : Int32) = iI 0 from rfl]
  simp (disch := omega) only [iI_lt, iI_le]
  rw [if_neg (by omega), if_neg (by omega), if_pos (by omega), zl_e]
  obtain ⟨T1, w1, w2, w3, w4, w5⟩ := wr S (4 + 2 * j) 1 (iI li.length)
  have ecp : zcp (iI 0) (iI 0) (iI (li.length : Int)) 6 40 = true := by
    unfold zcp
    rw [show (iI 0).toNatClampNeg = 0 from rfl, iI_cln (by omega), show (0 : Int32) = iI 0 from rfl]
    simp (disch := omega) only [iI_lt]
    simp
    omega
  rw [w1, ecp, zc_true, zl_e]
  obtain ⟨T2, x1, x2, x4, x5⟩ := wrf T1 (4 + 2 * j + 1) (va_cpy (T1.1 c1) (T1.1 (4 + 2 * j + 1)) (iI 0).toNatClampNeg (iI 0).toNatClampNeg (iI (li.length : Int)).toNatClampNeg)
  rw [x1]
  refine ⟨T2, rfl, h.rows (fun r hr => ?_) (by rw [x4 0 (by omega), w4 0 (by omega)]) (by rw [x5, w5]) (fun c hc => by rw [x4 c (by omega), w4 c (by omega)])⟩
  have hr3 := h.2.1 r hr
  by_cases hrj : r = j
  · subst hrj
    rw [up_eq, x4 (4 + 2 * r) (by omega), w2]
    refine ⟨rfl, fun k hk => ?_⟩
    dsimp only at hk ⊢
    rw [x2]
    unfold va_cpy
    rw [show (iI 0).toNatClampNeg = 0 from rfl, iI_cln (by omega), if_pos (by omega), show 0 + (k - 0) = k by omega, w4 c1 (by omega)]
    exact hli k (by omega)
  · rw [up_ne hrj, x4 (4 + 2 * r) (by omega), x4 (4 + 2 * r + 1) (by omega), w4 (4 + 2 * r) (by omega), w4 (4 + 2 * r + 1) (by omega)]
    exact hr3
theorem warmest_C {S : zMem} {g : pSig} {k t : Nat} {q : List Nat} (hg : pWf g) (h : RC S g) (hk : k < 2 ^ rN (gO g)) (hb : pBst g k = some (t, q)) : ∃ S1, f_X3_warmest (iI k) S = some (iI t, S1) ∧ RC S1 g ∧ q.length = pPop k ∧ lnIs S1 62 q := by
  have hp := pow_7 hg.o.2.1
  have hs := h.s
  have k64 : k < 64 := by omega
  simp only [f_X3_warmest, X3_warmest_b0]
  rw [zl_e, hs.2.2.1, zl_e]
  obtain ⟨T1, w1, w2, w3, w4, w5⟩ := wr S 60 3 (iI (sE (gS g)))
  rw [w1, zl_e]
  obtain ⟨T2, x1, x2, x3, x4, x5⟩ := wr T1 60 4 (-9 : Int32)
  rw [x1, zl_e, x4 35 (by omega), w4 35 (by omega), hs.2.1, zl_e, hs.2.2.2.1]
  have hc2 : oC T2 (gO g) := h.o.cg (fun c a b => by rw [x4 c (by omega), w4 c (by omega)])
  obtain ⟨T3, e1, e2, e3, e4, e5, e6⟩ := tryWarmer_C (n := pPop k) hg.o (pop_6 k k64) (pPop k) 0 8 (gS g) k 0 [] T2 none rfl k64 hk (by omega) (by have := pop_6 k k64; omega) hg.ok rfl (by rw [x3 3 (by omega)]; exact w2) hc2 rfl (fun k hk => by omega) (by omega) x2
  have e1' : f_X3_tryWarmer 8 (0 : Int32) (iI k) (iI (sM (gS g))) (iI (sP (gS g))) (0 : Int32) T2 = some ((), T3) := e1
  rw [e1']
  unfold pBst at hb
  rw [hb] at e2
  obtain ⟨g1, g2, g3, g4⟩ := e2
  simp only [zb_some, zl_e, g1]
  exact ⟨T3, rfl, h.cg (fun c hc => by rw [e5 c (by omega) (by omega) (by omega), x4 c (by omega), w4 c (by omega)]) (by rw [e6, x5, w5]), g3, g4⟩
theorem round_wf (x r : Int32) : ∀ g, pWf g → pWf (qRound x r g).2 := by
  intro g h
  unfold qRound
  cases hr : pIn r 6 with
  | none => exact h
  | some j =>
    cases hx : pIn x (2 ^ rN (gO g)) with
    | none => exact h
    | some k =>
      dsimp only
      split
      · obtain ⟨t, q, hb⟩ := pBst_some h (pIn_some hx).2
        rw [hb]
        dsimp only
        have hp := pow_7 h.o.2.1
        have h1 := (pIn_some hx).2
        have hlen : q.length ≤ 6 := by
          have hl : ∀ m set (pi : List Nat) (s : pSt) (sum : Nat) (a : Option (Nat × List Nat)), (∀ t q, a = some (t, q) → q.length ≤ pi.length + m) → ∀ t q, dfs (rN (gO g)) m set (uRnd (gO g) pi s sum) a = some (t, q) → q.length ≤ pi.length + m := by
            have upd : ∀ (pi : List Nat) (s : pSt) (sum : Nat) (a : Option (Nat × List Nat)) (p : List Nat) (L : Nat), pi.length + p.length ≤ L → (∀ t q, a = some (t, q) → q.length ≤ L) → ∀ t q, uRnd (gO g) pi s sum a p = some (t, q) → q.length ≤ L := by
              intro pi s sum a p L hL ha t q hq
              unfold uRnd at hq
              cases a with
              | none =>
                cases hq
                rw [List.length_append]
                exact hL
              | some b =>
                obtain ⟨t0, q0⟩ := b
                dsimp only at hq
                split at hq
                · cases hq
                  rw [List.length_append]
                  exact hL
                · exact ha t q hq
            intro m
            induction m with
            | zero => exact fun set pi s sum a ha => upd pi s sum a [] (pi.length + 0) (Nat.le_refl _) ha
            | succ m ih =>
              intro set pi s sum a ha
              have key : ∀ N, ∀ t q, foldN (fun b l => if set.testBit l then dfs (rN (gO g)) m (pRem set l) (fun b p => uRnd (gO g) pi s sum b (l :: p)) b else b) a N = some (t, q) → q.length ≤ pi.length + (m + 1) := by
                intro N
                induction N with
                | zero => exact ha
                | succ N ihN =>
                  intro t q hq
                  have hq2 : (if set.testBit N then dfs (rN (gO g)) m (pRem set N) (fun b p => uRnd (gO g) pi s sum b (N :: p)) (foldN (fun b l => if set.testBit l then dfs (rN (gO g)) m (pRem set l) (fun b p => uRnd (gO g) pi s sum b (l :: p)) b else b) a N) else foldN (fun b l => if set.testBit l then dfs (rN (gO g)) m (pRem set l) (fun b p => uRnd (gO g) pi s sum b (l :: p)) b else b) a N) = some (t, q) := hq
                  split at hq2
                  · rw [← dfs_cg m (pRem set N) _ _ _ (fun b p => uRnd_cons (gO g) pi s sum N b p)] at hq2
                    have := ih (pRem set N) (pi ++ [N]) (pDel (gO g) s N) (sum + pEnd (gO g) s N) _ (fun t q hq3 => by
                      have := ihN t q hq3
                      rw [List.length_append]
                      simp only [List.length_cons, List.length_nil]
                      omega) t q hq2
                    rw [List.length_append] at this
                    simp only [List.length_cons, List.length_nil] at this
                    omega
                  · exact ihN t q hq2
              exact key _
          have := hl (pPop k) k [] (gS g) 0 none (fun t q hq => by cases hq) t q hb
          have h6 := pop_6 k (by omega)
          simp only [List.length_nil] at this
          omega
        exact wf_ord h hlen
      · exact h
theorem round_C (x r : Int32) : okC (f_X8_round x r) (qRound x r) := by
  intro S g hg h
  unfold qRound
  have hN := hg.o.2.1
  have hp := pow_7 hN
  have c64 := hg.ok.c64 hg.o
  simp only [f_X8_round, X8_round_b0, X8_round_b21]
  cases hr : pIn r 6 with
  | none =>
    simp only [isRow_f hr, zb_some, zero_0, if_true]
    exact ⟨S, rfl, h⟩
  | some j =>
    obtain ⟨rfl, hj⟩ := pIn_some hr
    simp only [isRow_t hj, zb_some, one_0, if_false, allLetters_C hg.o h.o, zl_e, mask_0 hN]
    cases hx : pIn x (2 ^ rN (gO g)) with
    | none =>
      rw [if_neg (by simp)]
      exact ⟨S, rfl, h⟩
    | some k =>
      obtain ⟨rfl, hk⟩ := pIn_some hx
      have k64 : k < 64 := by omega
      have ka := and_64 k k64 (sC (gS g))
      rw [if_pos (show (some k).isSome = true from rfl), h.s.2.2.2.2.1, and64I k k64 _ c64]
      simp only [eqn0 (show k &&& sC (gS g) < 2147483648 by omega)]
      by_cases h0 : k &&& sC (gS g) = 0
      · rw [if_pos h0, if_pos h0]
        obtain ⟨t, q, hb⟩ := pBst_some hg hk
        obtain ⟨S1, e1, e2, e3, e4⟩ := warmest_C hg h hk hb
        have h6 := pop_6 k k64
        rw [e1, hb]
        simp (disch := omega) only [zb_some, zi_I, zc_true, iI_cln, bitCount_eq k64]
        rw [← e3]
        obtain ⟨S2, f1, f2⟩ := lieAs_C (c1 := 62) hg e2 hj rfl (by omega) (by omega) e4
        rw [f1]
        exact ⟨S2, rfl, f2⟩
      · rw [if_neg h0, if_neg h0]
        exact ⟨S, rfl, h⟩
/-! the reference -/
def pMst (a : Option (Nat × List Nat)) : Int := match a with
  | none => -1
  | some (t, _) => (t : Int)
def eRM (T : zMem) (n : Nat) (a : Option (Nat × List Nat)) : Prop := match a with
  | none => True
  | some (t, q) => t ≤ 54 ∧ q.length = n ∧ lnIs T 13 q
theorem eRM_cg {T U : zMem} {n : Nat} {a : Option (Nat × List Nat)} (h : eRM T n a) (h1 : U.1 13 = T.1 13) : eRM U n a := by
  unfold eRM at *
  cases a with
  | none => trivial
  | some b =>
    obtain ⟨t, q⟩ := b
    exact ⟨h.1, h.2.1, fun k hk => by rw [h1]; exact h.2.2 k hk⟩
theorem pMst_b {T : zMem} {n : Nat} {a : Option (Nat × List Nat)} (h : eRM T n a) : -1 ≤ pMst a ∧ pMst a ≤ 54 := by
  cases a with
  | none => exact ⟨Int.le_refl _, by show (-1 : Int) ≤ 54; omega⟩
  | some b =>
    obtain ⟨t, q⟩ := b
    have := h.1
    show (-1 : Int) ≤ (t : Int) ∧ (t : Int) ≤ 54
    omega
theorem dgL_in {N n x : Nat} (hx : x < N ^ n) : ∀ l ∈ dgL N n x, l < N := by
  cases n with
  | zero => exact fun l hl => absurd hl (by simp [dgL])
  | succ n =>
    refine dgL_lt ?_ (n + 1) x
    rcases Nat.eq_zero_or_pos N with h | h
    · subst h
      rw [Nat.zero_pow (by omega)] at hx
      omega
    · exact h
theorem pow_it {N n : Nat} (hN : N ≤ 6) (hn : n ≤ 6) : N ^ n < 1000000 := by
  have h1 : N ^ n ≤ 6 ^ n := Nat.pow_le_pow_left hN n
  have h2 : 6 ^ n ≤ 6 ^ 6 := Nat.pow_le_pow_right (by omega) hn
  have h3 : (6 : Nat) ^ 6 = 46656 := rfl
  omega
theorem pow_pos0 {N n : Nat} (h : n = 0 ∨ 0 < N) : 0 < N ^ n := by
  rcases h with rfl | h
  · exact Nat.one_pos
  · exact Nat.pow_pos h
theorem zero_line {T : zMem} {N n : Nat} (hn : n ≤ 6) (h : ∀ k, k < 6 → T.1 12 k = iI 0) (hN : n = 0 ∨ 0 < N) : lnIs T 12 (dgL N n 0) := by
  intro k hk
  rw [dgL_len] at hk
  have hNp : 0 < N := by omega
  rw [dgL_get hNp n 0 k hk, Nat.zero_div, Nat.zero_mod]
  exact h k (by omega)
theorem round_loopM {S : zMem} {g : pSig} {k r t : Nat} {q : List Nat} (hg : pWf g) (h : RM S g) (hk : k < 2 ^ rN (gO g)) (hr : r < 6) (h0 : k &&& sC (gS g) = 0) (hb : pBst g k = some (t, q)) (hl : ∀ j, j < 6 → S.1 12 j = iI 0) : ∃ S1, X9_round_l56 zF (iI k) (iI r) (iI (pPop k)) (-1 : Int32) (1 : Int32) S = some (iI t, S1) ∧ RM S1 (gOrd g r q) := by
  have hN := hg.o.2.1
  have hp := pow_7 hN
  have k64 : k < 64 := by omega
  have n6 := pop_6 k k64
  have c64 := hg.ok.c64 hg.o
  have hN0 : pPop k = 0 ∨ 0 < rN (gO g) := by
    rcases Nat.eq_zero_or_pos (rN (gO g)) with h1 | h1
    · left
      rw [h1] at hk
      exact (pop_0 k k64).mpr (by have : (2 : Nat) ^ 0 = 1 := rfl; omega)
    · exact Or.inr h1
  have hpos := pow_pos0 hN0
  have hfin : foldN (fun b x => if goodL k (dgL (rN (gO g)) (pPop k) x) then uRnd (gO g) [] (gS g) 0 b (dgL (rN (gO g)) (pPop k) x) else b) none (rN (gO g) ^ pPop k) = some (t, q) := by
    rw [dfs_eq]
    exact hb
  have h1e : X9_round_l56 zF (iI k) (iI r) (iI (pPop k)) (-1 : Int32) (1 : Int32) S = X9_round_l56 zF (iI k) (iI r) (iI (pPop k)) (iI (pMst none)) (if 0 < rN (gO g) ^ pPop k then 1 else 0) S := by
    rw [if_pos hpos]
    rfl
  rw [h1e]
  refine zforI (F := fun f x (a : zMem × Option (Nat × List Nat)) => X9_round_l56 f (iI k) (iI r) (iI (pPop k)) (iI (pMst a.2)) (if x < rN (gO g) ^ pPop k then 1 else 0) a.1) (n := rN (gO g) ^ pPop k) (P := fun x a => a.2 = foldN (fun b x => if goodL k (dgL (rN (gO g)) (pPop k) x) then uRnd (gO g) [] (gS g) 0 b (dgL (rN (gO g)) (pPop k) x) else b) none x ∧ zFl S a.1 ∧ (x < rN (gO g) ^ pPop k → lnIs a.1 12 (dgL (rN (gO g)) (pPop k) x)) ∧ eRM a.1 (pPop k) a.2) (Q := fun r1 => ∃ S1, r1 = some (iI t, S1) ∧ RM S1 (gOrd g r q)) (fun f x a hx ha => Or.inl ?_) (fun f a ha => ?_) (zF_gt (pow_it hN n6)) (a := (S, none)) ⟨rfl, zFl_0 S, fun _ => zero_line n6 hl hN0, trivial⟩
  · obtain ⟨T, acc⟩ := a
    obtain ⟨a1, a2, a3, a4⟩ := ha
    dsimp only at a1 a2 a3 a4 ⊢
    have hR := zFl_R a2 hg h
    have hli := a3 hx
    have hlen := dgL_len (rN (gO g)) (pPop k) x
    have hin := dgL_in hx
    have hmb := pMst_b a4
    have e5 : T.1 1 5 = iI (sC (gS g)) := hR.s.2.2.2.2.1
    have hgd := snL_set (out := sC (gS g)) hN (dgL (rN (gO g)) (pPop k) x) 0 k k hin (by omega) k64 k64 c64 (fun j hj => by rw [Nat.zero_testBit, Bool.false_or]) (fun j hj hj2 => by
      rw [Nat.zero_or]
      have h1 : (k &&& sC (gS g)).testBit j = false := by rw [h0, Nat.zero_testBit]
      rw [Nat.testBit_and, hj2, Bool.true_and] at h1
      exact h1) (by rw [hlen])
    have hlo := lettersOf_M (out := sC (gS g)) hN hin (by rw [hlen]; exact n6) c64 e5 hli
    rw [hlen] at hlo
    rw [if_pos hx, X9_round_l56, X9_round_b56, if_neg (by decide), hlo]
    simp only [zb_some]
    -- what comes behind: the next line
    have nxt : ∀ (U : zMem) (acc2 : Option (Nat × List Nat)), zFl S U → lnIs U 12 (dgL (rN (gO g)) (pPop k) x) → eRM U (pPop k) acc2 → acc2 = foldN (fun b x => if goodL k (dgL (rN (gO g)) (pPop k) x) then uRnd (gO g) [] (gS g) 0 b (dgL (rN (gO g)) (pPop k) x) else b) none (x + 1) → ∃ b : zMem × Option (Nat × List Nat), (b.2 = foldN (fun b x => if goodL k (dgL (rN (gO g)) (pPop k) x) then uRnd (gO g) [] (gS g) 0 b (dgL (rN (gO g)) (pPop k) x) else b) none (x + 1) ∧ zFl S b.1 ∧ (x + 1 < rN (gO g) ^ pPop k → lnIs b.1 12 (dgL (rN (gO g)) (pPop k) (x + 1))) ∧ eRM b.1 (pPop k) b.2) ∧ X9_round_b97 (X9_round_l56 f) (iI k) (iI r) (iI (pPop k)) (iI (pMst acc2)) U = X9_round_l56 f (iI k) (iI r) (iI (pPop k)) (iI (pMst b.2)) (if x + 1 < rN (gO g) ^ pPop k then 1 else 0) b.1 := by
      intro U acc2 u1 u2 u3 u4
      have hRU := zFl_R u1 hg h
      obtain ⟨V, v1, v2, v3, v4⟩ := nextLine_M hN n6 hx hRU.o.2.1 u2
      refine ⟨(V, acc2), ⟨u4, zFl_t u1 ⟨fun c h1 h2 h3 => v3 c h2, v4, fun q hq => by rw [v3 1 (by omega)]⟩, v2, eRM_cg u3 (v3 13 (by omega))⟩, ?_⟩
      rw [X9_round_b97, v1]
      rfl
    have efold : foldN (fun b x => if goodL k (dgL (rN (gO g)) (pPop k) x) then uRnd (gO g) [] (gS g) 0 b (dgL (rN (gO g)) (pPop k) x) else b) none (x + 1) = if goodL k (dgL (rN (gO g)) (pPop k) x) then uRnd (gO g) [] (gS g) 0 acc (dgL (rN (gO g)) (pPop k) x) else acc := by
      rw [a1]
      rfl
    by_cases hgood : goodL k (dgL (rN (gO g)) (pPop k) x) = true
    · rw [if_pos hgood] at efold
      rw [hgd.mpr hgood]
      dsimp only
      rw [if_pos rfl]
      have het := endTogether_M hg hR hin (by rw [hlen]; exact n6) hli
      rw [hlen] at het
      obtain ⟨U, t1, t2, t3⟩ := het
      rw [t1]
      simp only [zb_some, X9_round_b79]
      have htog := pTog_le hg.o (dgL (rN (gO g)) (pPop k) x) (gS g) hg.ok hin
      rw [hlen] at htog
      have hUli : lnIs U 12 (dgL (rN (gO g)) (pPop k) x) := fun j hj => by rw [t2.1 12 (by omega)]; exact hli j hj
      have hUf : zFl S U := zFl_t a2 ⟨fun c h1 h2 h3 => t2.1 c h1, t2.2.1, t2.2.2⟩
      have hUe : eRM U (pPop k) acc := eRM_cg a4 (t2.1 13 (by omega))
      have qle : iI (pTog (gO g) (gS g) (dgL (rN (gO g)) (pPop k) x) : Int) ≤ iI (pMst acc) ↔ (pTog (gO g) (gS g) (dgL (rN (gO g)) (pPop k) x) : Int) ≤ pMst acc := iI_le (by omega) (by omega) (by omega) (by omega)
      simp only [qle]
      have keep : ∃ b : zMem × Option (Nat × List Nat), (b.2 = foldN (fun b x => if goodL k (dgL (rN (gO g)) (pPop k) x) then uRnd (gO g) [] (gS g) 0 b (dgL (rN (gO g)) (pPop k) x) else b) none (x + 1) ∧ zFl S b.1 ∧ (x + 1 < rN (gO g) ^ pPop k → lnIs b.1 12 (dgL (rN (gO g)) (pPop k) (x + 1))) ∧ eRM b.1 (pPop k) b.2) ∧ (uRnd (gO g) [] (gS g) 0 acc (dgL (rN (gO g)) (pPop k) x) = some (pTog (gO g) (gS g) (dgL (rN (gO g)) (pPop k) x), dgL (rN (gO g)) (pPop k) x) → (zb (f_X9_keepLine (iI (pPop k)) U) fun _ S => X9_round_b97 (X9_round_l56 f) (iI k) (iI r) (iI (pPop k)) (iI (pTog (gO g) (gS g) (dgL (rN (gO g)) (pPop k) x) : Int)) S) = X9_round_l56 f (iI k) (iI r) (iI (pPop k)) (iI (pMst b.2)) (if x + 1 < rN (gO g) ^ pPop k then 1 else 0) b.1) ∨ ¬ (uRnd (gO g) [] (gS g) 0 acc (dgL (rN (gO g)) (pPop k) x) = some (pTog (gO g) (gS g) (dgL (rN (gO g)) (pPop k) x), dgL (rN (gO g)) (pPop k) x)) := by
        by_cases hu : uRnd (gO g) [] (gS g) 0 acc (dgL (rN (gO g)) (pPop k) x) = some (pTog (gO g) (gS g) (dgL (rN (gO g)) (pPop k) x), dgL (rN (gO g)) (pPop k) x)
        · have hkl := keepLine_M (li := dgL (rN (gO g)) (pPop k) x) (by rw [hlen]; exact n6) hUli
          rw [hlen] at hkl
          obtain ⟨V, v1, v2, v3, v4⟩ := hkl
          rw [hu] at efold
          obtain ⟨b, b1, b2⟩ := nxt V (some (pTog (gO g) (gS g) (dgL (rN (gO g)) (pPop k) x), dgL (rN (gO g)) (pPop k) x)) (zFl_t hUf ⟨fun c h1 h2 h3 => v3 c h3, v4, fun q hq => by rw [v3 1 (by omega)]⟩) (fun j hj => by rw [v3 12 (by omega)]; exact hUli j hj) ⟨by omega, hlen, v2⟩ efold.symm
          refine ⟨b, Or.inl ⟨b1, fun _ => ?_⟩⟩
          rw [v1]
          exact b2
        · exact ⟨(U, acc), Or.inr hu⟩
      by_cases hle : (pTog (gO g) (gS g) (dgL (rN (gO g)) (pPop k) x) : Int) ≤ pMst acc
      · rw [if_pos hle]
        have hu : uRnd (gO g) [] (gS g) 0 acc (dgL (rN (gO g)) (pPop k) x) = acc := by
          cases acc with
          | none =>
            have : (pTog (gO g) (gS g) (dgL (rN (gO g)) (pPop k) x) : Int) ≤ -1 := hle
            omega
          | some b =>
            obtain ⟨t0, q0⟩ := b
            have h2 : (pTog (gO g) (gS g) (dgL (rN (gO g)) (pPop k) x) : Int) ≤ (t0 : Int) := hle
            show (if t0 < 0 + pTog (gO g) (gS g) (dgL (rN (gO g)) (pPop k) x) then _ else some (t0, q0)) = _
            rw [if_neg (by omega)]
        rw [hu] at efold
        exact nxt U acc hUf hUli hUe efold.symm
      · rw [if_neg hle]
        have hu : uRnd (gO g) [] (gS g) 0 acc (dgL (rN (gO g)) (pPop k) x) = some (pTog (gO g) (gS g) (dgL (rN (gO g)) (pPop k) x), dgL (rN (gO g)) (pPop k) x) := by
          cases acc with
          | none =>
            show some (0 + pTog (gO g) (gS g) (dgL (rN (gO g)) (pPop k) x), [] ++ dgL (rN (gO g)) (pPop k) x) = _
            rw [Nat.zero_add, List.nil_append]
          | some b =>
            obtain ⟨t0, q0⟩ := b
            have h2 : ¬ (pTog (gO g) (gS g) (dgL (rN (gO g)) (pPop k) x) : Int) ≤ (t0 : Int) := hle
            show (if t0 < 0 + pTog (gO g) (gS g) (dgL (rN (gO g)) (pPop k) x) then some (0 + pTog (gO g) (gS g) (dgL (rN (gO g)) (pPop k) x), [] ++ dgL (rN (gO g)) (pPop k) x) else some (t0, q0)) = _
            rw [if_pos (by omega), Nat.zero_add, List.nil_append]
        obtain ⟨b, hb2⟩ := keep
        rcases hb2 with ⟨b1, b2⟩ | hb2
        · exact ⟨b, b1, b2 hu⟩
        · exact absurd hu hb2
    · rw [if_neg hgood] at efold
      have fin : ∃ b : zMem × Option (Nat × List Nat), (b.2 = foldN (fun b x => if goodL k (dgL (rN (gO g)) (pPop k) x) then uRnd (gO g) [] (gS g) 0 b (dgL (rN (gO g)) (pPop k) x) else b) none (x + 1) ∧ zFl S b.1 ∧ (x + 1 < rN (gO g) ^ pPop k → lnIs b.1 12 (dgL (rN (gO g)) (pPop k) (x + 1))) ∧ eRM b.1 (pPop k) b.2) ∧ X9_round_b79 (X9_round_l56 f) (iI k) (iI r) (iI (pPop k)) (iI (pMst acc)) (-1 : Int32) T = X9_round_l56 f (iI k) (iI r) (iI (pPop k)) (iI (pMst b.2)) (if x + 1 < rN (gO g) ^ pPop k then 1 else 0) b.1 := by
        rw [X9_round_b79, if_pos (show (-1 : Int32) ≤ iI (pMst acc) from (iI_le (a := -1) (by omega) (by omega) (by omega) (by omega)).mpr hmb.1)]
        exact nxt T acc a2 hli a4 efold.symm
      cases hs : pSnL (sC (gS g)) 0 (dgL (rN (gO g)) (pPop k) x) with
      | none =>
        have q1 : ¬ ((-1 : Int32) = iI (k : Int)) := by
          rw [litm_1, iI_eq (by omega) (by omega) (by omega) (by omega)]
          omega
        dsimp only
        rw [if_neg q1]
        exact fin
      | some t2 =>
        have ht := snL_lt hN _ _ _ hin (by omega) hs
        have q1 : ¬ (iI (t2 : Int) = iI (k : Int)) := by
          rw [eqn (by omega) (by omega)]
          intro q2
          rw [q2] at hs
          exact hgood (hgd.mp hs)
        dsimp only
        rw [if_neg q1]
        exact fin
  · obtain ⟨T, acc⟩ := a
    obtain ⟨a1, a2, a3, a4⟩ := ha
    dsimp only at a1 a2 a3 a4 ⊢
    rw [hfin] at a1
    subst a1
    obtain ⟨b1, b2, b3⟩ := a4
    rw [if_neg (Nat.lt_irrefl _), X9_round_l56, X9_round_b56, if_pos rfl]
    have htl := tellLine_M (r := r) hg (zFl_R a2 hg h) hr (by rw [b2]; exact n6) b3
    rw [b2] at htl
    obtain ⟨U, u1, u2⟩ := htl
    rw [u1]
    exact ⟨U, rfl, u2⟩
theorem round_M (x r : Int32) : okM (f_X9_round x r) (qRound x r) := by
  intro S g hg h
  unfold qRound
  have hN := hg.o.2.1
  have hp := pow_7 hN
  have c64 := hg.ok.c64 hg.o
  simp only [f_X9_round, X9_round_b0, X9_round_b25, zl_e, h.o.2.1, all_n (rN (gO g)) (show rN (gO g) < 7 by omega)]
  have hin0 : pIn x (2 ^ rN (gO g)) = none → f_X9_in x.toInt64 (0 : Int64) (iI ((2 ^ rN (gO g) - 1 : Nat) : Int)).toInt64 S = some (0, S) := fun hx => min_in_f rfl (by rw [show 2 ^ rN (gO g) - 1 + 1 = 2 ^ rN (gO g) by omega]; exact hx) (by omega) S
  cases hx : pIn x (2 ^ rN (gO g)) with
  | none =>
    rw [hin0 hx]
    simp only [zb_some, zero_0, if_true]
    cases hr : pIn r 6 with
    | none => exact ⟨S, rfl, h⟩
    | some j => exact ⟨S, rfl, h⟩
  | some k =>
    obtain ⟨rfl, hk⟩ := pIn_some hx
    have k64 : k < 64 := by omega
    have ka := and_64 k k64 (sC (gS g))
    rw [min_in_t rfl (show k ≤ 2 ^ rN (gO g) - 1 by omega) (by omega)]
    simp only [zb_some, one_0, if_false]
    cases hr : pIn r 6 with
    | none =>
      simp only [misRow_f hr, zb_some, zero_0, if_true]
      exact ⟨S, rfl, h⟩
    | some j =>
      obtain ⟨rfl, hj⟩ := pIn_some hr
      have r5 : S.1 1 5 = iI (sC (gS g)) := h.s.2.2.2.2.1
      simp only [misRow_t hj, zb_some, one_0, if_false, z5, n5, zc_true, r5, and64I k k64 _ c64, eqn0 (show k &&& sC (gS g) < 2147483648 by omega)]
      by_cases h0 : k &&& sC (gS g) = 0
      · rw [if_pos h0, if_pos h0, bits_eq k64]
        simp only [zb_some]
        obtain ⟨T, t1, t2, t3, t4⟩ := beginLine_M S
        rw [t1]
        simp only [zb_some]
        obtain ⟨t, q, hb⟩ := pBst_some hg hk
        have fr : zFl S T := ⟨fun c h1 h2 h3 => t3 c h2, t4, fun q hq => by rw [t3 1 (by omega)]⟩
        obtain ⟨S1, e1, e2⟩ := round_loopM hg (zFl_R fr hg h) hk hj h0 hb t2
        rw [e1, hb]
        exact ⟨S1, rfl, e2⟩
      · rw [if_neg h0, if_neg h0]
        exact ⟨S, rfl, h⟩
