/-! digest -/
def pMix (h : Int64) (v : Nat → Int32) : Nat → Int64
  | 0 => h
  | n + 1 => (31 : Int64) * pMix h v n + (v n).toInt64
def pMr (h : Int64) (R : pRw) : Nat → Int64
  | 0 => h
  | r + 1 => pMix ((31 : Int64) * pMr h R r + (iI (R r).1).toInt64) (R r).2 (R r).1.toNat
theorem pMix_s (h : Int64) (v : Nat → Int32) (n : Nat) : pMix h v (n + 1) = (31 : Int64) * pMix h v n + (v n).toInt64 := rfl
def pKl (kp : Nat → Option pDs) (k : Nat) : Int32 := match kp k with
  | none => -1
  | some d => iI d.length
abbrev vCnt (g : pSig) (k : Nat) : Int32 := iI (pCount g k)
abbrev vHou (g : pSig) (k : Nat) : Int32 := iI (pHouse (gO g) (gS g) (k / 3) (k % 3))
abbrev vLet (g : pSig) (k : Nat) : Int32 := iI (pLetter (gO g) (gS g) (k / 5) (k % 5))
def pDig (g : pSig) : Int64 := pMr (pMr (pMix (pMix (pMix (pMix 17 (vCnt g) 14) (vHou g) (3 * rH (gO g))) (vLet g) (5 * rN (gO g))) (pKl (gK g)) 3) (gR g) 6) (gX g) 4
def qDig (g : pSig) : Int64 × pSig := (pDig g, g)
theorem dig_wf : ∀ g, pWf g → pWf (qDig g).2 := fun _ h => h
theorem mixed_C {S : zMem} {c : Nat} {y : Int64} {w : Int × (Nat → Int32)} (hl : lnC (c + 1) ≤ 60) (h0 : -1 ≤ w.1) (hw : w.1 ≤ lnC (c + 1)) (h1 : S.1 c 1 = iI w.1) (h2 : ∀ k : Nat, (k : Int) < w.1 → S.1 (c + 1) k = w.2 k) : f_X7_mixedInto c y S = some (pMix ((31 : Int64) * y + (iI w.1).toInt64) w.2 w.1.toNat, S) := by
  simp only [f_X7_mixedInto, X7_mixedInto_b0, zl_e, h1]
  refine zfor (F := fun f i => X7_mixedInto_l15 f c (pMix ((31 : Int64) * y + (iI w.1).toInt64) w.2 i) (iI (i : Nat)) S) (n := w.1.toNat) (fun f i hi => ?_) (fun f => ?_) (zF_gt (by omega))
  · simp (disch := omega) only [X7_mixedInto_l15, X7_mixedInto_b15, zl_e, h1, iI_le]
    rw [if_neg (by omega)]
    simp (disch := omega) only [zi_I, zc_true, iI_cln]
    rw [h2 i (by omega), lit_1, iI_add]
    rfl
  · simp (disch := omega) only [X7_mixedInto_l15, X7_mixedInto_b15, zl_e, h1, iI_le]
    rw [if_pos (by omega)]
theorem dig6_C {S : zMem} {g : pSig} (hg : pWf g) (h : RC S g) (y : Int64) : X8_digest_l235 zF y (4 : Int32) (0 : Int32) S = some (pMr y (gX g) 4, S) := by
  refine zfor (F := fun f i => X8_digest_l235 f (pMr y (gX g) i) (4 : Int32) (iI (i : Nat)) S) (n := 4) (fun f i hi => ?_) (fun f => ?_) (zF_gt (by omega))
  · have hr := h.2.2.1 i hi
    have hb := hg.2.1 i hi
    have hL := lnC_txt i hi
    simp (disch := omega) only [X8_digest_l235, X8_digest_b235, show ((4 : Int32) = iI 4) from rfl, iI_le]
    rw [if_neg (by omega)]
    simp (disch := omega) only [zi_I, zc_true, iI_cln]
    rw [mixed_C (w := gX g i) (by rw [hL]; omega) hb.1 (by rw [hL]; omega) hr.1 hr.2]
    simp only [zb_some, zl_e, lit_1, iI_add]
    rfl
  · simp (disch := omega) only [X8_digest_l235, X8_digest_b235, show ((4 : Int32) = iI 4) from rfl, iI_le]
    rw [if_pos (by omega)]
theorem dig5_C {S : zMem} {g : pSig} (hg : pWf g) (h : RC S g) (y : Int64) : X8_digest_l197 zF y (6 : Int32) (0 : Int32) S = some (pMr (pMr y (gR g) 6) (gX g) 4, S) := by
  refine zfor (F := fun f i => X8_digest_l197 f (pMr y (gR g) i) (6 : Int32) (iI (i : Nat)) S) (n := 6) (fun f i hi => ?_) (fun f => ?_) (zF_gt (by omega))
  · have hr := h.2.1 i hi
    have hb := hg.1 i hi
    have hL := lnC_row i hi
    simp (disch := omega) only [X8_digest_l197, X8_digest_b197, show ((6 : Int32) = iI 6) from rfl, iI_le]
    rw [if_neg (by omega)]
    simp (disch := omega) only [zi_I, zc_true, iI_cln]
    rw [mixed_C (w := gR g i) (by rw [hL]; omega) hb.1 (by rw [hL]; omega) hr.1 hr.2]
    simp only [zb_some, zl_e, lit_1, iI_add]
    rfl
  · simp (disch := omega) only [X8_digest_l197, X8_digest_b197, show ((6 : Int32) = iI 6) from rfl, iI_le]
    rw [if_pos (by omega)]
    exact dig6_C hg h _
theorem dig4_C {S : zMem} {g : pSig} (hg : pWf g) (h : RC S g) (y : Int64) : X8_digest_l141 zF y (3 : Int32) (0 : Int32) S = some (pMr (pMr (pMix y (pKl (gK g)) 3) (gR g) 6) (gX g) 4, S) := by
  refine zfor (F := fun f i => X8_digest_l141 f (pMix y (pKl (gK g)) i) (3 : Int32) (iI (i : Nat)) S) (n := 3) (fun f i hi => ?_) (fun f => ?_) (zF_gt (by omega))
  · simp (disch := omega) only [X8_digest_l141, X8_digest_b141, X8_digest_b176, show ((3 : Int32) = iI 3) from rfl, iI_le]
    rw [if_neg (by omega)]
    simp (disch := omega) only [zi_I, zc_true, iI_cln, zl_e]
    have h1 := h.k i hi
    rw [pMix_s]
    unfold pKl
    cases hq : gK g i with
    | none =>
      rw [hq] at h1
      dsimp only at h1
      rw [h1, if_pos rfl, lit_1, iI_add]
      rfl
    | some d =>
      rw [hq] at h1
      dsimp only at h1
      rw [h1.1, if_neg (by decide), h1.2.2.1, lit_1, iI_add]
      rfl
  · simp (disch := omega) only [X8_digest_l141, X8_digest_b141, show ((3 : Int32) = iI 3) from rfl, iI_le]
    rw [if_pos (by omega)]
    exact dig5_C hg h _
theorem dig3_C {S : zMem} {g : pSig} (hg : pWf g) (h : RC S g) (y : Int64) : X8_digest_l82 zF y (0 : Int32) S = some (pMr (pMr (pMix (pMix y (vLet g) (5 * rN (gO g))) (pKl (gK g)) 3) (gR g) 6) (gX g) 4, S) := by
  have hN := hg.o.2.1
  refine zfor (F := fun f i => X8_digest_l82 f (pMix y (vLet g) (5 * i)) (iI (i : Nat)) S) (n := rN (gO g)) (fun f i hi => ?_) (fun f => ?_) (zF_gt (by omega))
  · simp (disch := omega) only [X8_digest_l82, X8_digest_b82, zl_e, h.o.2.1, iI_le]
    rw [if_neg (by omega)]
    refine zfor (F := fun f2 k => X8_digest_l96 (X8_digest_l82 f) f2 (pMix y (vLet g) (5 * i + k)) (iI (i : Nat)) (iI (k : Nat)) S) (n := 5) (fun f2 k hk => ?_) (fun f2 => ?_) (zF_gt (by omega))
    · simp (disch := omega) only [X8_digest_l96, X8_digest_b96, show ((5 : Int32) = iI 5) from rfl, iI_le]
      rw [if_neg (by omega), ofLetter_eq hg.o h.o h.s hg.ok hi hk]
      simp only [zl_e, zb_some, lit_1, iI_add]
      rw [show 5 * i + (k + 1) = 5 * i + k + 1 from rfl, pMix_s, show vLet g (5 * i + k) = iI (pLetter (gO g) (gS g) i k) by unfold vLet; rw [show (5 * i + k) / 5 = i by omega, show (5 * i + k) % 5 = k by omega]]
      rfl
    · simp (disch := omega) only [X8_digest_l96, X8_digest_b96, show ((5 : Int32) = iI 5) from rfl, iI_le]
      rw [if_pos (by omega), zl_e, lit_1, iI_add, show 5 * (i + 1) = 5 * i + 5 by omega]
      rfl
  · simp (disch := omega) only [X8_digest_l82, X8_digest_b82, zl_e, h.o.2.1, iI_le]
    rw [if_pos (by omega)]
    exact dig4_C hg h _
theorem dig2_C {S : zMem} {g : pSig} (hg : pWf g) (h : RC S g) (y : Int64) : X8_digest_l33 zF y (0 : Int32) S = some (pMr (pMr (pMix (pMix (pMix y (vHou g) (3 * rH (gO g))) (vLet g) (5 * rN (gO g))) (pKl (gK g)) 3) (gR g) 6) (gX g) 4, S) := by
  have hH := hg.o.1
  refine zfor (F := fun f i => X8_digest_l33 f (pMix y (vHou g) (3 * i)) (iI (i : Nat)) S) (n := rH (gO g)) (fun f i hi => ?_) (fun f => ?_) (zF_gt (by omega))
  · simp (disch := omega) only [X8_digest_l33, X8_digest_b33, zl_e, h.o.1, iI_le]
    rw [if_neg (by omega)]
    refine zfor (F := fun f2 k => X8_digest_l47 (X8_digest_l33 f) f2 (pMix y (vHou g) (3 * i + k)) (iI (i : Nat)) (iI (k : Nat)) S) (n := 3) (fun f2 k hk => ?_) (fun f2 => ?_) (zF_gt (by omega))
    · simp (disch := omega) only [X8_digest_l47, X8_digest_b47, show ((3 : Int32) = iI 3) from rfl, iI_le]
      rw [if_neg (by omega), ofHouse_eq hg.o h.o h.s hg.ok hi hk]
      simp only [zl_e, zb_some, lit_1, iI_add]
      rw [show 3 * i + (k + 1) = 3 * i + k + 1 from rfl, pMix_s, show vHou g (3 * i + k) = iI (pHouse (gO g) (gS g) i k) by unfold vHou; rw [show (3 * i + k) / 3 = i by omega, show (3 * i + k) % 3 = k by omega]]
      rfl
    · simp (disch := omega) only [X8_digest_l47, X8_digest_b47, show ((3 : Int32) = iI 3) from rfl, iI_le]
      rw [if_pos (by omega), zl_e, lit_1, iI_add, show 3 * (i + 1) = 3 * i + 3 by omega]
      rfl
  · simp (disch := omega) only [X8_digest_l33, X8_digest_b33, zl_e, h.o.1, iI_le]
    rw [if_pos (by omega)]
    exact dig3_C hg h _
theorem dig_C : okC f_X8_digest qDig := by
  intro S g hg h
  refine ⟨S, ?_, h⟩
  refine zfor (F := fun f i => X8_digest_l6 f (pMix 17 (vCnt g) i) (iI (i : Nat)) S) (n := 14) (fun f i hi => ?_) (fun f => ?_) (zF_gt (by omega))
  · simp (disch := omega) only [X8_digest_l6, X8_digest_b6, lit_14, iI_le]
    rw [if_neg (by omega), countOf_C hg h hi]
    simp only [zl_e, zb_some, lit_1, iI_add]
    rfl
  · simp (disch := omega) only [X8_digest_l6, X8_digest_b6, lit_14, iI_le]
    rw [if_pos (by omega)]
    exact dig2_C hg h _
/-! the reference -/
theorem dig6_M {S : zMem} {g : pSig} (hg : pWf g) (h : RM S g) (y : Int64) : X9_digest_l206 zF y (0 : Int32) S = some (pMr y (gX g) 4, S) := by
  refine zfor (F := fun f i => X9_digest_l206 f (pMr y (gX g) i) (iI (i : Nat)) S) (n := 4) (fun f i hi => ?_) (fun f => ?_) (zF_gt (by omega))
  · have hr := h.2.2.1 i hi
    have hb := hg.2.1 i hi
    simp (disch := omega) only [X9_digest_l206, X9_digest_b206, show ((4 : Int32) = iI 4) from rfl, iI_le]
    rw [if_neg (by omega)]
    simp (disch := omega) only [zi_I, zc_true, iI_cln, zl_e, hr.1]
    refine zfor (F := fun f2 k => X9_digest_l228 (X9_digest_l206 f) f2 (pMix ((31 : Int64) * pMr y (gX g) i + (iI (gX g i).1).toInt64) (gX g i).2 k) (iI (i : Nat)) (iI (k : Nat)) S) (n := (gX g i).1.toNat) (fun f2 k hk => ?_) (fun f2 => ?_) (zF_gt (by omega))
    · simp (disch := omega) only [X9_digest_l228, X9_digest_b228, zi_I, zc_true, iI_cln, zl_e, hr.1, iI_le]
      rw [if_neg (by omega)]
      simp (disch := omega) only [lit_60, iI_mul, iI_add, zi_I, zc_true, iI_cl]
      rw [show ((60 : Int) * (i : Int) + (k : Int)).toNat = 60 * i + k by omega, hr.2 k (by omega), lit_1, iI_add]
      rfl
    · simp (disch := omega) only [X9_digest_l228, X9_digest_b228, zi_I, zc_true, iI_cln, zl_e, hr.1, iI_le]
      rw [if_pos (by omega), lit_1, iI_add]
      rfl
  · simp (disch := omega) only [X9_digest_l206, X9_digest_b206, show ((4 : Int32) = iI 4) from rfl, iI_le]
    rw [if_pos (by omega)]
theorem dig5_M {S : zMem} {g : pSig} (hg : pWf g) (h : RM S g) (y : Int64) : X9_digest_l138 zF y (0 : Int32) S = some (pMr (pMr y (gR g) 6) (gX g) 4, S) := by
  refine zfor (F := fun f i => X9_digest_l138 f (pMr y (gR g) i) (iI (i : Nat)) S) (n := 6) (fun f i hi => ?_) (fun f => ?_) (zF_gt (by omega))
  · have hr := h.2.1 i hi
    have hb := hg.1 i hi
    simp (disch := omega) only [X9_digest_l138, X9_digest_b138, show ((6 : Int32) = iI 6) from rfl, iI_le]
    rw [if_neg (by omega)]
    simp (disch := omega) only [zi_I, zc_true, iI_cln, zl_e, hr.1]
    refine zfor (F := fun f2 k => X9_digest_l161 (X9_digest_l138 f) f2 (pMix ((31 : Int64) * pMr y (gR g) i + (iI (gR g i).1).toInt64) (gR g i).2 k) (iI (i : Nat)) (iI (k : Nat)) S) (n := (gR g i).1.toNat) (fun f2 k hk => ?_) (fun f2 => ?_) (zF_gt (by omega))
    · simp (disch := omega) only [X9_digest_l161, X9_digest_b161, zi_I, zc_true, iI_cln, zl_e, hr.1, iI_le]
      rw [if_neg (by omega)]
      simp (disch := omega) only [lit_40, iI_mul, iI_add, zi_I, zc_true, iI_cl]
      rw [show ((40 : Int) * (i : Int) + (k : Int)).toNat = 40 * i + k by omega, hr.2 k (by omega), lit_1, iI_add]
      rfl
    · simp (disch := omega) only [X9_digest_l161, X9_digest_b161, zi_I, zc_true, iI_cln, zl_e, hr.1, iI_le]
      rw [if_pos (by omega), lit_1, iI_add]
      rfl
  · simp (disch := omega) only [X9_digest_l138, X9_digest_b138, show ((6 : Int32) = iI 6) from rfl, iI_le]
    rw [if_pos (by omega)]
    exact dig6_M hg h _
theorem dig4_M {S : zMem} {g : pSig} (hg : pWf g) (h : RM S g) (y : Int64) : X9_digest_l105 zF y (1 : Int32) S = some (pMr (pMr (pMix y (pKl (gK g)) 3) (gR g) 6) (gX g) 4, S) := by
  refine zfor (F := fun f i => X9_digest_l105 f (pMix y (pKl (gK g)) i) (iI ((1 + i : Nat) : Int)) S) (n := 3) (fun f i hi => ?_) (fun f => ?_) (zF_gt (by omega))
  · simp (disch := omega) only [X9_digest_l105, X9_digest_b105, show ((4 : Int32) = iI 4) from rfl, iI_le]
    rw [if_neg (by omega)]
    simp (disch := omega) only [show ((0 : Int32) = iI 0) from rfl, lit_698, iI_mul, iI_add, zi_I, zc_true, iI_cl, zl_e]
    rw [show ((698 : Int) * ((1 + i : Nat) : Int) + 0).toNat = 698 * (1 + i) by omega]
    have h1 := h.k i hi
    rw [pMix_s]
    unfold pKl
    cases hq : gK g i with
    | none =>
      rw [hq] at h1
      dsimp only at h1
      rw [h1, lit_1, iI_add]
      rfl
    | some d =>
      rw [hq] at h1
      dsimp only at h1
      rw [h1.1, lit_1, iI_add]
      rfl
  · simp (disch := omega) only [X9_digest_l105, X9_digest_b105, show ((4 : Int32) = iI 4) from rfl, iI_le]
    rw [if_pos (by omega)]
    exact dig5_M hg h _
theorem iI_remn' {x d : Nat} (h1 : x < 2147483648) (h2 : 0 < d) (h3 : d < 2147483648) : iI (x : Int) - iI ((x / d : Nat) : Int) * iI (d : Int) = iI ((x % d : Nat) : Int) := by
  rw [← iI_divn h1 h2 h3]
  exact iI_remn h1 h2 h3
theorem dig3_M {S : zMem} {g : pSig} (hg : pWf g) (h : RM S g) (y : Int64) : ∃ S1, X9_digest_l69 zF y (0 : Int32) S = some (pMr (pMr (pMix (pMix y (vLet g) (5 * rN (gO g))) (pKl (gK g)) 3) (gR g) 6) (gX g) 4, S1) ∧ RM S1 g := by
  have hN := hg.o.2.1
  have e5 : (5 : Int32) * iI (rN (gO g) : Int) = iI ((5 * rN (gO g) : Nat) : Int) := by
    rw [lit_5, iI_mul]
    rfl
  refine zforI (F := fun f i T => X9_digest_l69 f (pMix y (vLet g) i) (iI (i : Nat)) T) (n := 5 * rN (gO g)) (P := fun _ T => RM T g) (Q := fun r => ∃ S1, r = some (pMr (pMr (pMix (pMix y (vLet g) (5 * rN (gO g))) (pKl (gK g)) 3) (gR g) 6) (gX g) 4, S1) ∧ RM S1 g) (fun f i T hi hT => Or.inl ?_) (fun f T hT => ?_) (zF_gt (by omega)) (a := S) h
  · simp only [X9_digest_l69, X9_digest_b69, zl_e, hT.o.2.1, e5]
    simp (disch := omega) only [iI_le]
    rw [if_neg (by omega), show (5 : Int32) = iI ((5 : Nat) : Int) from rfl, iI_divn (by omega) (by omega) (by omega), iI_remn' (by omega) (by omega) (by omega)]
    obtain ⟨T1, g1, g2⟩ := letterTold_eq hg hT (show i / 5 < rN (gO g) by omega) (show i % 5 < 5 by omega)
    rw [g1]
    simp only [zb_some, lit_1, iI_add]
    exact ⟨T1, g2, rfl⟩
  · simp only [X9_digest_l69, X9_digest_b69, zl_e, hT.o.2.1, e5]
    simp (disch := omega) only [iI_le]
    rw [if_pos (by omega), dig4_M hg hT]
    exact ⟨T, rfl, hT⟩
theorem dig2_M {S : zMem} {g : pSig} (hg : pWf g) (h : RM S g) (y : Int64) : ∃ S1, X9_digest_l33 zF y (0 : Int32) S = some (pMr (pMr (pMix (pMix (pMix y (vHou g) (3 * rH (gO g))) (vLet g) (5 * rN (gO g))) (pKl (gK g)) 3) (gR g) 6) (gX g) 4, S1) ∧ RM S1 g := by
  have hH := hg.o.1
  have e3 : (3 : Int32) * iI (rH (gO g) : Int) = iI ((3 * rH (gO g) : Nat) : Int) := by
    rw [lit_3, iI_mul]
    rfl
  refine zforI (F := fun f i (_ : Unit) => X9_digest_l33 f (pMix y (vHou g) i) (iI (i : Nat)) S) (n := 3 * rH (gO g)) (P := fun _ _ => True) (Q := fun r => ∃ S1, r = some (pMr (pMr (pMix (pMix (pMix y (vHou g) (3 * rH (gO g))) (vLet g) (5 * rN (gO g))) (pKl (gK g)) 3) (gR g) 6) (gX g) 4, S1) ∧ RM S1 g) (fun f i _ hi _ => Or.inl ⟨(), trivial, ?_⟩) (fun f _ _ => ?_) (zF_gt (by omega)) (a := ()) trivial
  · simp only [X9_digest_l33, X9_digest_b33, zl_e, h.o.1, e3]
    simp (disch := omega) only [iI_le]
    rw [if_neg (by omega), show (3 : Int32) = iI ((3 : Nat) : Int) from rfl, iI_divn (by omega) (by omega) (by omega), iI_remn' (by omega) (by omega) (by omega), houseTold_eq hg.o h.o h.s hg.ok (show i / 3 < rH (gO g) by omega) (show i % 3 < 3 by omega)]
    simp only [zb_some, lit_1, iI_add]
    rfl
  · simp only [X9_digest_l33, X9_digest_b33, zl_e, h.o.1, e3]
    simp (disch := omega) only [iI_le]
    rw [if_pos (by omega)]
    exact dig3_M hg h _
theorem dig_M : okM f_X9_digest qDig := by
  intro S g hg h
  refine zforI (F := fun f i (_ : Unit) => X9_digest_l6 f (pMix 17 (vCnt g) i) (iI (i : Nat)) S) (n := 14) (P := fun _ _ => True) (Q := fun r => ∃ S1, r = some ((qDig g).1, S1) ∧ RM S1 (qDig g).2) (fun f i _ hi _ => Or.inl ⟨(), trivial, ?_⟩) (fun f _ _ => ?_) (zF_gt (by omega)) (a := ()) trivial
  · simp (disch := omega) only [X9_digest_l6, X9_digest_b6, lit_14, iI_le]
    rw [if_neg (by omega), countOf_M hg h hi]
    simp only [zl_e, zb_some, lit_1, iI_add]
    rfl
  · simp (disch := omega) only [X9_digest_l6, X9_digest_b6, lit_14, iI_le]
    rw [if_pos (by omega)]
    exact dig2_M hg h _
