/-! carry, bribe, weather, day -/
def qCarry (x : Int32) (g : pSig) : Int32 × pSig := match pIn x (rN (gO g)) with
  | none => (-1, g)
  | some l => if (sC (gS g)).testBit l then (-4, g) else if (gD g).length = 40 then (-2, g) else (iI (pEnd (gO g) (gS g) l), gD_ g (gD g ++ [(0, l)]))
theorem pDok_0 {o : pRoad} {l : Nat} (ho : pRok o) (h : l < rN o) : pDok o (0, l) := by
  have := ho.2.1
  exact ⟨by show 0 ≤ 3; omega, by show l ≤ 9; omega, fun _ => h, fun h => absurd h (show ¬ (0 : Nat) = 2 by decide)⟩
theorem pDok_1 {o : pRoad} {n : Nat} (h : n ≤ 9) : pDok o (1, n) := ⟨by show 1 ≤ 3; omega, h, fun h => absurd h (show ¬ (1 : Nat) = 0 by decide), fun h => absurd h (show ¬ (1 : Nat) = 2 by decide)⟩
theorem pDok_2 {o : pRoad} {n : Nat} (h : n ≤ 2) : pDok o (2, n) := ⟨by show 2 ≤ 3; omega, by show n ≤ 9; omega, fun h => absurd h (show ¬ (2 : Nat) = 0 by decide), fun _ => h⟩
theorem pDok_3 {o : pRoad} : pDok o (3, 0) := ⟨by show 3 ≤ 3; omega, by show 0 ≤ 9; omega, fun h => absurd h (by decide), fun h => absurd h (by decide)⟩
theorem wf_snoc {g : pSig} {d : Nat × Nat} (hg : pWf g) (hl : (gD g).length ≠ 40) (hd : pDok (gO g) d) : pWf (gD_ g (gD g ++ [d])) := by
  have h := hg.2.2.2.1.1
  exact wf_D hg (ok_snoc hg.2.2.2.1 (by omega) hd)
theorem carry_wf (x : Int32) : ∀ g, pWf g → pWf (qCarry x g).2 := by
  intro g h
  unfold qCarry
  split
  · exact h
  · next l hl =>
    split
    · exact h
    · split
      · exact h
      · next h40 => exact wf_snoc h h40 (pDok_0 h.o (pIn_some hl).2)
theorem carry_C (x : Int32) : okC (f_X8_carry x) (qCarry x) := by
  intro S g hg h
  unfold qCarry
  cases hx : pIn x (rN (gO g)) with
  | none =>
    simp only [f_X8_carry, X8_carry_b0, isLetter_f hg.o h.o hx, zb_some, zero_0, if_true]
    exact ⟨S, rfl, h⟩
  | some l =>
    obtain ⟨rfl, hl⟩ := pIn_some hx
    have hN := hg.o.2.1
    have hlen := hg.2.2.2.1.1
    have c64 := hg.ok.c64 hg.o
    simp only [f_X8_carry, X8_carry_b0, isLetter_t hg.o h.o hl, zb_some, one_0, if_false]
    cases hb : (sC (gS g)).testBit l with
    | true =>
      simp only [wasCarried_t h.s.2.2.2.2.1 c64 (show l < 6 by omega) hb, zb_some, one_0, if_false, if_true]
      exact ⟨S, rfl, h⟩
    | false =>
      simp only [wasCarried_f h.s.2.2.2.2.1 c64 (show l < 6 by omega) hb, zb_some, zero_0, if_true, spare_eq h, spare_lt hg]
      by_cases h40 : (gD g).length = 40
      · rw [if_neg (fun q => q h40), if_neg Bool.false_ne_true, if_pos h40]
        exact ⟨S, rfl, h⟩
      · rw [if_pos h40, if_neg Bool.false_ne_true, if_neg h40]
        obtain ⟨S1, e1, e2, e3⟩ := perf_RC (d := (0, l)) hg h (by omega) (pDok_0 hg.o hl)
        have e1' : f_X4_perform 35 (0 : Int32) (iI ↑l) S = some ((), S1) := e1
        rw [e1']
        simp (disch := omega) only [zb_some, zi_I, zc_true, zl_e, iI_cln]
        have hs := e2.s
        have eS : gS (gD_ g (gD g ++ [(0, l)])) = pDel (gO g) (gS g) l := (pRun_snoc (gO g) (gD g) (0, l)).trans (pAct_0 hb)
        rw [eS] at hs
        have hl37 : S1.1 37 l = iI (sX (pDel (gO g) (gS g) l) l) := hs.2.2.2.2.2.2 l hl (by
          show (sC (gS g) ||| 2 ^ l).testBit l = true
          rw [testBit_or _ c64 l (by omega) l (by omega)]
          simp)
        rw [hl37, show sX (pDel (gO g) (gS g) l) l = pEnd (gO g) (gS g) l from up_eq]
        exact ⟨S1, rfl, e2⟩
theorem m0_40 {g : pSig} (hg : pWf g) : (iI ((gD g).length : Int) = (40 : Int32)) ↔ (gD g).length = 40 := by
  have h := hg.2.2.2.1.1
  rw [lit_40, iI_eq (by omega) (by omega) (by omega) (by omega)]
  omega
theorem z0 : zi (0 : Int32) 2810 = true := rfl
theorem z2 : zi (2 : Int32) 2810 = true := rfl
theorem z3 : zi (3 : Int32) 2810 = true := rfl
theorem z5 : zi (5 : Int32) 2810 = true := rfl
theorem n0 : Int32.toNatClampNeg 0 = 0 := rfl
theorem n2 : Int32.toNatClampNeg 2 = 2 := rfl
theorem n3 : Int32.toNatClampNeg 3 = 3 := rfl
theorem n5 : Int32.toNatClampNeg 5 = 5 := rfl
theorem carry_M (x : Int32) : okM (f_X9_carry x) (qCarry x) := by
  intro S g hg h
  unfold qCarry
  cases hx : pIn x (rN (gO g)) with
  | none =>
    simp only [f_X9_carry, X9_carry_b0, misLetter_f hg.o h.o hx, zb_some, zero_0, if_true]
    exact ⟨S, rfl, h⟩
  | some l =>
    obtain ⟨rfl, hl⟩ := pIn_some hx
    have hN := hg.o.2.1
    have hlen := hg.2.2.2.1.1
    have c64 := hg.ok.c64 hg.o
    have r5 : S.1 1 5 = iI (sC (gS g)) := h.s.2.2.2.2.1
    simp only [f_X9_carry, X9_carry_b0, misLetter_t hg.o h.o hl, zb_some, one_0, if_false, z5, n5, zc_true, zl_e, r5, mhas_eq c64 (show l < 6 by omega)]
    cases hb : (sC (gS g)).testBit l with
    | true =>
      simp only [if_true, one_0, if_false]
      exact ⟨S, rfl, h⟩
    | false =>
      simp only [if_neg Bool.false_ne_true, zero_0, if_true, z0, n0, zc_true, h.n.1, m0_40 hg]
      by_cases h40 : (gD g).length = 40
      · rw [if_pos h40, if_pos h40]
        exact ⟨S, rfl, h⟩
      · rw [if_neg h40, if_neg h40]
        obtain ⟨T, k1, kT⟩ := keepPast_M hg.o h.n (by omega : (gD g).length < 40)
        have hoT : oM T (gO g) := h.o.cg (by rw [kT.2.2.2.1 0 (by omega)]) (by rw [kT.2.2.2.1 0 (by omega)]) (kT.2.2.2.1 2 (by omega)) (kT.2.2.2.1 3 (by omega)) (kT.2.2.2.1 4 (by omega))
        obtain ⟨S1, e1, e2, e3, e4, e5⟩ := carries_M (B := 0) (by omega) hg.o hoT kT.2.1 hg.ok hl
        have e1' : f_X9_carries (0 : Int32) (iI ↑l) T = some (iI ↑(pEnd (gO g) (gS g) l), S1) := e1
        rw [k1]
        simp only [zb_some]
        rw [e1']
        refine ⟨S1, rfl, deed_M hg h (by omega) kT (by rw [pAct_0 hb]; exact e2) e3 e4 (fun q hq => e5 q (by omega))⟩
def qBribe (x : Int32) (g : pSig) : Int32 × pSig := match pIn x 10 with
  | none => (-1, g)
  | some n => if n = 0 then (-1, g) else if rN (gO g) = 0 ∨ sM (gS g) = 9 then (-4, g) else if (gD g).length = 40 then (-2, g) else (iI (min 9 (sM (gS g) + n) : Nat), gD_ g (gD g ++ [(1, n)]))
theorem bribe_wf (x : Int32) : ∀ g, pWf g → pWf (qBribe x g).2 := by
  intro g h
  unfold qBribe
  split
  · exact h
  · next l hl =>
    split
    · exact h
    · split
      · exact h
      · split
        · exact h
        · next h40 =>
          have := (pIn_some hl).2
          exact wf_snoc h h40 (pDok_1 (by omega))
theorem sM_9 {g : pSig} (hg : pWf g) : (iI (sM (gS g) : Int) = (9 : Int32)) ↔ sM (gS g) = 9 := by
  have h := hg.ok.1
  rw [lit_9, iI_eq (by omega) (by omega) (by omega) (by omega)]
  omega
theorem bribe_C (x : Int32) : okC (f_X8_bribe x) (qBribe x) := by
  intro S g hg h
  unfold qBribe
  simp only [f_X8_bribe, X8_bribe_b0, X8_bribe_b11, X8_bribe_b32]
  cases hx : pIn x 10 with
  | none =>
    have h3 := pIn_none hx
    obtain ⟨z, hz1, hz2, rfl⟩ := int_of x
    rw [iI_toInt hz1 hz2] at h3
    simp (disch := omega) only [show ((1 : Int32) = iI 1) from rfl, show ((9 : Int32) = iI 9) from rfl, iI_lt, iI_le]
    by_cases h4 : z < 1
    · rw [if_pos h4]
      exact ⟨S, rfl, h⟩
    · rw [if_neg h4, if_neg (by omega)]
      exact ⟨S, rfl, h⟩
  | some n =>
    obtain ⟨rfl, hn⟩ := pIn_some hx
    dsimp only
    have q1 : iI (n : Int) < (1 : Int32) ↔ (n : Int) < 1 := iI_lt (b := 1) (by omega) (by omega) (by omega) (by omega)
    have q9 : iI (n : Int) ≤ (9 : Int32) ↔ (n : Int) ≤ 9 := iI_le (b := 9) (by omega) (by omega) (by omega) (by omega)
    simp only [q1, q9]
    by_cases h0 : n = 0
    · rw [if_pos (by omega), if_pos h0]
      exact ⟨S, rfl, h⟩
    · rw [if_neg (by omega), if_neg h0]
      rw [if_pos (by omega)]
      by_cases hN : 0 < rN (gO g)
      · simp only [isPosted_t hg.o h.o hN, zb_some, one_0, if_false, zl_e, h.s.2.1, sM_9 hg]
        by_cases h9 : sM (gS g) = 9
        · rw [if_pos h9, if_pos (Or.inr h9)]
          exact ⟨S, rfl, h⟩
        · rw [if_neg h9, if_neg (show ¬ (rN (gO g) = 0 ∨ sM (gS g) = 9) by omega)]
          simp only [spare_eq h, zb_some, spare_lt hg]
          by_cases h40 : (gD g).length = 40
          · rw [if_neg (fun q => q h40), if_pos h40]
            exact ⟨S, rfl, h⟩
          · rw [if_pos h40, if_neg h40]
            obtain ⟨S1, e1, e2, e3⟩ := perf_RC (d := (1, n)) hg h (by have := hg.2.2.2.1.1; omega) (pDok_1 (by omega))
            have e1' : f_X4_perform 35 (1 : Int32) (iI ↑n) S = some ((), S1) := e1
            rw [e1']
            simp only [zb_some, zl_e]
            have hs := e2.s
            rw [show gS (gD_ g (gD g ++ [(1, n)])) = _ from pRun_snoc (gO g) (gD g) (1, n)] at hs
            rw [hs.2.1]
            exact ⟨S1, rfl, e2⟩
      · rw [if_pos (Or.inl (by omega))]
        simp only [isPosted_f h.o hN, zb_some, zero_0, if_true]
        exact ⟨S, rfl, h⟩
theorem mposted {S : zMem} {g : pSig} (hg : pWf g) (h : RM S g) : (S.1 0 2 = 0) ↔ rN (gO g) = 0 := by
  have hN := hg.o.2.1
  rw [h.o.2.1, lit_0, iI_eq (by omega) (by omega) (by omega) (by omega)]
  omega
theorem bribe_M (x : Int32) : okM (f_X9_bribe x) (qBribe x) := by
  intro S g hg h
  unfold qBribe
  simp only [f_X9_bribe, X9_bribe_b0, X9_bribe_b32, zl_e]
  rw [show (1 : Int64) = (iI 1).toInt64 from rfl, show (9 : Int64) = (iI 9).toInt64 from rfl, X9_in_eq, iI_toInt (z := 1) (by omega) (by omega), iI_toInt (z := 9) (by omega) (by omega)]
  simp only [zb_some, b01_0]
  cases hx : pIn x 10 with
  | none =>
    have h3 := pIn_none hx
    rw [if_pos (by omega)]
    exact ⟨S, rfl, h⟩
  | some n =>
    obtain ⟨rfl, hn⟩ := pIn_some hx
    rw [iI_toInt (z := (n : Int)) (by omega) (by omega)]
    dsimp only
    by_cases h0 : n = 0
    · rw [if_pos (by omega), if_pos h0]
      exact ⟨S, rfl, h⟩
    · have r2 : S.1 1 2 = iI (sM (gS g)) := h.s.2.1
      rw [if_neg (by omega), if_neg h0]
      simp only [mposted hg h, z2, n2, zc_true, r2, sM_9 hg]
      by_cases hN : rN (gO g) = 0
      · rw [if_pos hN, if_pos (Or.inl hN)]
        exact ⟨S, rfl, h⟩
      · rw [if_neg hN]
        by_cases h9 : sM (gS g) = 9
        · rw [if_pos h9, if_pos (Or.inr h9)]
          exact ⟨S, rfl, h⟩
        · rw [if_neg h9, if_neg (show ¬ (rN (gO g) = 0 ∨ sM (gS g) = 9) by omega)]
          simp only [z0, n0, zc_true, h.n.1, m0_40 hg]
          by_cases h40 : (gD g).length = 40
          · rw [if_pos h40, if_pos h40]
            exact ⟨S, rfl, h⟩
          · rw [if_neg h40, if_neg h40]
            have hlen := hg.2.2.2.1.1
            have hM := hg.ok.1
            obtain ⟨T, k1, kT⟩ := keepPast_M hg.o h.n (by omega : (gD g).length < 40)
            obtain ⟨a1, a2, a3, a4, a5, a6, a7⟩ := kT.2.1
            have t2 : T.1 1 2 = iI (sM (gS g)) := a2
            rw [k1]
            simp only [zb_some, t2, iI_add, lit_9]
            rw [X9_kept_eq (by omega) (by omega) (by omega) (by omega), show max 0 (min 9 ((sM (gS g) : Int) + (n : Int))) = ((min 9 (sM (gS g) + n) : Nat) : Int) by omega]
            simp only [zb_some]
            obtain ⟨T1, w1, w2, w3, w4, w5⟩ := wr T 1 2 (iI ((min 9 (sM (gS g) + n) : Nat) : Int))
            rw [w1, w2]
            refine ⟨T1, rfl, deed_M hg h (by omega) kT (show sMo T1 1 (gO g) (min 9 (sM (gS g) + n), (gS g).2) from ⟨(w3 _ (by omega)).trans a1, w2, (w3 _ (by omega)).trans a3, (w3 _ (by omega)).trans a4, (w3 _ (by omega)).trans a5, fun q hq => (w3 _ (by omega)).trans (a6 q hq), fun q hq hb => (w3 _ (by omega)).trans (a7 q hq hb)⟩) w4 w5 (fun q hq => w3 q (by omega))⟩
def qWeather (x : Int32) (g : pSig) : Int32 × pSig := match pIn x 3 with
  | none => (-1, g)
  | some n => if rN (gO g) = 0 ∨ sE (gS g) = n then (-4, g) else if (gD g).length = 40 then (-2, g) else (iI (sE (gS g)), gD_ g (gD g ++ [(2, n)]))
theorem weather_wf (x : Int32) : ∀ g, pWf g → pWf (qWeather x g).2 := by
  intro g h
  unfold qWeather
  split
  · exact h
  · next l hl =>
    split
    · exact h
    · split
      · exact h
      · next h40 =>
        have := (pIn_some hl).2
        exact wf_snoc h h40 (pDok_2 (by omega))
theorem weather_C (x : Int32) : okC (f_X8_weather x) (qWeather x) := by
  intro S g hg h
  unfold qWeather
  simp only [f_X8_weather, X8_weather_b0, X8_weather_b28]
  rw [show (2 : Int32) = iI ((2 : Nat) : Int) from rfl]
  cases hx : pIn x 3 with
  | none =>
    simp only [within_f hx (show 2 < 1000000 by omega), zb_some, zero_0, if_true]
    exact ⟨S, rfl, h⟩
  | some n =>
    obtain ⟨rfl, hn⟩ := pIn_some hx
    have hE := hg.ok.2.1
    simp only [within_t (show n ≤ 2 by omega) (show 2 < 1000000 by omega), zb_some, one_0, if_false]
    by_cases hN : 0 < rN (gO g)
    · simp (disch := omega) only [isPosted_t hg.o h.o hN, zb_some, one_0, if_false, zl_e, h.s.2.2.1, iI_eq]
      by_cases h9 : sE (gS g) = n
      · rw [if_pos (by omega), if_pos (Or.inr h9)]
        exact ⟨S, rfl, h⟩
      · rw [if_neg (by omega), if_neg (show ¬ (rN (gO g) = 0 ∨ sE (gS g) = n) by omega)]
        simp only [spare_eq h, zb_some, spare_lt hg, zl_e, h.s.2.2.1]
        by_cases h40 : (gD g).length = 40
        · rw [if_neg (fun q => q h40), if_pos h40]
          exact ⟨S, rfl, h⟩
        · rw [if_pos h40, if_neg h40]
          obtain ⟨S1, e1, e2, e3⟩ := perf_RC (d := (2, n)) hg h (by have := hg.2.2.2.1.1; omega) (pDok_2 (by omega))
          have e1' : f_X4_perform 35 (iI ((2 : Nat) : Int)) (iI ↑n) S = some ((), S1) := e1
          rw [e1']
          exact ⟨S1, rfl, e2⟩
    · rw [if_pos (Or.inl (by omega))]
      simp only [isPosted_f h.o hN, zb_some, zero_0, if_true]
      exact ⟨S, rfl, h⟩
theorem weather_M (x : Int32) : okM (f_X9_weather x) (qWeather x) := by
  intro S g hg h
  unfold qWeather
  simp only [f_X9_weather, X9_weather_b0, X9_weather_b33, zl_e]
  cases hx : pIn x 3 with
  | none =>
    simp only [min_in_f (n := 2) (m := 2) rfl hx (by omega), zb_some, zero_0, if_true]
    exact ⟨S, rfl, h⟩
  | some n =>
    obtain ⟨rfl, hn⟩ := pIn_some hx
    have hE := hg.ok.2.1
    have r3 : S.1 1 3 = iI (sE (gS g)) := h.s.2.2.1
    simp only [min_in_t (n := 2) (m := 2) rfl (show n ≤ 2 by omega) (by omega), zb_some, one_0, if_false, mposted hg h, z3, n3, zc_true, r3]
    by_cases hN : rN (gO g) = 0
    · rw [if_pos hN, if_pos (Or.inl hN)]
      exact ⟨S, rfl, h⟩
    · rw [if_neg hN]
      simp (disch := omega) only [iI_eq]
      by_cases h9 : sE (gS g) = n
      · rw [if_pos (by omega), if_pos (Or.inr h9)]
        exact ⟨S, rfl, h⟩
      · rw [if_neg (by omega), if_neg (show ¬ (rN (gO g) = 0 ∨ sE (gS g) = n) by omega)]
        simp only [z0, n0, zc_true, h.n.1, m0_40 hg]
        by_cases h40 : (gD g).length = 40
        · rw [if_pos h40, if_pos h40]
          exact ⟨S, rfl, h⟩
        · rw [if_neg h40, if_neg h40]
          have hlen := hg.2.2.2.1.1
          obtain ⟨T, k1, kT⟩ := keepPast_M hg.o h.n (by omega : (gD g).length < 40)
          obtain ⟨a1, a2, a3, a4, a5, a6, a7⟩ := kT.2.1
          rw [k1]
          simp only [zb_some]
          obtain ⟨T1, w1, w2, w3, w4, w5⟩ := wr T 1 3 (iI n)
          rw [w1]
          refine ⟨T1, rfl, deed_M hg h (by omega) kT (show sMo T1 1 (gO g) (sM (gS g), n, (gS g).2.2) from ⟨(w3 _ (by omega)).trans a1, (w3 _ (by omega)).trans a2, w2, (w3 _ (by omega)).trans a4, (w3 _ (by omega)).trans a5, fun q hq => (w3 _ (by omega)).trans (a6 q hq), fun q hq hb => (w3 _ (by omega)).trans (a7 q hq hb)⟩) w4 w5 (fun q hq => w3 q (by omega))⟩
/-! day -/
def pPop (c : Nat) : Nat := pSum (fun l => if c.testBit l then 1 else 0) 6
def pBC (x0 : Int32) : Int32 :=
  let v1 := (x0.toUInt32 >>> ((1 : Int32).toUInt32 &&& Int32.toUInt32 31)).toInt32
  let v2 := v1 &&& (1431655765 : Int32)
  let v3 := x0 - v2
  let v4 := v3 &&& (858993459 : Int32)
  let v5 := (v3.toUInt32 >>> ((2 : Int32).toUInt32 &&& Int32.toUInt32 31)).toInt32
  let v6 := v5 &&& (858993459 : Int32)
  let v7 := v4 + v6
  let v8 := (v7.toUInt32 >>> ((4 : Int32).toUInt32 &&& Int32.toUInt32 31)).toInt32
  let v9 := v7 + v8
  let v10 := v9 &&& (252645135 : Int32)
  let v11 := (v10.toUInt32 >>> ((8 : Int32).toUInt32 &&& Int32.toUInt32 31)).toInt32
  let v12 := v10 + v11
  let v13 := (v12.toUInt32 >>> ((16 : Int32).toUInt32 &&& Int32.toUInt32 31)).toInt32
  let v14 := v12 + v13
  v14 &&& (63 : Int32)
theorem pBC_eq : ∀ c, c < 64 → pBC (iI (c : Nat)) = iI (pPop c : Nat) := by decide +kernel
theorem bitCount_eq {c : Nat} (hc : c < 64) (S : zMem) : f_J6_bitCount_0f7a4 (iI c) S = some (iI (pPop c), S) := by
  rw [← pBC_eq c hc]
  rfl
theorem bits_eq {c : Nat} (hc : c < 64) (S : zMem) : f_X9_bits (iI c) S = some (iI (pPop c), S) := by
  refine zfor (F := fun f i => X9_bits_l4 f (iI c) (iI (pSum (fun l => if c.testBit l then 1 else 0) i : Nat)) (iI (i : Nat)) S) (n := 6) (fun f i hi => ?_) (fun f => ?_) (zF_gt (by omega))
  · simp (disch := omega) only [X9_bits_l4, X9_bits_b4, show ((6 : Int32) = iI 6) from rfl, iI_le]
    rw [if_neg (by omega)]
    simp only [zl_e, bitI c hc i hi]
    rw [show pSum (fun l => if c.testBit l then 1 else 0) (i + 1) = pSum (fun l => if c.testBit l then 1 else 0) i + (if c.testBit i then 1 else 0) from rfl]
    by_cases hb : c.testBit i = true
    · rw [if_pos hb, if_pos hb, lit_1, iI_add, iI_add]
      rfl
    · rw [if_neg hb, if_neg hb, lit_1, lit_0, iI_add, iI_add]
      rfl
  · simp (disch := omega) only [X9_bits_l4, X9_bits_b4, show ((6 : Int32) = iI 6) from rfl, iI_le]
    rw [if_pos (by omega)]
    rfl
def qDay (g : pSig) : Int32 × pSig := if rN (gO g) = 0 then (-4, g) else if (gD g).length = 40 then (-2, g) else (iI (pPop (sC (gS g))), gD_ g (gD g ++ [(3, 0)]))
theorem day_wf : ∀ g, pWf g → pWf (qDay g).2 := by
  intro g h
  unfold qDay
  split
  · exact h
  · split
    · exact h
    · next h40 => exact wf_snoc h h40 pDok_3
theorem day_C : okC f_X8_day qDay := by
  intro S g hg h
  unfold qDay
  simp only [f_X8_day, X8_day_b0]
  by_cases hN : 0 < rN (gO g)
  · rw [if_neg (by omega)]
    simp only [isPosted_t hg.o h.o hN, zb_some, one_0, if_false, spare_eq h, spare_lt hg]
    by_cases h40 : (gD g).length = 40
    · rw [if_neg (fun q => q h40), if_pos h40]
      exact ⟨S, rfl, h⟩
    · rw [if_pos h40, if_neg h40]
      simp only [zl_e, h.s.2.2.2.2.1, bitCount_eq (hg.ok.c64 hg.o), zb_some]
      obtain ⟨S1, e1, e2, e3⟩ := perf_RC (d := (3, 0)) hg h (by have := hg.2.2.2.1.1; omega) pDok_3
      have e1' : f_X4_perform 35 (3 : Int32) (0 : Int32) S = some ((), S1) := e1
      rw [e1']
      exact ⟨S1, rfl, e2⟩
  · rw [if_pos (by omega)]
    simp only [isPosted_f h.o hN, zb_some, zero_0, if_true]
    exact ⟨S, rfl, h⟩
theorem beginDay_M {T : zMem} {B : Nat} {o : pRoad} {s : pSt} (hB : B + 18 ≤ 2810) (ho : pRok o) (hs : sMo T (B + 1) o s) : ∃ S1, f_X9_beginDay (iI B) T = some ((), S1) ∧ sMo S1 (B + 1) o (sM s, sE s, 0, 0, sD s + 1, sB s, sX s) ∧ (∀ q, q ≠ 1 → S1.1 q = T.1 q) ∧ S1.2 = T.2 ∧ ∀ q, q < B + 1 ∨ B + 18 ≤ q → S1.1 1 q = T.1 1 q := by
  have hH := ho.1
  have hN := ho.2.1
  obtain ⟨a1, a2, a3, a4, a5, a6, a7⟩ := hs
  simp only [f_X9_beginDay, X9_beginDay_b0, zl_e]
  rw [lit_4, lit_5, lit_1, iI_add, iI_add, iI_add]
  simp (disch := omega) only [zi_I, zc_true, iI_cl]
  rw [show ((B : Int) + 4).toNat = B + 4 by omega, show ((B : Int) + 5).toNat = B + 5 by omega, show ((B : Int) + 1).toNat = B + 1 by omega]
  obtain ⟨T1, w1, w2, w3, w4, w5⟩ := wr T 1 (B + 4) (0 : Int32)
  rw [w1]
  obtain ⟨T2, x1, x2, x3, x4, x5⟩ := wr T1 1 (B + 5) (0 : Int32)
  rw [x1, x3 (B + 1) (by omega), w3 (B + 1) (by omega), a1, iI_add]
  obtain ⟨T3, y1, y2, y3, y4, y5⟩ := wr T2 1 (B + 1) (iI ((sD s : Int) + 1))
  rw [y1]
  have hq : ∀ q, q ≠ B + 1 → q ≠ B + 4 → q ≠ B + 5 → T3.1 1 q = T.1 1 q := fun q h1 h2 h3 => by rw [y3 q h1, x3 q h3, w3 q h2]
  refine ⟨T3, rfl, ⟨y2, ?_, ?_, ?_, ?_, fun q hq2 => ?_, fun q hq2 hb => ?_⟩, fun q h => by rw [y4 q h, x4 q h, w4 q h], by rw [y5, x5, w5], fun q h => hq q (by omega) (by omega) (by omega)⟩
  · exact (hq _ (by omega) (by omega) (by omega)).trans a2
  · exact (hq _ (by omega) (by omega) (by omega)).trans a3
  · rw [y3 _ (by omega), x3 _ (by omega)]
    exact w2
  · rw [y3 _ (by omega)]
    exact x2
  · exact (hq _ (by omega) (by omega) (by omega)).trans (a6 q hq2)
  · have hb0 : (0 : Nat).testBit q = true := hb
    rw [Nat.zero_testBit] at hb0
    exact absurd hb0 (by decide)
theorem day_M : okM f_X9_day qDay := by
  intro S g hg h
  unfold qDay
  simp only [f_X9_day, X9_day_b0, zl_e, mposted hg h]
  by_cases hN : rN (gO g) = 0
  · rw [if_pos hN, if_pos hN]
    exact ⟨S, rfl, h⟩
  · rw [if_neg hN, if_neg hN]
    simp only [z0, n0, zc_true, h.n.1, m0_40 hg]
    by_cases h40 : (gD g).length = 40
    · rw [if_pos h40, if_pos h40]
      exact ⟨S, rfl, h⟩
    · rw [if_neg h40, if_neg h40]
      have hlen := hg.2.2.2.1.1
      obtain ⟨T, k1, kT⟩ := keepPast_M hg.o h.n (by omega : (gD g).length < 40)
      have t5 : T.1 1 5 = iI (sC (gS g)) := kT.2.1.2.2.2.2.1
      rw [k1]
      simp only [zb_some, z5, n5, zc_true, t5, bits_eq (hg.ok.c64 hg.o)]
      obtain ⟨S1, e1, e2, e3, e4, e5⟩ := beginDay_M (B := 0) (by omega) hg.o kT.2.1
      have e1' : f_X9_beginDay (0 : Int32) T = some ((), S1) := e1
      rw [e1']
      exact ⟨S1, rfl, deed_M (d := (3, 0)) hg h (by omega) kT e2 e3 e4 (fun q hq => e5 q (by omega))⟩
