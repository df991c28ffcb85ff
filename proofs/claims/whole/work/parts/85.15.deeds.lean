/-! deeds: the class -/
theorem sCl.cg2 {S S1 : zMem} {P : Nat} {o : pRoad} {s : pSt} (h : sCl S P o s) (h0 : ∀ k, 7 ≤ k → k ≤ 11 → S1.1 P k = S.1 P k) (h1 : S1.1 (P + 1) = S.1 (P + 1)) (h2 : S1.1 (P + 2) = S.1 (P + 2)) : sCl S1 P o s := by
  unfold sCl at *
  rw [h0 7 (by omega) (by omega), h0 8 (by omega) (by omega), h0 9 (by omega) (by omega), h0 10 (by omega) (by omega), h0 11 (by omega) (by omega), h1, h2]
  exact h
theorem dCl.cg2 {S S1 : zMem} {P : Nat} {ds : pDs} (h : dCl S P ds) (h0 : S1.1 P 6 = S.1 P 6) (h1 : S1.1 (P + 3) = S.1 (P + 3)) (h2 : S1.1 (P + 4) = S.1 (P + 4)) : dCl S1 P ds := by
  unfold dCl at *
  rw [h0, h1, h2]
  exact h
theorem pAct_0 {o : pRoad} {s : pSt} {l : Nat} (h : (sC s).testBit l = false) : pAct o s (0, l) = pDel o s l := by
  unfold pAct
  rw [if_pos rfl, if_neg (by rw [h]; exact Bool.false_ne_true)]
theorem pAct_0t {o : pRoad} {s : pSt} {l : Nat} (h : (sC s).testBit l = true) : pAct o s (0, l) = s := by
  unfold pAct
  rw [if_pos rfl, if_pos h]
/-- a deed is done to what stands, in the class -/
theorem act_C {S : zMem} {P : Nat} {o : pRoad} {s : pSt} {d : Nat × Nat} (hP : 35 ≤ P) (ho : pRok o) (h : oC S o) (hs : sCl S P o s) (hk : pSok o s) (hd : pDok o d) (hD : sD s ≤ 100) : ∃ S1, (if iI (d.1 : Int) = (0 : Int32) then (zb (f_X4_deliver P (iI d.2) S) fun v6 S => X4_perform_b114 S) else (if iI (d.1 : Int) = (1 : Int32) then (zl (S.1 (P) 8) fun v8 => zl (v8 + iI d.2) fun v9 => zb (f_X6_moodWithin v9 S) fun v10 S => zl (zp S (P) (upd (S.1 (P)) 8 v10)) fun S => X4_perform_b114 S) else (if iI (d.1 : Int) = (2 : Int32) then (zl (zp S (P) (upd (S.1 (P)) 9 (iI d.2))) fun S => X4_perform_b114 S) else (zl (S.1 (P) 7) fun v13 => zl (v13 + (1 : Int32)) fun v14 => zl (zp S (P) (upd (S.1 (P)) 7 v14)) fun S => zb (f_X4_beginDay P S) fun v15 S => X4_perform_b114 S)))) = some ((), S1) ∧ sCl S1 P o (pAct o s d) ∧ (∀ q, q ≠ P → q ≠ P + 1 → q ≠ P + 2 → S1.1 q = S.1 q) ∧ S1.2 = S.2 ∧ ∀ k, k < 7 → S1.1 P k = S.1 P k := by
  obtain ⟨d1, d2⟩ := d
  obtain ⟨hd1, hd2, hd3, hd4⟩ := hd
  dsimp only at hd1 hd2 hd3 hd4 ⊢
  have hM := hk.1
  have hN := ho.2.1
  have e : d1 = 0 ∨ d1 = 1 ∨ d1 = 2 ∨ d1 = 3 := by omega
  rcases e with rfl | rfl | rfl | rfl
  · simp only [eq_00, if_true]
    have hl := hd3 rfl
    cases hb : (sC s).testBit d2 with
    | false =>
      obtain ⟨S1, e1, e2, e3, e4, e5, e6⟩ := deliver_C hP ho h hs hk hl hb
      rw [e1, pAct_0 hb]
      exact ⟨S1, rfl, e2, e4, e5, fun k hk => e6 k (by omega)⟩
    | true =>
      rw [pAct_0t hb]
      simp only [f_X4_deliver, X4_deliver_b0, wasCarried_t hs.2.2.2.2.1 (hk.c64 ho) (show d2 < 6 by omega) hb, zb_some, one_0, if_false]
      exact ⟨S, rfl, hs, fun _ _ _ _ => rfl, rfl, fun _ _ => rfl⟩
  · simp only [eq_01, eq_11, if_true, if_false, zl_e, hs.2.1, iI_add]
    rw [X6_moodWithin_eq (by omega) (by omega), show max 0 (min 9 ((sM s : Int) + (d2 : Int))) = ((min 9 (sM s + d2) : Nat) : Int) by omega]
    simp only [zb_some]
    obtain ⟨T, w1, w2, w3, w4, w5⟩ := wr S P 8 (iI ((min 9 (sM s + d2) : Nat) : Int))
    rw [w1]
    obtain ⟨a1, a2, a3, a4, a5, a6, a7⟩ := hs
    refine ⟨T, rfl, ⟨(w3 _ (by omega)).trans a1, w2, (w3 _ (by omega)).trans a3, (w3 _ (by omega)).trans a4, (w3 _ (by omega)).trans a5, fun q hq => ?_, fun q hq hb => ?_⟩, fun q h1 h2 h3 => w4 q h1, w5, fun k hk => w3 k (by omega)⟩
    · rw [w4 (P + 1) (by omega)]
      exact a6 q hq
    · rw [w4 (P + 2) (by omega)]
      exact a7 q hq hb
  · simp only [eq_02, eq_12, eq_22, if_true, if_false, zl_e]
    obtain ⟨T, w1, w2, w3, w4, w5⟩ := wr S P 9 (iI d2)
    rw [w1]
    obtain ⟨a1, a2, a3, a4, a5, a6, a7⟩ := hs
    refine ⟨T, rfl, ⟨(w3 _ (by omega)).trans a1, (w3 _ (by omega)).trans a2, w2, (w3 _ (by omega)).trans a4, (w3 _ (by omega)).trans a5, fun q hq => ?_, fun q hq hb => ?_⟩, fun q h1 h2 h3 => w4 q h1, w5, fun k hk => w3 k (by omega)⟩
    · rw [w4 (P + 1) (by omega)]
      exact a6 q hq
    · rw [w4 (P + 2) (by omega)]
      exact a7 q hq hb
  · simp only [eq_03, eq_13, eq_23, if_false, zl_e, hs.1, lit_1, iI_add]
    obtain ⟨T, w1, w2, w3, w4, w5⟩ := wr S P 7 (iI ((sD s : Int) + 1))
    rw [w1]
    simp only [f_X4_beginDay, X4_beginDay_b0, zl_e]
    obtain ⟨T2, x1, x2, x3, x4, x5⟩ := wr T P 10 (0 : Int32)
    rw [x1]
    obtain ⟨T3, y1, y2, y3, y4, y5⟩ := wr T2 P 11 (0 : Int32)
    rw [y1]
    obtain ⟨a1, a2, a3, a4, a5, a6, a7⟩ := hs
    have hq : ∀ q, q ≠ P → T3.1 q = S.1 q := fun q hq => by rw [y4 q hq, x4 q hq, w4 q hq]
    refine ⟨T3, rfl, ⟨?_, ?_, ?_, ?_, y2, fun q hq2 => ?_, fun q hq2 hb => ?_⟩, fun q h1 h2 h3 => hq q h1, by rw [y5, x5, w5], fun k hk => ?_⟩
    · rw [y3 7 (by omega), x3 7 (by omega), w2]
      rfl
    · rw [y3 8 (by omega), x3 8 (by omega), w3 8 (by omega)]
      exact a2
    · rw [y3 9 (by omega), x3 9 (by omega), w3 9 (by omega)]
      exact a3
    · rw [y3 10 (by omega), x2]
      rfl
    · rw [hq (P + 1) (by omega)]
      exact a6 q hq2
    · have hb0 : (0 : Nat).testBit q = true := hb
      rw [Nat.zero_testBit] at hb0
      exact absurd hb0 (by decide)
    · rw [y3 k (by omega), x3 k (by omega), w3 k (by omega)]
/-- DEEDS as the class keeps them: those that are, and what lies behind -/
def eCl (S : zMem) (P : Nat) (i : Nat) (d : Nat × Nat) : Prop := S.1 (P + 3) i = iI d.1 ∧ S.1 (P + 4) i = iI d.2
theorem perform_C {S : zMem} {P : Nat} {o : pRoad} {ds : pDs} {d : Nat × Nat} (hP : 35 ≤ P) (ho : pRok o) (h : oC S o) (hn : nC S P o ds) (hds : pDsok o ds) (hl : ds.length < 40) (hd : pDok o d) : ∃ S1, f_X4_perform P (iI d.1) (iI d.2) S = some ((), S1) ∧ nC S1 P o (ds ++ [d]) ∧ (∀ q, (q < P ∨ P + 5 ≤ q) → S1.1 q = S.1 q) ∧ S1.2 = S.2 ∧ S1.1 P 5 = S.1 P 5 ∧ eCl S1 P ds.length d ∧ ∀ i, i ≠ ds.length → S1.1 (P + 3) i = S.1 (P + 3) i ∧ S1.1 (P + 4) i = S.1 (P + 4) i := by
  obtain ⟨hs, hd6, hde⟩ := hn
  have hk := pRun_ok ho hds.2
  have hDl : sD (pRun o ds) ≤ 0 + ds.length := sD_le ds (pBeg o)
  simp only [f_X4_perform, X4_perform_b0, f_X4_spareDeeds, X4_spareDeeds_b0, zl_e, zb_some, hd6]
  simp (disch := omega) only [lit_40, iI_sub, show ((1 : Int32) ≤ iI (40 - (ds.length : Int)) ↔ (1 : Int) ≤ 40 - (ds.length : Int)) from iI_le (a := 1) (by omega) (by omega) (by omega) (by omega)]
  rw [if_pos (by omega)]
  simp (disch := omega) only [zi_I, zc_true, iI_cln]
  obtain ⟨T1, w1, w2, w3, w4, w5⟩ := wr S (P + 3) ds.length (iI d.1)
  rw [w1, w4 P (by omega), hd6]
  simp (disch := omega) only [zi_I, zc_true, iI_cln]
  obtain ⟨T2, x1, x2, x3, x4, x5⟩ := wr T1 (P + 4) ds.length (iI d.2)
  rw [x1, x4 P (by omega), w4 P (by omega), hd6]
  have en : iI (ds.length : Int) + 1 = iI ((ds.length : Int) + 1) := by rw [lit_1, iI_add]
  rw [en]
  obtain ⟨T3, y1, y2, y3, y4, y5⟩ := wr T2 P 6 (iI ((ds.length : Int) + 1))
  have eP : T2.1 P = S.1 P := by rw [x4 P (by omega), w4 P (by omega)]
  have y1' : zp T2 P (upd (S.1 P) 6 (iI ((ds.length : Int) + 1))) = T3 := by
    rw [← y1, x4 P (by omega), w4 P (by omega)]
  rw [y1']
  have hq : ∀ q, q ≠ P → q ≠ P + 3 → q ≠ P + 4 → T3.1 q = S.1 q := fun q h1 h2 h3 => by rw [y4 q h1, x4 q h3, w4 q h2]
  have hs3 : sCl T3 P o (pRun o ds) := hs.cg2 (fun k h1 h2 => by rw [y3 k (by omega), eP]) (hq (P + 1) (by omega) (by omega) (by omega)) (hq (P + 2) (by omega) (by omega) (by omega))
  have ho3 : oC T3 o := h.cg (fun c h1 h2 => hq c (by omega) (by omega) (by omega))
  obtain ⟨S1, e1, e2, e3, e4, e5⟩ := act_C hP ho ho3 hs3 hk hd (by omega)
  refine ⟨S1, e1, ⟨by rw [pRun_snoc]; exact e2, ?_, fun i d' hi => ?_⟩, fun q hq2 => by rw [e3 q (by omega) (by omega) (by omega), hq q (by omega) (by omega) (by omega)], by rw [e4, y5, x5, w5], by rw [e5 5 (by omega), y3 5 (by omega), eP], ?_, fun i hi => ?_⟩
  · rw [e5 6 (by omega), y2, List.length_append]
    rfl
  · rw [e3 (P + 3) (by omega) (by omega) (by omega), e3 (P + 4) (by omega) (by omega) (by omega), y4 (P + 3) (by omega), y4 (P + 4) (by omega), x4 (P + 3) (by omega)]
    by_cases hil : i = ds.length
    · subst hil
      rw [List.getElem?_append_right (Nat.le_refl _), Nat.sub_self] at hi
      cases hi
      exact ⟨w2, x2⟩
    · have hlt : i < ds.length := by
        have := (List.getElem?_eq_some_iff.mp hi).1
        rw [List.length_append] at this
        simp only [List.length_cons, List.length_nil] at this
        omega
      rw [List.getElem?_append_left hlt] at hi
      rw [w3 i hil, x3 i hil, w4 (P + 4) (by omega)]
      exact hde i d' hi
  · unfold eCl
    rw [e3 (P + 3) (by omega) (by omega) (by omega), e3 (P + 4) (by omega) (by omega) (by omega), y4 (P + 3) (by omega), y4 (P + 4) (by omega), x4 (P + 3) (by omega)]
    exact ⟨w2, x2⟩
  · rw [e3 (P + 3) (by omega) (by omega) (by omega), e3 (P + 4) (by omega) (by omega) (by omega), y4 (P + 3) (by omega), y4 (P + 4) (by omega), x4 (P + 3) (by omega)]
    exact ⟨w3 i hi, by rw [x3 i hi, w4 (P + 4) (by omega)]⟩
/-! the answers' states -/
def gD_ (g : pSig) (ds : pDs) : pSig := (g.1, g.2.1, g.2.2.1, g.2.2.2.1, ds, g.2.2.2.2.2)
def gK_ (g : pSig) (kp : Nat → Option pDs) : pSig := (g.1, g.2.1, g.2.2.1, g.2.2.2.1, g.2.2.2.2.1, kp)
theorem wf_D {g : pSig} {ds : pDs} (h : pWf g) (hd : pDsok (gO g) ds) : pWf (gD_ g ds) := ⟨h.1, h.2.1, h.2.2.1, hd, h.2.2.2.2⟩
theorem ok_snoc {o : pRoad} {ds : pDs} {d : Nat × Nat} (h : pDsok o ds) (hl : ds.length < 40) (hd : pDok o d) : pDsok o (ds ++ [d]) := by
  refine ⟨by rw [List.length_append]; simp only [List.length_cons, List.length_nil]; omega, fun x hx => ?_⟩
  rcases List.mem_append.mp hx with hx | hx
  · exact h.2 x hx
  · rw [List.mem_singleton.mp hx]
    exact hd
theorem RC.deeds {S S1 : zMem} {g : pSig} {ds : pDs} (h : RC S g) (hn : nC S1 35 (gO g) ds) (hq : ∀ q, (q < 35 ∨ 35 + 5 ≤ q) → S1.1 q = S.1 q) (h2 : S1.2 = S.2) (h5 : 0 < rH (gO g) → S1.1 35 5 = 1) : RC S1 (gD_ g ds) := by
  obtain ⟨a1, a2, a3, a4, a5, a6, a7⟩ := h
  exact ⟨a1.cg (hq 0 (by omega)) (by rw [h2]) (hq 67 (by omega)), a2.cg (fun c x y => hq c (by omega)), a3.cg (fun c x y => hq c (by omega)), a4.cg (fun c x y => hq c (by omega)), hn, h5, a7.cg (fun c x y => hq c (by omega))⟩
theorem perf_RC {S : zMem} {g : pSig} {d : Nat × Nat} (hg : pWf g) (h : RC S g) (hl : (gD g).length < 40) (hd : pDok (gO g) d) : ∃ S1, f_X4_perform 35 (iI d.1) (iI d.2) S = some ((), S1) ∧ RC S1 (gD_ g (gD g ++ [d])) ∧ pWf (gD_ g (gD g ++ [d])) := by
  obtain ⟨S1, e1, e2, e3, e4, e5, e6⟩ := perform_C (by omega) hg.o h.o h.2.2.2.2.1 hg.2.2.2.1 hl hd
  exact ⟨S1, e1, h.deeds e2 e3 e4 (fun q => by rw [e5]; exact h.2.2.2.2.2.1 q), wf_D hg (ok_snoc hg.2.2.2.1 hl hd)⟩
theorem rN_rH {o : pRoad} (ho : pRok o) (h : 0 < rN o) : 0 < rH o := by
  have := (ho.2.2.1 0 h).2.1
  omega
theorem spare_eq {S : zMem} {g : pSig} (h : RC S g) : f_X4_spareDeeds 35 S = some (iI (40 - ((gD g).length : Int)), S) := by
  simp only [f_X4_spareDeeds, X4_spareDeeds_b0, zl_e, h.d.1, lit_40, iI_sub]
theorem spare_lt {g : pSig} (hg : pWf g) : ((1 : Int32) ≤ iI (40 - ((gD g).length : Int))) ↔ (gD g).length ≠ 40 := by
  have h := hg.2.2.2.1.1
  rw [lit_1, iI_le (by omega) (by omega) (by omega) (by omega)]
  omega
/-! deeds: the reference -/
theorem keepPast_eq {S : zMem} {n : Nat} (h0 : S.1 1 0 = iI n) (hn : n < 40) : f_X9_keepPast S = some ((), zp (cpb S 1 (18 + 17 * n) 17) 1 (upd ((cpb S 1 (18 + 17 * n) 17).1 1) 0 (iI ((n : Int) + 1)))) := by
  have h := zfor (F := fun f i => X9_keepPast_l2 f (iI (i : Nat)) (cpb S 1 (18 + 17 * n) i)) (r := some ((), zp (cpb S 1 (18 + 17 * n) 17) 1 (upd ((cpb S 1 (18 + 17 * n) 17).1 1) 0 (iI ((n : Int) + 1))))) (n := 17) (fun f i hi => ?_) (fun f => ?_) (zF_gt (n := 17) (by omega))
  · rw [cpb_0] at h
    exact h
  · have e0 : (cpb S 1 (18 + 17 * n) i).1 1 0 = iI n := (cpb_out (by omega)).trans h0
    simp (disch := omega) only [X9_keepPast_l2, X9_keepPast_b2, lit_17, iI_le]
    rw [if_neg (by omega)]
    rw [show zi (0 : Int32) 2810 = true from rfl, show Int32.toNatClampNeg 0 = 0 from rfl, e0]
    simp (disch := omega) only [zl_e, zc_true, lit_18, lit_1, iI_add, iI_mul, zi_I, iI_cl]
    have e := cpb_s (S := S) (a := 1) (b := 18 + 17 * n) (m := i) (Or.inl (by omega))
    rw [show ((18 : Int) + 17 * (n : Int) + (i : Int)).toNat = 18 + 17 * n + i by omega, show ((1 : Int) + (i : Int)).toNat = 1 + i by omega, e]
    rfl
  · have e0 : (cpb S 1 (18 + 17 * n) 17).1 1 0 = iI n := (cpb_out (by omega)).trans h0
    simp (disch := omega) only [X9_keepPast_l2, X9_keepPast_b2, lit_17, iI_le]
    rw [if_pos (by omega), show zi (0 : Int32) 2810 = true from rfl, show Int32.toNatClampNeg 0 = 0 from rfl, e0]
    simp only [zl_e, zc_true, lit_1, iI_add]
theorem keepPast_M {S : zMem} {o : pRoad} {ds : pDs} (ho : pRok o) (hn : nM S 0 o ds) (hl : ds.length < 40) : ∃ T, f_X9_keepPast S = some ((), T) ∧ T.1 1 0 = iI ((ds.length : Int) + 1) ∧ sMo T 1 o (pRun o ds) ∧ (∀ i, i < ds.length + 1 → sMo T (18 + 17 * i) o (pRun o (ds.take i))) ∧ (∀ q, q ≠ 1 → T.1 q = S.1 q) ∧ T.2 = S.2 ∧ (∀ q, 698 ≤ q → T.1 1 q = S.1 1 q) := by
  obtain ⟨a1, a2, a3⟩ := hn
  refine ⟨_, keepPast_eq a1 hl, ?_, ?_, fun i hi => ?_, fun q hq => ?_, rfl, fun q hq => ?_⟩
  · rw [zp_eq, upd_eq]
  · refine a2.mv ho (fun k hk => ?_)
    rw [zp_eq, upd_ne (by omega), cpb_out (by omega)]
  · by_cases hil : i = ds.length
    · subst hil
      rw [List.take_length]
      refine a2.mv ho (fun k hk => ?_)
      rw [zp_eq, upd_ne (by omega), cpb_in (by omega)]
    · refine (a3 i (by omega)).mv ho (fun k hk => ?_)
      rw [zp_eq, upd_ne (by omega), cpb_out (by omega)]
  · rw [zp_ne hq, cpb_ne hq]
  · rw [zp_eq, upd_ne (by omega), cpb_out (by omega)]
theorem nM.snoc {T S1 : zMem} {o : pRoad} {ds : pDs} {d : Nat × Nat} (ho : pRok o) (h0 : T.1 1 0 = iI ((ds.length : Int) + 1)) (hp : ∀ i, i < ds.length + 1 → sMo T (18 + 17 * i) o (pRun o (ds.take i))) (hs : sMo S1 1 o (pAct o (pRun o ds) d)) (hq : ∀ q, q = 0 ∨ 18 ≤ q → S1.1 1 q = T.1 1 q) : nM S1 0 o (ds ++ [d]) := by
  refine ⟨?_, by rw [pRun_snoc]; exact hs, fun i hi => ?_⟩
  · rw [hq 0 (by omega), h0, List.length_append]
    rfl
  · rw [List.length_append] at hi
    simp only [List.length_cons, List.length_nil] at hi
    rw [List.take_append_of_le_length (by omega)]
    refine (hp i (by omega)).mv ho (fun k hk => ?_)
    rw [hq _ (by omega)]
theorem RM.deeds {S S1 : zMem} {g : pSig} {ds : pDs} (hg : pWf g) (h : RM S g) (hn : nM S1 0 (gO g) ds) (h1 : ∀ c, c ≠ 1 → S1.1 c = S.1 c) (h2 : S1.2 = S.2) (hq : ∀ q, 698 ≤ q → q < 2792 → S1.1 1 q = S.1 1 q) : RM S1 (gD_ g ds) := by
  obtain ⟨a1, a2, a3, a4, a5, a6⟩ := h
  have e0 := h1 0 (by omega)
  exact ⟨a1.cg (by rw [e0]) (by rw [e0]) (by rw [h2]) (h1 9 (by omega)), a2.cg (h1 5 (by omega)) (h1 6 (by omega)), a3.cg (h1 7 (by omega)) (h1 8 (by omega)), a4.cg (by rw [e0]) (by rw [e0]) (h1 2 (by omega)) (h1 3 (by omega)) (h1 4 (by omega)), hn, a6.cg hg.o hg.kl (fun q x y => hq q x y)⟩
/-- behind keepPast: the deed is done, by what changes places 1 to 17 -/
theorem deed_M {S T S1 : zMem} {g : pSig} {d : Nat × Nat} (hg : pWf g) (h : RM S g) (hl : (gD g).length < 40) (hT : T.1 1 0 = iI (((gD g).length : Int) + 1) ∧ sMo T 1 (gO g) (gS g) ∧ (∀ i, i < (gD g).length + 1 → sMo T (18 + 17 * i) (gO g) (pRun (gO g) ((gD g).take i))) ∧ (∀ q, q ≠ 1 → T.1 q = S.1 q) ∧ T.2 = S.2 ∧ (∀ q, 698 ≤ q → T.1 1 q = S.1 1 q)) (hs : sMo S1 1 (gO g) (pAct (gO g) (gS g) d)) (h1 : ∀ c, c ≠ 1 → S1.1 c = T.1 c) (h2 : S1.2 = T.2) (hq : ∀ q, q = 0 ∨ 18 ≤ q → S1.1 1 q = T.1 1 q) : RM S1 (gD_ g (gD g ++ [d])) := by
  obtain ⟨b1, b2, b3, b4, b5, b6⟩ := hT
  exact h.deeds hg (nM.snoc hg.o b1 b3 hs hq) (fun c hc => by rw [h1 c hc, b4 c hc]) (by rw [h2, b5]) (fun q x y => by rw [hq q (by omega), b6 q x])
