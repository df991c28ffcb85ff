/-! undo, keep, on -/
theorem wrf (S : zMem) (c : Nat) (f : Nat → Int32) : ∃ S1 : zMem, zp S c f = S1 ∧ S1.1 c = f ∧ (∀ q, q ≠ c → S1.1 q = S.1 q) ∧ S1.2 = S.2 := ⟨_, rfl, zp_eq, fun q h => zp_ne h, rfl⟩
theorem zcp_0 : zcp 0 0 6 6 6 = true := by decide
theorem zcp_40 : zcp 0 0 40 40 40 = true := by decide
theorem cpy_6 {f g : Nat → Int32} {k : Nat} (h : k < 6) : va_cpy f g (Int32.toNatClampNeg 0) (Int32.toNatClampNeg 0) (Int32.toNatClampNeg 6) k = f k := by
  unfold va_cpy
  rw [n0, show Int32.toNatClampNeg 6 = 6 from rfl, if_pos (by omega)]
  exact congrArg f (by omega)
theorem cpy_40 {f g : Nat → Int32} {k : Nat} (h : k < 40) : va_cpy f g (Int32.toNatClampNeg 0) (Int32.toNatClampNeg 0) (Int32.toNatClampNeg 40) k = f k := by
  unfold va_cpy
  rw [n0, show Int32.toNatClampNeg 40 = 40 from rfl, if_pos (by omega)]
  exact congrArg f (by omega)
theorem begin_C {S : zMem} {P : Nat} {o : pRoad} (hP : 35 ≤ P) (ho : pRok o) (h : oC S o) : ∃ S1, f_X4_begin P S = some ((), S1) ∧ nC S1 P o [] ∧ S1.1 P 5 = 1 ∧ (∀ q, q ≠ P → q ≠ P + 1 → S1.1 q = S.1 q) ∧ S1.2 = S.2 := by
  have hH := ho.1
  obtain ⟨o1, o2, o3, o4, o5, o6⟩ := h
  simp only [f_X4_begin, X4_begin_b0, zbo_1, zc_true]
  rw [zl_e]
  obtain ⟨T1, e1, a1, b1, c1, d1⟩ := wr S P 5 (1 : Int32)
  rw [e1, zl_e]
  obtain ⟨T2, e2, a2, b2, c2, d2⟩ := wr T1 P 6 (0 : Int32)
  rw [e2, zl_e]
  obtain ⟨T3, e3, a3, b3, c3, d3⟩ := wr T2 P 7 (0 : Int32)
  rw [e3, zl_e, zl_e, c3 24 (by omega), c2 24 (by omega), c1 24 (by omega), o3]
  obtain ⟨T4, e4, a4, b4, c4, d4⟩ := wr T3 P 8 (iI (rM o))
  rw [e4, zl_e, zl_e, c4 24 (by omega), c3 24 (by omega), c2 24 (by omega), c1 24 (by omega), o4]
  obtain ⟨T5, e5, a5, b5, c5, d5⟩ := wr T4 P 9 (iI (rE o))
  rw [e5, zl_e]
  obtain ⟨T6, e6, a6, b6, c6, d6⟩ := wr T5 P 10 (0 : Int32)
  rw [e6, zl_e]
  obtain ⟨T7, e7, a7, b7, c7, d7⟩ := wr T6 P 11 (0 : Int32)
  rw [e7, zcp_0, zc_true, zl_e]
  have hc7 : ∀ q, q ≠ P → T7.1 q = S.1 q := fun q hq => by rw [c7 q hq, c6 q hq, c5 q hq, c4 q hq, c3 q hq, c2 q hq, c1 q hq]
  rw [hc7 25 (by omega), hc7 (P + 1) (by omega)]
  obtain ⟨T8, e8, a8, c8, d8⟩ := wrf T7 (P + 1) (va_cpy (S.1 25) (S.1 (P + 1)) (Int32.toNatClampNeg 0) (Int32.toNatClampNeg 0) (Int32.toNatClampNeg 6))
  rw [e8]
  have eP : T8.1 P = T7.1 P := c8 P (by omega)
  refine ⟨T8, rfl, ⟨⟨?_, ?_, ?_, ?_, ?_, fun q hq => ?_, fun q hq hb => ?_⟩, ?_, fun i d hi => ?_⟩, ?_, fun q h1 h2 => by rw [c8 q h2, hc7 q h1], by rw [d8, d7, d6, d5, d4, d3, d2, d1]⟩
  · rw [eP, b7 7 (by omega), b6 7 (by omega), b5 7 (by omega), b4 7 (by omega), a3]
    rfl
  · rw [eP, b7 8 (by omega), b6 8 (by omega), b5 8 (by omega), a4]
    rfl
  · rw [eP, b7 9 (by omega), b6 9 (by omega), a5]
    rfl
  · rw [eP, b7 10 (by omega), a6]
    rfl
  · rw [eP, a7]
    rfl
  · rw [a8, cpy_6 (by omega)]
    exact o5 q hq
  · have hb0 : (0 : Nat).testBit q = true := hb
    rw [Nat.zero_testBit] at hb0
    exact absurd hb0 (by decide)
  · rw [eP, b7 6 (by omega), b6 6 (by omega), b5 6 (by omega), b4 6 (by omega), b3 6 (by omega), a2]
    rfl
  · exact absurd hi (by simp)
  · rw [eP, b7 5 (by omega), b6 5 (by omega), b5 5 (by omega), b4 5 (by omega), b3 5 (by omega), b2 5 (by omega), a1]
theorem become_C {S : zMem} {c0 c1 : Nat} {o : pRoad} {ds : pDs} (hP : c0 + 5 ≤ c1 ∨ c1 + 5 ≤ c0) (ho : pRok o) (hds : ds.length ≤ 40) (hn : nC S c1 o ds) (h5 : S.1 c1 5 = 1) : ∃ S1, f_X4_become c0 c1 S = some ((), S1) ∧ nC S1 c0 o ds ∧ S1.1 c0 5 = 1 ∧ (∀ q, (q < c0 ∨ c0 + 5 ≤ q) → S1.1 q = S.1 q) ∧ S1.2 = S.2 := by
  have hH := ho.1
  have hN := ho.2.1
  obtain ⟨⟨s1, s2, s3, s4, s5, s6, s7⟩, x1, x2⟩ := hn
  simp only [f_X4_become, X4_become_b0]
  rw [zl_e, h5, zbo_1, zc_true, zl_e]
  obtain ⟨T1, e1, a1, b1, q1, d1⟩ := wr S c0 5 (1 : Int32)
  rw [e1, zl_e, zl_e, q1 c1 (by omega)]
  obtain ⟨T2, e2, a2, b2, q2, d2⟩ := wr T1 c0 6 (S.1 c1 6)
  rw [e2, zl_e, zl_e, q2 c1 (by omega), q1 c1 (by omega)]
  obtain ⟨T3, e3, a3, b3, q3, d3⟩ := wr T2 c0 7 (S.1 c1 7)
  rw [e3, zl_e, zl_e, q3 c1 (by omega), q2 c1 (by omega), q1 c1 (by omega)]
  obtain ⟨T4, e4, a4, b4, q4, d4⟩ := wr T3 c0 8 (S.1 c1 8)
  rw [e4, zl_e, zl_e, q4 c1 (by omega), q3 c1 (by omega), q2 c1 (by omega), q1 c1 (by omega)]
  obtain ⟨T5, e5, a5, b5, q5, d5⟩ := wr T4 c0 9 (S.1 c1 9)
  rw [e5, zl_e, zl_e, q5 c1 (by omega), q4 c1 (by omega), q3 c1 (by omega), q2 c1 (by omega), q1 c1 (by omega)]
  obtain ⟨T6, e6, a6, b6, q6, d6⟩ := wr T5 c0 10 (S.1 c1 10)
  rw [e6, zl_e, zl_e, q6 c1 (by omega), q5 c1 (by omega), q4 c1 (by omega), q3 c1 (by omega), q2 c1 (by omega), q1 c1 (by omega)]
  obtain ⟨T7, e7, a7, b7, q7, d7⟩ := wr T6 c0 11 (S.1 c1 11)
  rw [e7, zcp_0, zc_true, zl_e]
  have hq7 : ∀ q, q ≠ c0 → T7.1 q = S.1 q := fun q hq => by rw [q7 q hq, q6 q hq, q5 q hq, q4 q hq, q3 q hq, q2 q hq, q1 q hq]
  rw [hq7 (c1 + 1) (by omega), hq7 (c0 + 1) (by omega)]
  obtain ⟨T8, e8, a8, q8, d8⟩ := wrf T7 (c0 + 1) (va_cpy (S.1 (c1 + 1)) (S.1 (c0 + 1)) (Int32.toNatClampNeg 0) (Int32.toNatClampNeg 0) (Int32.toNatClampNeg 6))
  rw [e8, zc_true, zl_e]
  rw [q8 (c1 + 2) (by omega), q8 (c0 + 2) (by omega), hq7 (c1 + 2) (by omega), hq7 (c0 + 2) (by omega)]
  obtain ⟨T9, e9, a9, q9, d9⟩ := wrf T8 (c0 + 2) (va_cpy (S.1 (c1 + 2)) (S.1 (c0 + 2)) (Int32.toNatClampNeg 0) (Int32.toNatClampNeg 0) (Int32.toNatClampNeg 6))
  rw [e9, zcp_40, zc_true, zl_e]
  rw [q9 (c1 + 3) (by omega), q9 (c0 + 3) (by omega), q8 (c1 + 3) (by omega), q8 (c0 + 3) (by omega), hq7 (c1 + 3) (by omega), hq7 (c0 + 3) (by omega)]
  obtain ⟨Ta, ea, aa, qa, da⟩ := wrf T9 (c0 + 3) (va_cpy (S.1 (c1 + 3)) (S.1 (c0 + 3)) (Int32.toNatClampNeg 0) (Int32.toNatClampNeg 0) (Int32.toNatClampNeg 40))
  rw [ea, zc_true, zl_e]
  rw [qa (c1 + 4) (by omega), qa (c0 + 4) (by omega), q9 (c1 + 4) (by omega), q9 (c0 + 4) (by omega), q8 (c1 + 4) (by omega), q8 (c0 + 4) (by omega), hq7 (c1 + 4) (by omega), hq7 (c0 + 4) (by omega)]
  obtain ⟨Tb, eb, ab, qb, db⟩ := wrf Ta (c0 + 4) (va_cpy (S.1 (c1 + 4)) (S.1 (c0 + 4)) (Int32.toNatClampNeg 0) (Int32.toNatClampNeg 0) (Int32.toNatClampNeg 40))
  rw [eb]
  have eP : Tb.1 c0 = T7.1 c0 := by rw [qb c0 (by omega), qa c0 (by omega), q9 c0 (by omega), q8 c0 (by omega)]
  refine ⟨Tb, rfl, ⟨⟨?_, ?_, ?_, ?_, ?_, fun q hq => ?_, fun q hq hb => ?_⟩, ?_, fun i d hi => ?_⟩, ?_, fun q hq => ?_, by rw [db, da, d9, d8, d7, d6, d5, d4, d3, d2, d1]⟩
  · rw [eP, b7 7 (by omega), b6 7 (by omega), b5 7 (by omega), b4 7 (by omega), a3]
    exact s1
  · rw [eP, b7 8 (by omega), b6 8 (by omega), b5 8 (by omega), a4]
    exact s2
  · rw [eP, b7 9 (by omega), b6 9 (by omega), a5]
    exact s3
  · rw [eP, b7 10 (by omega), a6]
    exact s4
  · rw [eP, a7]
    exact s5
  · rw [qb _ (by omega), qa _ (by omega), q9 _ (by omega), a8, cpy_6 (by omega)]
    exact s6 q hq
  · rw [qb _ (by omega), qa _ (by omega), a9, cpy_6 (by omega)]
    exact s7 q hq hb
  · rw [eP, b7 6 (by omega), b6 6 (by omega), b5 6 (by omega), b4 6 (by omega), b3 6 (by omega), a2]
    exact x1
  · have hlt := (List.getElem?_eq_some_iff.mp hi).1
    rw [qb (c0 + 3) (by omega), aa, ab, cpy_40 (by omega), cpy_40 (by omega)]
    exact x2 i d hi
  · rw [eP, b7 5 (by omega), b6 5 (by omega), b5 5 (by omega), b4 5 (by omega), b3 5 (by omega), b2 5 (by omega), a1]
  · rw [qb q (by omega), qa q (by omega), q9 q (by omega), q8 q (by omega), hq7 q (by omega)]
theorem take_snoc {ds : pDs} {i : Nat} {d : Nat × Nat} (h : ds[i]? = some d) : ds.take (i + 1) = ds.take i ++ [d] := by
  rw [List.take_add_one, h]
  rfl
theorem goBack_C {S : zMem} {P : Nat} {o : pRoad} {ds : pDs} {n : Nat} (hP : 35 ≤ P) (ho : pRok o) (h : oC S o) (hn : nC S P o ds) (hds : pDsok o ds) (hl : n ≤ ds.length) (h5 : 0 < rH o → S.1 P 5 = 1) : ∃ S1, f_X4_goBackTo P (iI n) S = some ((), S1) ∧ nC S1 P o (ds.take n) ∧ (∀ q, (q < P ∨ P + 5 ≤ q) → S1.1 q = S.1 q) ∧ S1.2 = S.2 ∧ (0 < rH o → S1.1 P 5 = 1) := by
  have h40 := hds.1
  simp only [f_X4_goBackTo, X4_goBackTo_b0, X4_goBackTo_b12, zl_e, hn.2.1]
  simp (disch := omega) only [show ((0 : Int32) = iI 0) from rfl, iI_lt]
  rw [if_neg (by omega)]
  by_cases he : n = ds.length
  · rw [if_neg (by omega), he, List.take_length]
    exact ⟨S, rfl, hn, fun _ _ => rfl, rfl, h5⟩
  · rw [if_pos (by omega)]
    obtain ⟨T, e1, e2, e3, e4, e5⟩ := begin_C hP ho h
    rw [e1]
    simp only [zb_some]
    refine zforI (F := fun f i T => X4_goBackTo_l19 f P (iI n) (iI (i : Nat)) T) (n := n) (P := fun i T => nC T P o (ds.take i) ∧ (∀ q, (q < P ∨ P + 5 ≤ q) → T.1 q = S.1 q) ∧ T.2 = S.2 ∧ T.1 P 5 = 1 ∧ ∀ j d, ds[j]? = some d → eCl T P j d) (Q := fun r => ∃ S1, r = some ((), S1) ∧ nC S1 P o (ds.take n) ∧ (∀ q, (q < P ∨ P + 5 ≤ q) → S1.1 q = S.1 q) ∧ S1.2 = S.2 ∧ (0 < rH o → S1.1 P 5 = 1)) (fun f i T hi hT => ?_) (fun f T hT => ?_) (zF_gt (by omega)) ⟨by rw [List.take_zero]; exact e2, fun q hq => e4 q (by omega) (by omega), e5, e3, fun j d hj => ?_⟩
    · left
      obtain ⟨t1, t2, t3, t4, t5⟩ := hT
      obtain ⟨d, hd⟩ : ∃ d, ds[i]? = some d := ⟨ds[i]'(by omega), List.getElem?_eq_getElem (by omega)⟩
      have ed := t5 i d hd
      simp (disch := omega) only [X4_goBackTo_l19, X4_goBackTo_b19, iI_le]
      rw [if_neg (by omega)]
      simp (disch := omega) only [zi_I, zc_true, zl_e, iI_cln, ed.1, ed.2]
      have hT0 : oC T o := h.cg (fun c x y => t2 c (by omega))
      have hlen : (ds.take i).length = i := by rw [List.length_take]; omega
      have hmem : ∀ x ∈ ds.take i, pDok o x := fun x hx => hds.2 x (List.mem_of_mem_take hx)
      obtain ⟨S1, f1, f2, f3, f4, f5, f6, f7⟩ := perform_C hP ho hT0 t1 ⟨by omega, hmem⟩ (by omega) (hds.2 d (List.mem_of_getElem? hd))
      rw [f1]
      refine ⟨S1, ⟨by rw [take_snoc hd]; exact f2, fun q hq => by rw [f3 q hq, t2 q hq], by rw [f4, t3], by rw [f5, t4], fun j d' hj => ?_⟩, ?_⟩
      · rw [hlen] at f6 f7
        by_cases hji : j = i
        · subst hji
          rw [hd] at hj
          cases hj
          exact f6
        · unfold eCl
          rw [(f7 j hji).1, (f7 j hji).2]
          exact t5 j d' hj
      · simp only [zb_some, lit_1, iI_add]
        rfl
    · simp (disch := omega) only [X4_goBackTo_l19, X4_goBackTo_b19, iI_le]
      rw [if_pos (by omega)]
      exact ⟨T, rfl, hT.1, hT.2.1, hT.2.2.1, fun _ => hT.2.2.2.1⟩
    · unfold eCl
      rw [e4 (P + 3) (by omega) (by omega), e4 (P + 4) (by omega) (by omega)]
      exact hn.2.2 j d hj
def qUndo (x : Int32) (g : pSig) : Int32 × pSig := match pIn x ((gD g).length + 1) with
  | none => (-1, g)
  | some n => (iI (((gD g).length - n : Nat) : Int), gD_ g ((gD g).take n))
theorem ok_take {o : pRoad} {ds : pDs} {n : Nat} (h : pDsok o ds) : pDsok o (ds.take n) := ⟨by rw [List.length_take]; have := h.1; omega, fun x hx => h.2 x (List.mem_of_mem_take hx)⟩
theorem undo_wf (x : Int32) : ∀ g, pWf g → pWf (qUndo x g).2 := by
  intro g h
  unfold qUndo
  split
  · exact h
  · exact wf_D h (ok_take h.2.2.2.1)
theorem undo_C (x : Int32) : okC (f_X8_undo x) (qUndo x) := by
  intro S g hg h
  have h40 := hg.2.2.2.1.1
  unfold qUndo
  simp only [f_X8_undo, X8_undo_b0, zl_e, h.d.1]
  cases hx : pIn x ((gD g).length + 1) with
  | none =>
    simp only [within_f hx (by omega), zb_some, zero_0, if_true]
    exact ⟨S, rfl, h⟩
  | some n =>
    obtain ⟨rfl, hn⟩ := pIn_some hx
    simp only [within_t (show n ≤ (gD g).length by omega) (by omega), zb_some, one_0, if_false, h.d.1, iI_sub]
    obtain ⟨S1, e1, e2, e3, e4, e5⟩ := goBack_C (by omega) hg.o h.o h.2.2.2.2.1 hg.2.2.2.1 (show n ≤ (gD g).length by omega) h.2.2.2.2.2.1
    rw [e1, show ((gD g).length : Int) - (n : Int) = (((gD g).length - n : Nat) : Int) by omega]
    exact ⟨S1, rfl, h.deeds e2 e3 e4 e5⟩
theorem undo_M (x : Int32) : okM (f_X9_undo x) (qUndo x) := by
  intro S g hg h
  have h40 := hg.2.2.2.1.1
  unfold qUndo
  simp only [f_X9_undo, X9_undo_b0, zl_e, z0, n0, zc_true, h.n.1]
  cases hx : pIn x ((gD g).length + 1) with
  | none =>
    rw [lo_0, in_f hx (by omega)]
    exact ⟨S, rfl, h⟩
  | some n =>
    obtain ⟨rfl, hn⟩ := pIn_some hx
    rw [lo_0, in_t (show n ≤ (gD g).length by omega) (by omega)]
    simp only [zb_some, one_0, if_false, h.n.1, iI_sub]
    rw [show ((gD g).length : Int) - (n : Int) = (((gD g).length - n : Nat) : Int) by omega]
    by_cases he : n = (gD g).length
    · obtain ⟨f, hf⟩ : ∃ f, zF = f + 1 := ⟨zF - 1, by have := zF_gt (n := 1) (by omega); omega⟩
      rw [hf]
      have ez : (gD g).length - n = 0 := by omega
      rw [ez]
      simp (disch := omega) only [X9_undo_l29, X9_undo_b29, show ((17 : Int32) = iI 17) from rfl, show ((0 : Int32) = iI 0) from rfl, iI_le]
      rw [if_neg (by omega), if_pos (by omega)]
      simp only [X9_undo_b67, z0, n0, show zi (iI 0) 2810 = true from rfl, show (iI 0).toNatClampNeg = 0 from rfl, zc_true, zl_e]
      obtain ⟨T, w1, w2, w3, w4, w5⟩ := wr S 1 0 (iI n)
      rw [w1, he, List.take_length]
      refine ⟨T, rfl, h.deeds hg (h.n.cg1 ?_) w4 w5 (fun q x y => w3 q (by omega))⟩
      rw [← w1, zp_eq]
      funext k
      by_cases hk : k = 0
      · subst hk
        rw [upd_eq, he]
        exact h.n.1.symm
      · rw [upd_ne hk]
    · have key := zfor (F := fun f i => X9_undo_l29 f (iI n) (iI (((gD g).length - n : Nat) : Int)) (iI (i : Nat)) (cpb S (18 + 17 * n) 1 i)) (n := 17) (r := some (iI (((gD g).length - n : Nat) : Int), zp (cpb S (18 + 17 * n) 1 17) 1 (upd ((cpb S (18 + 17 * n) 1 17).1 1) 0 (iI n)))) (fun f i hi => ?_) (fun f => ?_) (zF_gt (by omega))
      · rw [cpb_0] at key
        rw [show (0 : Int32) = iI ((0 : Nat) : Int) from rfl, key]
        refine ⟨_, rfl, h.deeds hg ⟨?_, ?_, fun i hi => ?_⟩ (fun c hc => by rw [zp_ne hc, cpb_ne hc]) rfl (fun q x y => by rw [zp_eq, upd_ne (by omega), cpb_out (by omega)])⟩
        · rw [zp_eq, upd_eq, List.length_take, Nat.min_eq_left (by omega)]
        · refine (h.n.2.2 n (by omega)).mv hg.o (fun k hk => ?_)
          rw [zp_eq, upd_ne (by omega)]
          have := cpb_in (S := S) (a := 18 + 17 * n) (b := 1) (m := 17) (k := k) hk
          rw [show 0 + 1 + k = 1 + k by omega, this]
        · rw [List.length_take] at hi
          rw [List.take_take, Nat.min_eq_left (by omega)]
          refine (h.n.2.2 i (by omega)).mv hg.o (fun k hk => ?_)
          rw [zp_eq, upd_ne (by omega), cpb_out (by omega)]
      · simp (disch := omega) only [X9_undo_l29, X9_undo_b29, show ((17 : Int32) = iI 17) from rfl, show ((0 : Int32) = iI 0) from rfl, iI_le]
        rw [if_neg (by omega), if_neg (by omega)]
        simp (disch := omega) only [zl_e, lit_1, lit_18, iI_mul, iI_add, zi_I, zc_true, iI_cl]
        have e := cpb_s (S := S) (a := 18 + 17 * n) (b := 1) (m := i) (by omega)
        rw [show ((18 : Int) + 17 * (n : Int) + (i : Int)).toNat = 18 + 17 * n + i by omega, show ((1 : Int) + (i : Int)).toNat = 1 + i by omega, e]
        rfl
      · simp (disch := omega) only [X9_undo_l29, X9_undo_b29, show ((17 : Int32) = iI 17) from rfl, iI_le]
        rw [if_pos (by omega)]
        simp only [X9_undo_b67, z0, n0, zc_true, zl_e]
/-! keep, on -/
theorem copyPost_eq {S : zMem} {a b : Nat} (ha : a + 698 ≤ 2810) (hb : b + 698 ≤ 2810) (hd : a + 698 ≤ b ∨ b + 698 ≤ a) : f_X9_copyPost (iI a) (iI b) S = some ((), cpb S a b 698) := by
  have h := zfor (F := fun f i => X9_copyPost_l2 f (iI a) (iI b) (iI (i : Nat)) (cpb S a b i)) (r := some ((), cpb S a b 698)) (n := 698) (fun f i hi => ?_) (fun f => ?_) (zF_gt (n := 698) (by omega))
  · rw [cpb_0] at h
    exact h
  · simp (disch := omega) only [X9_copyPost_l2, X9_copyPost_b2, lit_698, iI_le]
    rw [if_neg (by omega)]
    simp (disch := omega) only [zl_e, lit_1, iI_add, zi_I, zc_true, iI_cl]
    have e := cpb_s (S := S) (a := a) (b := b) (m := i) (by omega)
    rw [show ((b : Int) + (i : Int)).toNat = b + i by omega, show ((a : Int) + (i : Int)).toNat = a + i by omega, e]
    rfl
  · simp (disch := omega) only [X9_copyPost_l2, X9_copyPost_b2, lit_698, iI_le]
    rw [if_pos (by omega)]
def qKeep (x : Int32) (g : pSig) : Int32 × pSig := match pIn x 3 with
  | none => (-1, g)
  | some k => if rN (gO g) = 0 then (-4, g) else (iI (gD g).length, gK_ g (va_up (gK g) k (some (gD g))))
theorem keep_wf (x : Int32) : ∀ g, pWf g → pWf (qKeep x g).2 := by
  intro g h
  unfold qKeep
  split
  · exact h
  · next k hk =>
    split
    · exact h
    · next hN =>
      refine ⟨h.1, h.2.1, h.2.2.1, h.2.2.2.1, fun k' hk' d hd => ?_⟩
      have hd' : va_up (gK g) k (some (gD g)) k' = some d := hd
      unfold va_up at hd'
      split at hd'
      · cases hd'
        exact ⟨h.2.2.2.1, by show 0 < rN (gO g); omega⟩
      · exact h.2.2.2.2 k' hk' d hd'
theorem isPlace_t {k : Nat} (h : k < 3) (S : zMem) : f_X8_isPlace (iI k) S = some (1, S) := by
  simp only [f_X8_isPlace, X8_isPlace_b0]
  rw [show (2 : Int32) = iI ((2 : Nat) : Int) from rfl, within_t (show k ≤ 2 by omega) (by omega)]
  rfl
theorem isPlace_f {x : Int32} (h : pIn x 3 = none) (S : zMem) : f_X8_isPlace x S = some (0, S) := by
  simp only [f_X8_isPlace, X8_isPlace_b0]
  rw [show (2 : Int32) = iI ((2 : Nat) : Int) from rfl, within_f h (by omega)]
  rfl
theorem keep_C (x : Int32) : okC (f_X8_keep x) (qKeep x) := by
  intro S g hg h
  unfold qKeep
  simp only [f_X8_keep, X8_keep_b0]
  cases hx : pIn x 3 with
  | none =>
    simp only [isPlace_f hx, zb_some, zero_0, if_true]
    exact ⟨S, rfl, h⟩
  | some k =>
    obtain ⟨rfl, hk⟩ := pIn_some hx
    simp only [isPlace_t hk, zb_some, one_0, if_false]
    by_cases hN : 0 < rN (gO g)
    · rw [if_neg (show ¬ rN (gO g) = 0 by omega)]
      simp (disch := omega) only [isPosted_t hg.o h.o hN, zb_some, one_0, if_false, zi_I, zc_true, iI_cln]
      obtain ⟨S1, e1, e2, e3, e4, e5⟩ := become_C (c0 := 45 + 5 * k) (c1 := 35) (by omega) hg.o hg.2.2.2.1.1 h.2.2.2.2.1 (h.2.2.2.2.2.1 (rN_rH hg.o hN))
      rw [e1]
      simp only [zb_some, zl_e]
      rw [e4 35 (by omega), h.d.1]
      refine ⟨S1, rfl, ?_⟩
      obtain ⟨a1, a2, a3, a4, a5, a6, a7⟩ := h
      refine ⟨a1.cg (e4 0 (by omega)) (by rw [e5]) (e4 67 (by omega)), a2.cg (fun c x y => e4 c (by omega)), a3.cg (fun c x y => e4 c (by omega)), a4.cg (fun c x y => e4 c (by omega)), a5.cg (fun c x y => e4 c (by omega)), fun q => by rw [e4 35 (by omega)]; exact a6 q, fun k' hk' => ?_⟩
      by_cases hkk : k' = k
      · subst hkk
        rw [show gK (gK_ g (va_up (gK g) k' (some (gD g)))) k' = some (gD g) from up_eq]
        exact ⟨e3, e2⟩
      · rw [show gK (gK_ g (va_up (gK g) k (some (gD g)))) k' = gK g k' from up_ne hkk]
        have h1 := a7 k' hk'
        cases hq : gK g k' with
        | none =>
          rw [hq] at h1
          dsimp only at h1 ⊢
          rw [e4 _ (by omega)]
          exact h1
        | some d =>
          rw [hq] at h1
          dsimp only at h1 ⊢
          rw [e4 _ (by omega)]
          exact ⟨h1.1, h1.2.cg (fun c x y => e4 c (by omega))⟩
    · rw [if_pos (show rN (gO g) = 0 by omega)]
      simp only [isPosted_f h.o hN, zb_some, zero_0, if_true]
      exact ⟨S, rfl, h⟩
theorem keep_M (x : Int32) : okM (f_X9_keep x) (qKeep x) := by
  intro S g hg h
  unfold qKeep
  simp only [f_X9_keep, X9_keep_b0, zl_e]
  cases hx : pIn x 3 with
  | none =>
    simp only [min_in_f (n := 2) (m := 2) rfl hx (by omega), zb_some, zero_0, if_true]
    exact ⟨S, rfl, h⟩
  | some k =>
    obtain ⟨rfl, hk⟩ := pIn_some hx
    simp only [min_in_t (n := 2) (m := 2) rfl (show k ≤ 2 by omega) (by omega), zb_some, one_0, if_false, mposted hg h]
    by_cases hN : rN (gO g) = 0
    · rw [if_pos hN, if_pos hN]
      exact ⟨S, rfl, h⟩
    · rw [if_neg hN, if_neg hN]
      simp only [lit_1, lit_698, iI_add, iI_mul]
      rw [show (698 : Int) * (1 + (k : Int)) = ((698 * (1 + k) : Nat) : Int) by omega, show (0 : Int32) = iI ((0 : Nat) : Int) from rfl, copyPost_eq (by omega) (by omega) (by omega)]
      simp only [zb_some, show zi (iI ((0 : Nat) : Int)) 2810 = true from rfl, show (iI ((0 : Nat) : Int)).toNatClampNeg = 0 from rfl, zc_true]
      rw [cpb_out (by omega), h.n.1]
      refine ⟨_, rfl, ?_⟩
      have hl := hg.2.2.2.1.1
      obtain ⟨a1, a2, a3, a4, a5, a6⟩ := h
      have e0 : (cpb S 0 (698 * (1 + k)) 698).1 0 = S.1 0 := cpb_ne (by omega)
      refine ⟨a1.cg (by rw [e0]) (by rw [e0]) rfl (cpb_ne (by omega)), a2.cg (cpb_ne (by omega)) (cpb_ne (by omega)), a3.cg (cpb_ne (by omega)) (cpb_ne (by omega)), a4.cg (by rw [e0]) (by rw [e0]) (cpb_ne (by omega)) (cpb_ne (by omega)) (cpb_ne (by omega)), a5.cg hg.o hl (fun q x y => cpb_out (by omega)), fun k' hk' => ?_⟩
      by_cases hkk : k' = k
      · subst hkk
        rw [show gK (gK_ g (va_up (gK g) k' (some (gD g)))) k' = some (gD g) from up_eq]
        exact a5.mv hg.o hl (fun q hq => cpb_in hq)
      · rw [show gK (gK_ g (va_up (gK g) k (some (gD g)))) k' = gK g k' from up_ne hkk]
        have h1 := a6 k' hk'
        cases hq : gK g k' with
        | none =>
          rw [hq] at h1
          dsimp only at h1 ⊢
          rw [cpb_out (by omega)]
          exact h1
        | some d =>
          rw [hq] at h1
          dsimp only at h1 ⊢
          exact h1.cg hg.o (hg.kl k' hk' d hq) (fun q x y => cpb_out (by omega))
def qOn (x : Int32) (g : pSig) : Int32 × pSig := match pIn x 3 with
  | none => (-1, g)
  | some k => match gK g k with
    | none => qRef 1 g
    | some d => (iI d.length, gD_ g d)
theorem on_wf (x : Int32) : ∀ g, pWf g → pWf (qOn x g).2 := by
  intro g h
  unfold qOn
  split
  · exact h
  · next k hk =>
    split
    · exact h
    · next d hd => exact wf_D h (h.2.2.2.2 k (pIn_some hk).2 d hd).1
theorem on_C (x : Int32) : okC (f_X8_on x) (qOn x) := by
  intro S g hg h
  unfold qOn
  simp only [f_X8_on, X8_on_b0]
  cases hx : pIn x 3 with
  | none =>
    simp only [isPlace_f hx, zb_some, zero_0, if_true]
    exact ⟨S, rfl, h⟩
  | some k =>
    obtain ⟨rfl, hk⟩ := pIn_some hx
    simp (disch := omega) only [isPlace_t hk, zb_some, one_0, if_false, zi_I, zc_true, zl_e, iI_cln]
    have h1 := h.k k hk
    cases hq : gK g k with
    | none =>
      rw [hq] at h1
      dsimp only at h1
      rw [h1]
      simp only [zero_0, if_true]
      exact ref_Ce 1 (by omega) h rfl
    | some d =>
      have hd := hg.2.2.2.2 k hk d hq
      rw [hq] at h1
      dsimp only at h1
      rw [h1.1]
      simp only [one_0, if_false]
      obtain ⟨S1, e1, e2, e3, e4, e5⟩ := become_C (c0 := 35) (c1 := 45 + 5 * k) (by omega) hg.o hd.1.1 h1.2 h1.1
      rw [e1]
      simp only [zb_some]
      rw [e2.2.1]
      exact ⟨S1, rfl, h.deeds e2 e4 e5 (fun _ => e3)⟩
theorem on_M (x : Int32) : okM (f_X9_on x) (qOn x) := by
  intro S g hg h
  unfold qOn
  simp only [f_X9_on, X9_on_b0, zl_e]
  cases hx : pIn x 3 with
  | none =>
    simp only [min_in_f (n := 2) (m := 2) rfl hx (by omega), zb_some, zero_0, if_true]
    exact ⟨S, rfl, h⟩
  | some k =>
    obtain ⟨rfl, hk⟩ := pIn_some hx
    simp only [min_in_t (n := 2) (m := 2) rfl (show k ≤ 2 by omega) (by omega), zb_some, one_0, if_false]
    simp (disch := omega) only [lit_1, lit_698, show ((0 : Int32) = iI 0) from rfl, iI_add, iI_mul, zi_I, zc_true, iI_cl]
    rw [show ((698 : Int) * (1 + (k : Int)) + 0).toNat = 698 * (1 + k) by omega]
    have h1 := h.k k hk
    cases hq : gK g k with
    | none =>
      rw [hq] at h1
      dsimp only at h1
      rw [h1, if_neg (by decide)]
      exact ref_Me 1 (by omega) h rfl
    | some d =>
      have hd := hg.2.2.2.2 k hk d hq
      have hl := hd.1.1
      rw [hq] at h1
      dsimp only at h1
      rw [h1.1]
      simp (disch := omega) only [iI_le]
      rw [if_pos (by omega)]
      rw [show (698 : Int) * (1 + (k : Int)) = ((698 * (1 + k) : Nat) : Int) by omega, show iI 0 = iI ((0 : Nat) : Int) from rfl, copyPost_eq (by omega) (by omega) (by omega)]
      simp only [zb_some, show (0 : Int).toNat = 0 from rfl]
      have hn : nM (cpb S (698 * (1 + k)) 0 698) 0 (gO g) d := h1.mv hg.o hl (fun q hq2 => cpb_in hq2)
      rw [hn.1]
      exact ⟨_, rfl, h.deeds hg hn (fun c hc => cpb_ne hc) rfl (fun q x y => cpb_out (by omega))⟩
