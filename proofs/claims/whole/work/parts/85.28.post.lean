/-! fault, post: the class -/
theorem pItm_le {f : Nat → Int32} {n i e : Nat} {op : Bool} {o : pRoad} (hr : pItm f n i op o = .inl e) : e ≤ i + 2 := by
  unfold pItm at hr
  cases op with
  | false =>
    rw [if_neg Bool.false_ne_true] at hr
    unfold pHead at hr
    repeat' split at hr
    all_goals first | (cases hr; omega) | cases hr
  | true =>
    rw [if_pos rfl] at hr
    split at hr
    · unfold pHse at hr
      repeat' split at hr
      all_goals first | (cases hr; omega) | cases hr
    · unfold pLtr at hr
      repeat' split at hr
      all_goals first | (cases hr; omega) | cases hr
theorem pGo_le {f : Nat → Int32} {n : Nat} : ∀ m i op o e, pGo f n m i op o = .inl e → e ≤ n + 2 := by
  intro m
  induction m with
  | zero =>
    intro i op o e h
    have h2 : pFin n o = .inl e := h
    unfold pFin at h2
    split at h2
    · cases h2
    · cases h2
      omega
  | succ m ih =>
    intro i op o e h
    unfold pGo at h
    split at h
    · unfold pFin at h
      split at h
      · cases h
      · cases h
        omega
    · split at h
      · exact ih _ _ _ _ h
      · cases hr : pItm f n i op o with
        | inl e2 =>
          rw [hr] at h
          cases h
          have := pItm_le hr
          omega
        | inr o2 =>
          rw [hr] at h
          exact ih _ _ _ _ h
def qFault (x : Int32) (g : pSig) : Int32 × pSig := match pIn x 4 with
  | none => (-1, g)
  | some t => if (gX g t).1 < 0 then qRef 1 g else (iI (pRes (pRead (gX g t))), g)
theorem fault_wf (x : Int32) : ∀ g, pWf g → pWf (qFault x g).2 := by
  intro g h
  unfold qFault
  split
  · exact h
  · split
    · exact wf_told (g := g) _ h
    · exact h
theorem zFrC_R {S T : zMem} {g : pSig} (h : zFrC S T) (hR : RC S g) : RC T g := hR.cg (fun c hc => h.1 c (by omega)) h.2
theorem fault_C (x : Int32) : okC (f_X8_fault x) (qFault x) := by
  intro S g hg h
  unfold qFault
  cases hj : pIn x 4 with
  | none =>
    simp only [f_X8_fault, X8_fault_b0, isText_f hj, zb_some, zero_0, if_true]
    exact ⟨S, rfl, h⟩
  | some t =>
    obtain ⟨rfl, ht⟩ := pIn_some hj
    have hb := hg.2.1 t ht
    have hr := h.2.2.1 t ht
    have hz : zi (iI (t : Int)) 4 = true := zi_I (by omega) (by omega) (by omega)
    simp only [f_X8_fault, X8_fault_b0, isText_t ht, zb_some, one_0, if_false, hz, zc_true, iI_cln (show t < 2147483648 by omega)]
    by_cases hs : (gX g t).1 < 0
    · rw [if_pos hs]
      have e1 : (gX g t).1 = -1 := by omega
      rw [e1] at hr
      simp only [isThere_f hr.1, zb_some, zero_0, if_true]
      exact ref_Ce 1 (by omega) h rfl
    · rw [if_neg hs]
      obtain ⟨n, hn⟩ := sz_of hb.1 hs
      rw [hn] at hr hb
      obtain ⟨S1, e1, e2, e3⟩ := faultOf_C hg h ht hs
      simp only [isThere_t hr.1 (by omega) (by omega), zb_some, one_0, if_false, e1]
      exact ⟨S1, rfl, zFrC_R e2 h⟩
theorem road_C {S : zMem} {o : pRoad} (ho : pRok o) (hd : dC S true o) : ∃ S1, f_X6_become S = some ((), S1) ∧ oC S1 o ∧ (∀ c, (c < 24 ∨ 29 ≤ c) → S1.1 c = S.1 c) ∧ S1.2 = S.2 := by
  have hH := ho.1
  have hN := ho.2.1
  obtain ⟨d1, d2, d3, d4, d5⟩ := hd
  obtain ⟨d6, d7⟩ := d3 rfl
  simp only [f_X6_become, X6_become_b0, zcp_0, zc_true]
  rw [zl_e, d1, zl_e]
  obtain ⟨T1, e1, a1, b1, q1, r1⟩ := wr S 24 4 (iI (rH o))
  rw [e1, zl_e, q1 30 (by omega), d2, zl_e]
  obtain ⟨T2, e2, a2, b2, q2, r2⟩ := wr T1 24 5 (iI (rN o))
  rw [e2, zl_e, q2 30 (by omega), q1 30 (by omega), d6, zl_e]
  obtain ⟨T3, e3, a3, b3, q3, r3⟩ := wr T2 24 6 (iI (rM o))
  rw [e3, zl_e, q3 30 (by omega), q2 30 (by omega), q1 30 (by omega), d7, zl_e]
  obtain ⟨T4, e4, a4, b4, q4, r4⟩ := wr T3 24 7 (iI (rE o))
  rw [e4, zl_e]
  have hq4 : ∀ c, c ≠ 24 → T4.1 c = S.1 c := fun c hc => by rw [q4 c hc, q3 c hc, q2 c hc, q1 c hc]
  rw [hq4 31 (by omega), hq4 25 (by omega)]
  obtain ⟨T5, e5, a5, q5, r5⟩ := wrf T4 25 (va_cpy (S.1 31) (S.1 25) (Int32.toNatClampNeg 0) (Int32.toNatClampNeg 0) (Int32.toNatClampNeg 6))
  rw [e5, zl_e, q5 32 (by omega), q5 26 (by omega), hq4 32 (by omega), hq4 26 (by omega)]
  obtain ⟨T6, e6, a6, q6, r6⟩ := wrf T5 26 (va_cpy (S.1 32) (S.1 26) (Int32.toNatClampNeg 0) (Int32.toNatClampNeg 0) (Int32.toNatClampNeg 6))
  rw [e6, zl_e, q6 33 (by omega), q6 27 (by omega), q5 33 (by omega), q5 27 (by omega), hq4 33 (by omega), hq4 27 (by omega)]
  obtain ⟨T7, e7, a7, q7, r7⟩ := wrf T6 27 (va_cpy (S.1 33) (S.1 27) (Int32.toNatClampNeg 0) (Int32.toNatClampNeg 0) (Int32.toNatClampNeg 6))
  rw [e7, zl_e, q7 34 (by omega), q7 28 (by omega), q6 34 (by omega), q6 28 (by omega), q5 34 (by omega), q5 28 (by omega), hq4 34 (by omega), hq4 28 (by omega)]
  obtain ⟨T8, e8, a8, q8, r8⟩ := wrf T7 28 (va_cpy (S.1 34) (S.1 28) (Int32.toNatClampNeg 0) (Int32.toNatClampNeg 0) (Int32.toNatClampNeg 6))
  rw [e8]
  have eP : T8.1 24 = T4.1 24 := by rw [q8 24 (by omega), q7 24 (by omega), q6 24 (by omega), q5 24 (by omega)]
  refine ⟨T8, rfl, ⟨?_, ?_, ?_, ?_, fun k hk => ?_, fun l hl => ⟨?_, ?_, ?_⟩⟩, fun c hc => by rw [q8 c (by omega), q7 c (by omega), q6 c (by omega), q5 c (by omega), hq4 c (by omega)], by rw [r8, r7, r6, r5, r4, r3, r2, r1]⟩
  · rw [eP, b4 4 (by omega), b3 4 (by omega), b2 4 (by omega), a1]
  · rw [eP, b4 5 (by omega), b3 5 (by omega), a2]
  · rw [eP, b4 6 (by omega), a3]
  · rw [eP, a4]
  · rw [q8 25 (by omega), q7 25 (by omega), q6 25 (by omega), a5, cpy_6 (by omega)]
    exact d4 k hk
  · rw [q8 26 (by omega), q7 26 (by omega), a6, cpy_6 (by omega)]
    exact (d5 l hl).1
  · rw [q8 27 (by omega), a7, cpy_6 (by omega)]
    exact (d5 l hl).2.1
  · rw [a8, cpy_6 (by omega)]
    exact (d5 l hl).2.2
def gP_ (g : pSig) (o : pRoad) : pSig := (g.1, g.2.1, g.2.2.1, o, [], fun _ => none)
def qPost (x : Int32) (g : pSig) : Int32 × pSig := match pIn x 4 with
  | none => (-1, g)
  | some t => if (gX g t).1 < 0 then qRef 1 g else match pRead (gX g t) with
    | .inl _ => (-4, g)
    | .inr o => (iI (rN o), gP_ g o)
theorem pGo_ok {f : Nat → Int32} {n : Nat} : ∀ m i op o o2, pRok o → pGo f n m i op o = .inr o2 → pRok o2 ∧ 0 < rN o2 := by
  have fin : ∀ o o2, pRok o → pFin n o = .inr o2 → pRok o2 ∧ 0 < rN o2 := by
    intro o o2 ho h
    unfold pFin at h
    split at h
    · next h0 =>
      cases h
      exact ⟨ho, h0⟩
    · cases h
  intro m
  induction m with
  | zero => exact fun i op o o2 ho h => fin o o2 ho h
  | succ m ih =>
    intro i op o o2 ho h
    unfold pGo at h
    split at h
    · exact fin o o2 ho h
    · split at h
      · exact ih _ _ _ _ ho h
      · cases hr : pItm f n i op o with
        | inl e2 =>
          rw [hr] at h
          cases h
        | inr o3 =>
          rw [hr] at h
          exact ih _ _ _ _ (pItm_ok ho hr).1 h
theorem pRead_ok {w : Int × (Nat → Int32)} {o : pRoad} (h : pRead w = .inr o) : pRok o ∧ 0 < rN o := pGo_ok _ _ _ _ _ pO0_ok h
theorem post_wf (x : Int32) : ∀ g, pWf g → pWf (qPost x g).2 := by
  intro g h
  unfold qPost
  split
  · exact h
  · next t ht =>
    split
    · exact wf_told (g := g) _ h
    · cases hr : pRead (gX g t) with
      | inl e => exact h
      | inr o => exact ⟨h.1, h.2.1, (pRead_ok hr).1, ⟨Nat.zero_le _, fun d hd => absurd (show d ∈ ([] : pDs) from hd) (by simp)⟩, fun k hk d hd => by cases hd⟩
theorem post_C (x : Int32) : okC (f_X8_post x) (qPost x) := by
  intro S g hg h
  unfold qPost
  cases hj : pIn x 4 with
  | none =>
    simp only [f_X8_post, X8_post_b0, isText_f hj, zb_some, zero_0, if_true]
    exact ⟨S, rfl, h⟩
  | some t =>
    obtain ⟨rfl, ht⟩ := pIn_some hj
    have hb := hg.2.1 t ht
    have hr := h.2.2.1 t ht
    have hz : zi (iI (t : Int)) 4 = true := zi_I (by omega) (by omega) (by omega)
    simp only [f_X8_post, X8_post_b0, isText_t ht, zb_some, one_0, if_false, hz, zc_true, iI_cln (show t < 2147483648 by omega)]
    by_cases hs : (gX g t).1 < 0
    · rw [if_pos hs]
      have e1 : (gX g t).1 = -1 := by omega
      rw [e1] at hr
      simp only [isThere_f hr.1, zb_some, zero_0, if_true]
      exact ref_Ce 1 (by omega) h rfl
    · rw [if_neg hs]
      obtain ⟨n, hn⟩ := sz_of hb.1 hs
      rw [hn] at hr
      obtain ⟨S1, e1, e2, e3⟩ := faultOf_C hg h ht hs
      simp only [isThere_t hr.1 (by omega) (by omega), zb_some, one_0, if_false]
      cases hp : pRead (gX g t) with
      | inl e =>
        have he := pGo_le _ _ _ _ _ hp
        rw [hp] at e1
        have e1' : f_X5_faultOf (16 + 2 * t) S = some (iI (e : Int), S1) := e1
        rw [e1']
        simp only [zb_some, fig_m9 (show e ≤ 100 by omega), if_false]
        exact ⟨S1, rfl, zFrC_R e2 h⟩
      | inr o =>
        obtain ⟨hd, ho, h0⟩ := e3 o hp
        rw [hp] at e1
        have e1' : f_X5_faultOf (16 + 2 * t) S = some ((-9 : Int32), S1) := e1
        rw [e1']
        simp only [zb_some, mm_99, if_true]
        obtain ⟨S2, f1, f2, f3, f4⟩ := road_C ho hd
        rw [f1]
        simp only [zb_some]
        obtain ⟨S3, g1, g2, g3, g4, g5⟩ := begin_C (P := 35) (by omega) ho f2
        rw [g1]
        simp only [zb_some]
        have R1 := zFrC_R e2 h
        obtain ⟨a1, a2, a3, a4, a5, a6, a7⟩ := R1
        have fr : ∀ c, c < 24 ∨ 37 ≤ c → S3.1 c = S1.1 c := fun c hc => by rw [g4 c (by omega) (by omega), f3 c (by omega)]
        refine zforI (F := fun f i T => X8_post_l80 f (3 : Int32) (iI (i : Nat)) T) (n := 3) (P := fun i T => (∀ c, (c < 45 ∨ 60 ≤ c) → T.1 c = S3.1 c) ∧ T.2 = S3.2 ∧ ∀ k, k < i → T.1 (45 + 5 * k) 5 = 0) (Q := fun r => ∃ S1, r = some (iI (rN o), S1) ∧ RC S1 (gP_ g o)) (fun f i T hi hT => ?_) (fun f T hT => ?_) (zF_gt (by omega)) (a := S3) ⟨fun _ _ => rfl, rfl, fun k hk => by omega⟩
        · left
          obtain ⟨t1, t2, t3⟩ := hT
          simp (disch := omega) only [X8_post_l80, X8_post_b80, show ((3 : Int32) = iI 3) from rfl, iI_le]
          rw [if_neg (by omega)]
          simp (disch := omega) only [zi_I, zc_true, iI_cln, zbo_0, zl_e]
          obtain ⟨T1, w1, w2, w3, w4, w5⟩ := wr T (45 + 5 * i) 5 (0 : Int32)
          rw [w1, lit_1, iI_add]
          refine ⟨T1, ⟨fun c hc => by rw [w4 c (by omega), t1 c hc], by rw [w5, t2], fun k hk => ?_⟩, rfl⟩
          by_cases hki : k = i
          · subst hki
            exact w2
          · rw [w4 _ (by omega)]
            exact t3 k (by omega)
        · obtain ⟨t1, t2, t3⟩ := hT
          simp (disch := omega) only [X8_post_l80, X8_post_b80, show ((3 : Int32) = iI 3) from rfl, iI_le, zl_e]
          rw [if_pos (by omega)]
          have oT : oC T o := f2.cg (fun c x y => by rw [t1 c (by omega), g4 c (by omega) (by omega)])
          rw [oT.2.1]
          refine ⟨T, rfl, a1.cg (by rw [t1 0 (by omega), fr 0 (by omega)]) (by rw [t2, g5, f4]) (by rw [t1 67 (by omega), fr 67 (by omega)]), a2.cg (fun c x y => by rw [t1 c (by omega), fr c (by omega)]), a3.cg (fun c x y => by rw [t1 c (by omega), fr c (by omega)]), oT, g2.cg (fun c x y => t1 c (by omega)), fun _ => by rw [t1 35 (by omega)]; exact g3, fun k hk => t3 k hk⟩
