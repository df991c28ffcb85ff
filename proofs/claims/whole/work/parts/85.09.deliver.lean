theorem iI_ite (c : Prop) [Decidable c] (a b : Int) : (if c then iI a else iI b) = iI (if c then a else b) := by split <;> rfl
theorem moodAtDoor_eq {S : zMem} {o : pRoad} {l m p e : Nat} (ho : pRok o) (h : oC S o) (hl : l < rN o) (hm : m ≤ 9) (hp : p ≤ 5) (he : e ≤ 2) : f_X6_moodAtDoor (iI l) (iI m) (iI p) (iI e) S = some (iI (pWalk m (pDist p (rD o l)) e), S) := by
  have hd := (ho.2.2.1 l hl).2.1
  have hH := ho.1
  have hN := ho.2.1
  have h27 := (h.2.2.2.2.2 l hl).2.1
  simp (disch := omega) only [X6_moodAtDoor_b0, f_X6_moodAtDoor, zi_I, zc_true, zl_e, iI_cln, h27, lit_0, lit_1, iI_sub, iI_le, iI_ite, iI_mul, iI_add]
  unfold pWalk pDist
  have he' : e = 0 ∨ e = 1 ∨ e = 2 := by omega
  rcases he' with rfl | rfl | rfl
  all_goals
    rw [X6_moodWithin_eq (by split <;> omega) (by split <;> omega)]
    refine so_eq ?_
    repeat' split
    all_goals omega
theorem warmth_eq {S : zMem} {o : pRoad} {l m : Nat} (ho : pRok o) (h : oC S o) (hl : l < rN o) (hm : m ≤ 9) : f_X6_warmth (iI l) (iI m) S = some (iI (pW (rK o l) (rW o l) m), S) := by
  have hN := ho.2.1
  have hk := ho.2.2.1 l hl
  have h2 := h.2.2.2.2.2 l hl
  simp (disch := omega) only [X6_warmth_b0, f_X6_warmth, zi_I, zc_true, zl_e, iI_cln, h2.1, h2.2.2]
  rw [X1_warmth_eq hk.1 hk.2.2 hm]
  rfl
theorem moodBehind_eq {S : zMem} {o : pRoad} {l m a : Nat} (ho : pRok o) (h : oC S o) (hl : l < rN o) (hm : m ≤ 9) (ha : a ≤ 9) : f_X6_moodBehind (iI l) (iI m) (iI a) S = some (iI (pTurn (rK o l) a m), S) := by
  have hN := ho.2.1
  have hk := ho.2.2.1 l hl
  have h2 := h.2.2.2.2.2 l hl
  simp (disch := omega) only [X6_moodBehind_b0, f_X6_moodBehind, zi_I, zc_true, zl_e, iI_cln, h2.1]
  rw [X1_turnBy_eq hk.1 ha]
  simp only [zb_some, iI_add]
  rw [X6_moodWithin_eq (by repeat' split; all_goals omega) (by repeat' split; all_goals omega)]
  simp only [zb_some]
  refine so_eq ?_
  unfold pTurn
  repeat' split
  all_goals omega
theorem wasCarried_t {S : zMem} {P c l : Nat} (h : S.1 P 11 = iI c) (hc : c < 64) (hl : l < 6) (hb : c.testBit l = true) : f_X4_wasCarried P (iI l) S = some (1, S) := by
  simp only [X4_wasCarried_b16, X4_wasCarried_b0, f_X4_wasCarried, zl_e, h, bitI c hc l hl]
  rw [if_pos hb]
  rfl
theorem wasCarried_f {S : zMem} {P c l : Nat} (h : S.1 P 11 = iI c) (hc : c < 64) (hl : l < 6) (hb : c.testBit l = false) : f_X4_wasCarried P (iI l) S = some (0, S) := by
  simp only [X4_wasCarried_b16, X4_wasCarried_b0, f_X4_wasCarried, zl_e, h, bitI c hc l hl]
  rw [if_neg (show ¬ c.testBit l = true by rw [hb]; exact Bool.false_ne_true)]
  rfl
/-- a write, named -/
theorem wr (S : zMem) (c k : Nat) (v : Int32) : ∃ S1 : zMem, zp S c (upd (S.1 c) k v) = S1 ∧ S1.1 c k = v ∧ (∀ j, j ≠ k → S1.1 c j = S.1 c j) ∧ (∀ q, q ≠ c → S1.1 q = S.1 q) ∧ S1.2 = S.2 :=
  ⟨_, rfl, by simp [zp_at, upd_at], fun j hj => by simp [zp_at, upd_at, hj], fun q hq => by simp [zp_at, hq], rfl⟩
theorem deliver_C {S : zMem} {P : Nat} {o : pRoad} {s : pSt} {l : Nat} (hP : 35 ≤ P) (ho : pRok o) (h : oC S o) (hs : sCl S P o s) (hk : pSok o s) (hl : l < rN o) (hc : (sC s).testBit l = false) : ∃ S1, f_X4_deliver P (iI l) S = some ((), S1) ∧ sCl S1 P o (pDel o s l) ∧ S1.1 (P + 2) l = iI (pEnd o s l) ∧ (∀ q, q ≠ P → q ≠ P + 1 → q ≠ P + 2 → S1.1 q = S.1 q) ∧ S1.2 = S.2 ∧ ∀ k, k < 8 → S1.1 P k = S.1 P k := by
  obtain ⟨a1, a2, a3, a4, a5, a6, a7⟩ := hs
  have hd := ho.2.2.1 l hl
  have hN := ho.2.1
  have hH := ho.1
  have c64 := hk.c64 ho
  have h27 := (h.2.2.2.2.2 l hl).2.1
  have hm1 : pMood o s l ≤ 9 := pMood_le hk
  have he1 : pEnd o s l ≤ 9 := pEnd_le ho hk hl
  simp only [f_X4_deliver, X4_deliver_b0, wasCarried_f a5 c64 (show l < 6 by omega) hc, zb_some, zero_0, if_true]
  simp (disch := omega) only [X4_deliver_b9, zi_I, zc_true, zl_e, iI_cln, h27, a2, a3, a4]
  rw [moodAtDoor_eq ho h hl hk.1 hk.2.2.1 hk.2.1, show pWalk (sM s) (pDist (sP s) (rD o l)) (sE s) = pMood o s l from rfl]
  simp only [zb_some]
  obtain ⟨T1, e1, b1, b2, b3, b4⟩ := wr S P 8 (iI (pMood o s l))
  have o1 : oC T1 o := h.cg (fun c x y => b3 c (by omega))
  rw [e1, b1, warmth_eq ho o1 hl hm1, show pW (rK o l) (rW o l) (pMood o s l) = pEnd o s l from rfl]
  simp only [zb_some]
  obtain ⟨T2, e2, c1, c2, c3, c4⟩ := wr T1 P 10 (iI (rD o l))
  rw [e2, c2 11 (by omega), b2 11 (by omega), a5, orI _ c64 l (by omega)]
  obtain ⟨T3, e3, d1, d2, d3, d4⟩ := wr T2 P 11 (iI ((sC s ||| 2 ^ l : Nat) : Int))
  rw [e3]
  obtain ⟨T4, e4, f1, f2, f3, f4⟩ := wr T3 (P + 2) l (iI (pEnd o s l))
  have hb : T4.1 (P + 1) (rD o l) = iI (sB s (rD o l)) := by
    rw [f3 (P + 1) (by omega), d3 (P + 1) (by omega), c3 (P + 1) (by omega), b3 (P + 1) (by omega)]
    exact a6 _ hd.2.1
  rw [e4, hb, X6_bondBehind_eq (hk.2.2.2.2.1 _ hd.2.1) he1]
  simp only [zb_some]
  obtain ⟨T5, e5, g1, g2, g3, g4⟩ := wr T4 (P + 1) (rD o l) (iI (pBond (sB s (rD o l)) (pEnd o s l)))
  have o5 : oC T5 o := o1.cg (fun c x y => by rw [g3 c (by omega), f3 c (by omega), d3 c (by omega), c3 c (by omega)])
  have hm5 : T5.1 P 8 = iI (pMood o s l) := by rw [g3 P (by omega), f3 P (by omega), d2 8 (by omega), c2 8 (by omega), b1]
  rw [e5, hm5, moodBehind_eq ho o5 hl hm1 he1]
  simp only [zb_some]
  obtain ⟨T6, e6, i1, i2, i3, i4⟩ := wr T5 P 8 (iI (pTurn (rK o l) (pEnd o s l) (pMood o s l)))
  rw [e6]
  have lo : ∀ k, k ≠ 8 → k ≠ 10 → k ≠ 11 → T6.1 P k = S.1 P k := fun k h1 h2 h3 => by
    rw [i2 k h1, g3 P (by omega), f3 P (by omega), d2 k h3, c2 k h2, b2 k h1]
  refine ⟨T6, rfl, ⟨by rw [lo 7 (by omega) (by omega) (by omega)]; exact a1, i1, by rw [lo 9 (by omega) (by omega) (by omega)]; exact a3, by rw [i2 10 (by omega), g3 P (by omega), f3 P (by omega), d2 10 (by omega), c1]; rfl, by rw [i2 11 (by omega), g3 P (by omega), f3 P (by omega), d1]; rfl, fun q hq => ?_, fun q hq hbt => ?_⟩, ?_, fun q h1 h2 h3 => ?_, ?_, fun k hk8 => lo k (by omega) (by omega) (by omega)⟩
  · rw [i3 (P + 1) (by omega)]
    show T5.1 (P + 1) q = iI ((va_up (sB s) (rD o l) (pBond (sB s (rD o l)) (pEnd o s l)) q : Nat) : Int)
    unfold va_up
    by_cases hqd : q = rD o l
    · rw [if_pos hqd, hqd]
      exact g1
    · rw [if_neg hqd, g2 q hqd, f3 (P + 1) (by omega), d3 (P + 1) (by omega), c3 (P + 1) (by omega), b3 (P + 1) (by omega)]
      exact a6 q hq
  · rw [i3 (P + 2) (by omega), g3 (P + 2) (by omega)]
    show T4.1 (P + 2) q = iI ((va_up (sX s) l (pEnd o s l) q : Nat) : Int)
    unfold va_up
    by_cases hql : q = l
    · rw [if_pos hql, hql]
      exact f1
    · have hbt2 : (sC s ||| 2 ^ l).testBit q = true := hbt
      rw [testBit_or _ c64 l (by omega) q (by omega)] at hbt2
      rw [if_neg hql, f2 q hql, d3 (P + 2) (by omega), c3 (P + 2) (by omega), b3 (P + 2) (by omega)]
      exact a7 q hq (by simpa [hql] using hbt2)
  · rw [i3 (P + 2) (by omega), g3 (P + 2) (by omega)]
    exact f1
  · rw [i3 q h1, g3 q h2, f3 q h3, d3 q h1, c3 q h1, b3 q h1]
  · rw [i4, g4, f4, d4, c4, b4]
