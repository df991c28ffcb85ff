/-! reading: the reference -/
def dM (T : zMem) (n t i : Nat) (op : Bool) (o : pRoad) : Prop := T.1 0 15 = iI ((60 * t : Nat) : Int) ∧ T.1 0 16 = iI i ∧ T.1 0 17 = iI n ∧ (op = true → T.1 0 18 = iI (rM o) ∧ T.1 0 19 = iI (rE o)) ∧ T.1 0 20 = iI (rH o) ∧ T.1 0 22 = iI (rN o) ∧ (∀ h, h < rH o → T.1 10 h = iI (rB o h)) ∧ ∀ l, l < rN o → T.1 11 (3 * l) = iI (rK o l) ∧ T.1 11 (3 * l + 1) = iI (rD o l) ∧ T.1 11 (3 * l + 2) = iI (rW o l)
def zFrM (T T1 : zMem) : Prop := (∀ k, k ≤ 13 → T1.1 0 k = T.1 0 k) ∧ (∀ c, c ≠ 0 → c ≠ 10 → c ≠ 11 → T1.1 c = T.1 c) ∧ T1.2 = T.2
theorem zFrM_0 (T : zMem) : zFrM T T := ⟨fun _ _ => rfl, fun _ _ _ _ => rfl, rfl⟩
theorem zFrM_t {T U V : zMem} (h : zFrM T U) (h2 : zFrM U V) : zFrM T V := ⟨fun k hk => (h2.1 k hk).trans (h.1 k hk), fun c a b d => (h2.2.1 c a b d).trans (h.2.1 c a b d), h2.2.2.trans h.2.2⟩
/-- a text in the reference -/
def tXM (T : zMem) (t n : Nat) (f : Nat → Int32) : Prop := n ≤ 60 ∧ t < 4 ∧ ∀ k, k < n → T.1 8 (60 * t + k) = f k
theorem tXM_f {T T1 : zMem} {t n : Nat} {f : Nat → Int32} (h : tXM T t n f) (hf : zFrM T T1) : tXM T1 t n f := ⟨h.1, h.2.1, fun k hk => by rw [hf.2.1 8 (by omega) (by omega) (by omega)]; exact h.2.2 k hk⟩
/-- the place moves -/
theorem pl_M (T : zMem) {n t i : Nat} {op : Bool} {o : pRoad} (h : dM T n t i op o) (j : Nat) : ∃ T1, zp T 0 (upd (T.1 0) 16 (iI j)) = T1 ∧ dM T1 n t j op o ∧ zFrM T T1 := by
  obtain ⟨T1, w1, w2, w3, w4, w5⟩ := wr T 0 16 (iI j)
  obtain ⟨a1, a2, a3, a4, a5, a6, a7, a8⟩ := h
  refine ⟨T1, w1, ⟨(w3 _ (by omega)).trans a1, w2, (w3 _ (by omega)).trans a3, fun q => ⟨(w3 _ (by omega)).trans (a4 q).1, (w3 _ (by omega)).trans (a4 q).2⟩, (w3 _ (by omega)).trans a5, (w3 _ (by omega)).trans a6, fun k hk => by rw [w4 10 (by omega)]; exact a7 k hk, fun l hl => by rw [w4 11 (by omega)]; exact a8 l hl⟩, ⟨fun k hk => w3 k (by omega), fun c h1 _ _ => w4 c h1, w5⟩⟩
theorem here_M {T : zMem} {n t i : Nat} {op : Bool} {o : pRoad} {f : Nat → Int32} (h : dM T n t i op o) (hx : tXM T t n f) (hi : i < n) : f_X9_here T = some (f i, T) := by
  have hn := hx.1
  have ht := hx.2.1
  simp only [f_X9_here, X9_here_b0, zl_e, h.1, h.2.1, iI_nadd]
  simp (disch := omega) only [zi_I, zc_true, iI_cln, hx.2.2 i hi]
theorem skip_M {n t : Nat} {f : Nat → Int32} {T : zMem} {i : Nat} {op0 : Bool} {o0 : pRoad} (h : dM T n t i op0 o0) (hx : tXM T t n f) (hi : i ≤ n) : ∃ i2 T1, f_X9_skip T = some ((), T1) ∧ dM T1 n t i2 op0 o0 ∧ zFrM T T1 ∧ i ≤ i2 ∧ i2 ≤ n ∧ (i2 < n → f i2 ≠ 32) ∧ ∀ op o, pG_ f n i op o = pG_ f n i2 op o := by
  have hn := hx.1
  refine zforI (F := fun fu _ T => X9_skip_l0 fu T) (n := n - i) (P := fun k U => dM U n t (i + k) op0 o0 ∧ zFrM T U ∧ i + k ≤ n ∧ ∀ op o, pG_ f n i op o = pG_ f n (i + k) op o) (Q := fun r => ∃ i2 T1, r = some ((), T1) ∧ dM T1 n t i2 op0 o0 ∧ zFrM T T1 ∧ i ≤ i2 ∧ i2 ≤ n ∧ (i2 < n → f i2 ≠ 32) ∧ ∀ op o, pG_ f n i op o = pG_ f n i2 op o) (fun fu k U hk hU => ?_) (fun fu U hU => ?_) (zF_gt (by omega)) (a := T) ⟨h, zFrM_0 T, hi, fun _ _ => rfl⟩
  · obtain ⟨u1, u2, u3, u4⟩ := hU
    have hxU := tXM_f hx u2
    simp only [X9_skip_l0, X9_skip_b0, X9_skip_b33, zl_e, u1.2.1, u1.2.2.1]
    simp (disch := omega) only [iI_le]
    rw [if_neg (by omega), here_M u1 hxU (by omega)]
    simp only [zb_some, u1.2.1]
    by_cases hb : f (i + k) = 32
    · left
      rw [if_pos hb, show iI ((i + k : Nat) : Int) + (1 : Int32) = iI ((i + k + 1 : Nat) : Int) from i1n (i + k) 1]
      obtain ⟨V, v1, v2, v3⟩ := pl_M U u1 (i + k + 1)
      rw [v1]
      exact ⟨V, ⟨v2, zFrM_t u2 v3, by omega, fun op o => by rw [u4, pG_blank (by omega) hb]; rfl⟩, rfl⟩
    · right
      rw [if_neg hb]
      exact ⟨i + k, U, rfl, u1, u2, by omega, u3, fun _ => hb, u4⟩
  · obtain ⟨u1, u2, u3, u4⟩ := hU
    simp only [X9_skip_l0, X9_skip_b0, X9_skip_b33, zl_e, u1.2.1, u1.2.2.1]
    simp (disch := omega) only [iI_le]
    rw [if_pos (by omega)]
    exact ⟨i + (n - i), U, rfl, u1, u2, by omega, u3, fun q => by omega, u4⟩
theorem figure_S {T : zMem} {n t i m : Nat} {op : Bool} {o : pRoad} {f : Nat → Int32} (h : dM T n t i op o) (hx : tXM T t n f) (hi : i ≤ n) (hm : m ≤ 9) : (∃ a T1, pFig f n i = some a ∧ a ≤ m ∧ f_X9_figure (iI m) T = some (iI a, T1) ∧ dM T1 n t (i + 1) op o ∧ zFrM T T1 ∧ ∀ k, k ≠ 16 → T1.1 0 k = T.1 0 k) ∨ ((∀ a, pFig f n i = some a → ¬ a ≤ m) ∧ f_X9_figure (iI m) T = some (-9, T)) := by
  have hn := hx.1
  have ht := hx.2.1
  simp only [f_X9_figure, X9_figure_b0, X9_figure_b30, zl_e, h.2.1, h.2.2.1]
  simp (disch := omega) only [eqn]
  by_cases hin : i = n
  · right
    rw [if_pos hin]
    refine ⟨fun a ha => ?_, rfl⟩
    have := (pFig_some ha).1
    omega
  · rw [if_neg hin, here_M h hx (by omega)]
    obtain ⟨z, z1, z2, ez⟩ := int_of (f i)
    simp only [zb_some]
    rw [show (48 : Int32) + iI (m : Int) = iI ((48 + m : Nat) : Int) from i1n 48 m, ez, show (48 : Int64) = (iI 48).toInt64 from rfl, X9_in_eq, iI_toInt z1 z2, iI_toInt (z := 48) (by omega) (by omega), iI_toInt (by omega) (by omega)]
    simp only [zb_some, b01_0]
    by_cases hc : (48 : Int) ≤ z ∧ z ≤ ((48 + m : Nat) : Int)
    · left
      rw [if_neg (fun q => q hc), h.2.1, show iI (i : Int) + (1 : Int32) = iI ((i + 1 : Nat) : Int) from i1n i 1]
      obtain ⟨T1, w1, w2, w3⟩ := pl_M T h (i + 1)
      have w4 : ∀ k, k ≠ 16 → T1.1 0 k = T.1 0 k := fun k hk => by rw [← w1, zp_eq, upd_ne hk]
      rw [w1, w2.1, w2.2.1]
      have hx1 := tXM_f hx w3
      have ep : pFig f n i = some (z - 48).toNat := by
        unfold pFig
        rw [ez, iI_toInt z1 z2, if_pos (by omega)]
      simp (disch := omega) only [iI_nadd, lit_1, iI_sub, zi_I, zc_true, iI_cl]
      rw [show (((60 * t + (i + 1) : Nat) : Int) - 1).toNat = 60 * t + i by omega, hx1.2.2 i (by omega), ez, show (48 : Int32) = iI 48 from rfl, iI_sub]
      refine ⟨(z - 48).toNat, T1, ep, by omega, ?_, w2, w3, w4⟩
      rw [show (((z - 48).toNat : Nat) : Int) = z - 48 by omega]
    · right
      rw [if_pos hc]
      refine ⟨fun a ha => ?_, rfl⟩
      have := (pFig_some ha)
      have h2 := this.2.2
      rw [ez] at h2
      have h3 := (iI_eq z1 z2 (by omega) (by omega)).mp h2
      omega
theorem figure_M {T : zMem} {n t i m : Nat} {op : Bool} {o : pRoad} {f : Nat → Int32} (h : dM T n t i op o) (hx : tXM T t n f) (hi : i ≤ n) (hm : m ≤ 9) : (∃ a T1, pFig f n i = some a ∧ a ≤ m ∧ f_X9_figure (iI m) T = some (iI a, T1) ∧ dM T1 n t (i + 1) op o ∧ zFrM T T1) ∨ ((∀ a, pFig f n i = some a → ¬ a ≤ m) ∧ f_X9_figure (iI m) T = some (-9, T)) := by
  rcases figure_S h hx hi hm with ⟨a, T1, a1, a2, a3, a4, a5, a6⟩ | h2
  · exact Or.inl ⟨a, T1, a1, a2, a3, a4, a5⟩
  · exact Or.inr h2
/-- what a reading step leaves -/
def stM (T : zMem) (n t i : Nat) (r : Nat ⊕ pRoad) (fn : Option (Int32 × zMem)) : Prop := match r with
  | .inl e => ∃ T1, fn = some (0, T1) ∧ T1.1 0 16 = iI e ∧ zFrM T T1
  | .inr o2 => ∃ T1, fn = some (1, T1) ∧ dM T1 n t (i + 3) true o2 ∧ zFrM T T1
theorem fig_no {f : Nat → Int32} {n i : Nat} (h : ∀ a, pFig f n i = some a → ¬ a ≤ 9) : pFig f n i = none := by
  cases hp : pFig f n i with
  | none => rfl
  | some a => exact absurd (pFig_some hp).2.1 (h a hp)
theorem hse_M {T : zMem} {n t i : Nat} {o : pRoad} {f : Nat → Int32} (h : dM T n t i true o) (hx : tXM T t n f) (ho : pRok o) (hi : i < n) : stM T n t i (pHse f n i o) (f_X9_readsHouse T) := by
  have hn := hx.1
  have hH := ho.1
  have hN := ho.2.1
  have q6 : iI (rH o : Int) = (6 : Int32) ↔ rH o = 6 := eqn (n := 6) (by omega) (by omega)
  have q0 : iI (rN o : Int) ≤ (0 : Int32) ↔ rN o = 0 := by
    rw [lit_0, iI_le (by omega) (by omega) (by omega) (by omega)]
    omega
  simp only [f_X9_readsHouse, X9_readsHouse_b0, X9_readsHouse_b16, zl_e, h.2.2.2.2.1, h.2.2.2.2.2.1, q6, q0, zbo_0, zc_true]
  unfold pHse
  by_cases hc : 0 < rN o ∨ 6 ≤ rH o
  · rw [if_pos hc]
    refine ⟨T, ?_, h.2.1, zFrM_0 T⟩
    by_cases h6 : rH o = 6
    · rw [if_pos h6]
    · rw [if_neg h6, if_neg (by omega)]
  · rw [if_neg hc, if_neg (by omega), if_pos (by omega), h.2.1, show iI (i : Int) + (1 : Int32) = iI ((i + 1 : Nat) : Int) from i1n i 1]
    obtain ⟨T1, w1, w2, w3⟩ := pl_M T h (i + 1)
    have hx1 := tXM_f hx w3
    rw [w1]
    simp only [f_X9_twoFigures, X9_twoFigures_b0, X9_twoFigures_b29, zl_e, w2.2.1]
    rcases figure_M (m := 9) w2 hx1 (by omega) (by omega) with ⟨a, T2, a1, a2, a3, a4, a5⟩ | ⟨a1, a2⟩
    · have a3' : f_X9_figure (9 : Int32) T1 = some (iI a, T2) := a3
      have hx2 := tXM_f hx1 a5
      have hia := (pFig_some a1).1
      rw [a3', a1]
      simp only [zb_some, fig_m9 (show a ≤ 100 by omega), if_false]
      rcases figure_M (m := 9) a4 hx2 (by omega) (by omega) with ⟨b, T3, b1, b2, b3, b4, b5⟩ | ⟨b1, b2⟩
      · have b3' : f_X9_figure (9 : Int32) T2 = some (iI b, T3) := b3
        have hib := (pFig_some b1).1
        have e3 : (10 : Int32) * iI (a : Int) + iI (b : Int) = iI ((10 * a + b : Nat) : Int) := by
          rw [lit_10, iI_mul, iI_add]
          rfl
        have q : iI ((10 * a + b : Nat) : Int) ≤ (20 : Int32) ↔ 10 * a + b ≤ 20 := by
          rw [lit_20, iI_le (by omega) (by omega) (by omega) (by omega)]
          omega
        rw [b3', show i + 2 = i + 1 + 1 from rfl, b1]
        simp only [zb_some, fig_m9 (show b ≤ 100 by omega), if_false, e3, q]
        by_cases h20 : 10 * a + b ≤ 20
        · rw [if_pos h20, if_neg (show ¬ 20 < 10 * a + b by omega)]
          obtain ⟨c1, c2, c3, c4, c5, c6, c7, c8⟩ := b4
          simp (disch := omega) only [zb_some, fig_m9 (show 10 * a + b ≤ 100 by omega), if_false, c5, zi_I, zc_true, iI_cln]
          obtain ⟨T4, x1, x2, x3, x4, x5⟩ := wr T3 10 (rH o) (iI ((10 * a + b : Nat) : Int))
          rw [x1, x4 0 (by omega), c5, show iI (rH o : Int) + (1 : Int32) = iI ((rH o + 1 : Nat) : Int) from i1n (rH o) 1]
          obtain ⟨T5, y1, y2, y3, y4, y5⟩ := wr T4 0 20 (iI ((rH o + 1 : Nat) : Int))
          rw [x4 0 (by omega)] at y1
          rw [y1, zbo_1, zc_true]
          have h0 : ∀ k, k ≠ 20 → T5.1 0 k = T3.1 0 k := fun k hk => by rw [y3 k hk, x4 0 (by omega)]
          refine ⟨T5, rfl, ⟨by rw [h0 _ (by omega)]; exact c1, by rw [h0 _ (by omega)]; exact c2, by rw [h0 _ (by omega)]; exact c3, fun q => ⟨by rw [h0 _ (by omega)]; exact (c4 q).1, by rw [h0 _ (by omega)]; exact (c4 q).2⟩, y2, by rw [h0 _ (by omega)]; exact c6, fun k hk => ?_, fun l hl => ?_⟩, zFrM_t w3 (zFrM_t a5 (zFrM_t b5 ⟨fun k hk => h0 k (by omega), fun c d1 d2 d3 => by rw [y4 c d1, x4 c d2], by rw [y5, x5]⟩))⟩
          · rw [y4 10 (by omega)]
            show T4.1 10 k = iI ((va_up (rB o) (rH o) (10 * a + b) k : Nat) : Int)
            unfold va_up
            by_cases hkh : k = rH o
            · subst hkh
              rw [if_pos rfl]
              exact x2
            · have hk2 : k < rH o + 1 := hk
              rw [if_neg hkh, x3 k hkh]
              exact c7 k (by omega)
          · rw [y4 11 (by omega), x4 11 (by omega)]
            exact c8 l hl
        · rw [if_neg h20, if_pos (show 20 < 10 * a + b by omega)]
          obtain ⟨T4, x1, x2, x3⟩ := pl_M T3 b4 (i + 1)
          rw [x1]
          simp only [zb_some, mm_99, if_true]
          exact ⟨T4, rfl, x2.2.1, zFrM_t w3 (zFrM_t a5 (zFrM_t b5 x3))⟩
      · have b2' : f_X9_figure (9 : Int32) T2 = some (-9, T2) := b2
        rw [b2', show i + 2 = i + 1 + 1 from rfl, fig_no b1]
        simp only [zb_some, mm_99, if_true]
        exact ⟨T2, rfl, a4.2.1, zFrM_t w3 a5⟩
    · have a2' : f_X9_figure (9 : Int32) T1 = some (-9, T1) := a2
      rw [a2', fig_no a1]
      simp only [zb_some, mm_99, if_true]
      exact ⟨T1, rfl, w2.2.1, w3⟩
theorem kindOf_eq (x : Int32) (S : zMem) : f_X9_kindOfLetter x S = some (match pSgn x with
    | some k => iI (k : Nat)
    | none => -9, S) := by
  simp only [f_X9_kindOfLetter, X9_kindOfLetter_b0, X9_kindOfLetter_b62]
  unfold pSgn
  by_cases h0 : x = 108
  · rw [if_pos h0, if_pos h0]
    rfl
  rw [if_neg h0, if_neg h0]
  by_cases h1 : x = 116
  · rw [if_pos h1, if_pos h1]
    rfl
  rw [if_neg h1, if_neg h1]
  by_cases h2 : x = 98
  · rw [if_pos h2, if_pos h2]
    rfl
  rw [if_neg h2, if_neg h2]
  by_cases h3 : x = 118
  · rw [if_pos h3, if_pos h3]
    rfl
  rw [if_neg h3, if_neg h3]
  by_cases h4 : x = 107
  · rw [if_pos h4, if_pos h4]
    rfl
  rw [if_neg h4, if_neg h4]
  by_cases h5 : x = 102
  · rw [if_pos h5, if_pos h5]
    rfl
  rw [if_neg h5, if_neg h5]
theorem ltr_M {T : zMem} {n t i : Nat} {o : pRoad} {f : Nat → Int32} (h : dM T n t i true o) (hx : tXM T t n f) (ho : pRok o) (hi : i < n) : stM T n t i (pLtr f n i o) (f_X9_readsLetter T) := by
  have hn := hx.1
  have hH := ho.1
  have hN := ho.2.1
  have q6 : iI (rN o : Int) = (6 : Int32) ↔ rN o = 6 := eqn (n := 6) (by omega) (by omega)
  simp only [f_X9_readsLetter, X9_readsLetter_b0, X9_readsLetter_b37, zl_e, here_M h hx hi, zb_some, kindOf_eq]
  unfold pLtr
  cases hs : pSgn (f i) with
  | none =>
    simp only [mm_99, if_true, zbo_0, zc_true]
    exact ⟨T, rfl, h.2.1, zFrM_0 T⟩
  | some k =>
    have k5 := sgn_5 hs
    simp (disch := omega) only [fig_m9 (show k ≤ 100 by omega), if_false, h.2.2.2.2.1, h.2.2.2.2.2.1, q6, eqn0, zbo_0, zc_true]
    by_cases hc : rH o = 0 ∨ 6 ≤ rN o
    · rw [if_pos hc]
      refine ⟨T, ?_, h.2.1, zFrM_0 T⟩
      by_cases h6 : rN o = 6
      · rw [if_pos h6]
      · rw [if_neg h6, if_pos (by omega)]
    · rw [if_neg hc, if_neg (by omega), if_neg (by omega), h.2.1, show iI (i : Int) + (1 : Int32) = iI ((i + 1 : Nat) : Int) from i1n i 1]
      obtain ⟨T1, w1, w2, w3⟩ := pl_M T h (i + 1)
      have hx1 := tXM_f hx w3
      rw [w1, w2.2.2.2.2.1, show iI (rH o : Int) - (1 : Int32) = iI ((rH o - 1 : Nat) : Int) by rw [lit_1, iI_sub]; exact congrArg iI (by omega)]
      rcases figure_M (m := rH o - 1) w2 hx1 (by omega) (by omega) with ⟨a, T2, a1, a2, a3, a4, a5⟩ | ⟨a1, a2⟩
      · have hx2 := tXM_f hx1 a5
        have hia := (pFig_some a1).1
        rw [a3, a1]
        simp only [zb_some, fig_m9 (show a ≤ 100 by omega), if_false]
        rw [if_neg (show ¬ rH o ≤ a by omega)]
        rcases figure_M (m := 9) a4 hx2 (by omega) (by omega) with ⟨b, T3, b1, b2, b3, b4, b5⟩ | ⟨b1, b2⟩
        · have b3' : f_X9_figure (9 : Int32) T2 = some (iI b, T3) := b3
          have hib := (pFig_some b1).1
          rw [b3', show i + 2 = i + 1 + 1 from rfl, b1]
          obtain ⟨c1, c2, c3, c4, c5, c6, c7, c8⟩ := b4
          have e3 : (3 : Int32) * iI (rN o : Int) = iI ((3 * rN o : Nat) : Int) := by
            rw [lit_3, iI_mul]
            rfl
          simp only [zb_some, X9_readsLetter_b77, fig_m9 (show b ≤ 100 by omega), if_false, e3, zl_e]
          rw [show iI ((3 * rN o : Nat) : Int) + (1 : Int32) = iI ((3 * rN o + 1 : Nat) : Int) from i1n _ 1, show iI ((3 * rN o : Nat) : Int) + (2 : Int32) = iI ((3 * rN o + 2 : Nat) : Int) from i1n _ 2]
          simp (disch := omega) only [zi_I, zc_true, iI_cln]
          obtain ⟨T4, x1, x2, x3, x4, x5⟩ := wr T3 11 (3 * rN o) (iI k)
          rw [x1]
          obtain ⟨T5, y1, y2, y3, y4, y5⟩ := wr T4 11 (3 * rN o + 1) (iI a)
          rw [y1]
          obtain ⟨T6, z1, z2, z3, z4, z5⟩ := wr T5 11 (3 * rN o + 2) (iI b)
          rw [z1, z4 0 (by omega), y4 0 (by omega), x4 0 (by omega), c6, show iI (rN o : Int) + (1 : Int32) = iI ((rN o + 1 : Nat) : Int) from i1n (rN o) 1]
          obtain ⟨T7, v1, v2, v3, v4, v5⟩ := wr T6 0 22 (iI ((rN o + 1 : Nat) : Int))
          rw [z4 0 (by omega), y4 0 (by omega), x4 0 (by omega)] at v1
          rw [v1, zbo_1, zc_true]
          have h0 : ∀ k, k ≠ 22 → T7.1 0 k = T3.1 0 k := fun k hk => by rw [v3 k hk, z4 0 (by omega), y4 0 (by omega), x4 0 (by omega)]
          refine ⟨T7, rfl, ⟨by rw [h0 _ (by omega)]; exact c1, by rw [h0 _ (by omega)]; exact c2, by rw [h0 _ (by omega)]; exact c3, fun q => ⟨by rw [h0 _ (by omega)]; exact (c4 q).1, by rw [h0 _ (by omega)]; exact (c4 q).2⟩, by rw [h0 _ (by omega)]; exact c5, v2, fun q hq => ?_, fun l hl => ?_⟩, zFrM_t w3 (zFrM_t a5 (zFrM_t b5 ⟨fun k hk => h0 k (by omega), fun c d1 d2 d3 => by rw [v4 c d1, z4 c d3, y4 c d3, x4 c d3], by rw [v5, z5, y5, x5]⟩))⟩
          · rw [v4 10 (by omega), z4 10 (by omega), y4 10 (by omega), x4 10 (by omega)]
            exact c7 q hq
          · have hl2 : l < rN o + 1 := hl
            rw [v4 11 (by omega)]
            show T6.1 11 (3 * l) = iI ((va_up (rK o) (rN o) k l : Nat) : Int) ∧ T6.1 11 (3 * l + 1) = iI ((va_up (rD o) (rN o) a l : Nat) : Int) ∧ T6.1 11 (3 * l + 2) = iI ((va_up (rW o) (rN o) b l : Nat) : Int)
            unfold va_up
            by_cases hln : l = rN o
            · subst hln
              rw [if_pos rfl, if_pos rfl, if_pos rfl]
              exact ⟨by rw [z3 _ (by omega), y3 _ (by omega)]; exact x2, by rw [z3 _ (by omega)]; exact y2, z2⟩
            · rw [if_neg hln, if_neg hln, if_neg hln]
              have c9 := c8 l (by omega)
              exact ⟨by rw [z3 _ (by omega), y3 _ (by omega), x3 _ (by omega)]; exact c9.1, by rw [z3 _ (by omega), y3 _ (by omega), x3 _ (by omega)]; exact c9.2.1, by rw [z3 _ (by omega), y3 _ (by omega), x3 _ (by omega)]; exact c9.2.2⟩
        · have b2' : f_X9_figure (9 : Int32) T2 = some (-9, T2) := b2
          rw [b2', show i + 2 = i + 1 + 1 from rfl, fig_no b1]
          simp only [zb_some, X9_readsLetter_b77, mm_99, if_true, zbo_0, zc_true]
          exact ⟨T2, rfl, a4.2.1, zFrM_t w3 a5⟩
      · rw [a2]
        simp only [zb_some, X9_readsLetter_b77, mm_99, if_true, zbo_0, zc_true]
        cases hp : pFig f n (i + 1) with
        | none => exact ⟨T1, rfl, w2.2.1, w3⟩
        | some a =>
          have := a1 a hp
          dsimp only
          rw [if_pos (show rH o ≤ a by omega)]
          exact ⟨T1, rfl, w2.2.1, w3⟩
theorem head_M {T : zMem} {n t i : Nat} {o : pRoad} {f : Nat → Int32} (h : dM T n t i false o) (hx : tXM T t n f) (hi : i < n) (k19 : zMem → Option (Int32 × zMem)) (hk : k19 = fun S => if f i = (112 : Int32) then (zl (S.1 (0) 16) fun v5 => zl (v5 + (1 : Int32)) fun v6 => zl (zp S (0) (upd (S.1 (0)) 16 v6)) fun S => zb (f_X9_figure (9 : Int32) S) fun v7 S => zl (zp S (0) (upd (S.1 (0)) 18 v7)) fun S => zl (S.1 (0) 18) fun v8 => if v8 = (-9 : Int32) then (X9_readsHead_b66 (-9 : Int32) S) else (zb (f_X9_figure (2 : Int32) S) fun v9 S => X9_readsHead_b66 v9 S)) else (X9_readsHead_b24 S)) : stM T n t i (pHead f n i o) (k19 T) := by
  subst hk
  have hn := hx.1
  dsimp only
  unfold pHead
  by_cases hp : f i = 112
  · rw [if_pos hp, if_pos hp]
    simp only [zl_e, h.2.1]
    rw [show iI (i : Int) + (1 : Int32) = iI ((i + 1 : Nat) : Int) from i1n i 1]
    obtain ⟨T1, w1, w2, w3⟩ := pl_M T h (i + 1)
    have hx1 := tXM_f hx w3
    rw [w1]
    have wr18 : ∀ (U : zMem) (i : Nat) (v : Int32), dM U n t i false o → ∃ V, zp U 0 (upd (U.1 0) 18 v) = V ∧ dM V n t i false o ∧ zFrM U V ∧ V.1 0 18 = v := by
      intro U i v hU
      obtain ⟨V, v1, v2, v3, v4, v5⟩ := wr U 0 18 v
      obtain ⟨a1, a2, a3, a4, a5, a6, a7, a8⟩ := hU
      exact ⟨V, v1, ⟨(v3 _ (by omega)).trans a1, (v3 _ (by omega)).trans a2, (v3 _ (by omega)).trans a3, fun q => (by cases q), (v3 _ (by omega)).trans a5, (v3 _ (by omega)).trans a6, fun k hk => by rw [v4 10 (by omega)]; exact a7 k hk, fun l hl => by rw [v4 11 (by omega)]; exact a8 l hl⟩, ⟨fun k hk => v3 k (by omega), fun c h1 _ _ => v4 c h1, v5⟩, v2⟩
    have wr19 : ∀ (U : zMem) (i : Nat) (v : Int32), dM U n t i false o → ∃ V, zp U 0 (upd (U.1 0) 19 v) = V ∧ dM V n t i false o ∧ zFrM U V ∧ V.1 0 19 = v ∧ V.1 0 18 = U.1 0 18 := by
      intro U i v hU
      obtain ⟨V, v1, v2, v3, v4, v5⟩ := wr U 0 19 v
      obtain ⟨a1, a2, a3, a4, a5, a6, a7, a8⟩ := hU
      exact ⟨V, v1, ⟨(v3 _ (by omega)).trans a1, (v3 _ (by omega)).trans a2, (v3 _ (by omega)).trans a3, fun q => (by cases q), (v3 _ (by omega)).trans a5, (v3 _ (by omega)).trans a6, fun k hk => by rw [v4 10 (by omega)]; exact a7 k hk, fun l hl => by rw [v4 11 (by omega)]; exact a8 l hl⟩, ⟨fun k hk => v3 k (by omega), fun c h1 _ _ => v4 c h1, v5⟩, v2, v3 18 (by omega)⟩
    rcases figure_M (m := 9) w2 hx1 (by omega) (by omega) with ⟨a, T2, a1, a2, a3, a4, a5⟩ | ⟨a1, a2⟩
    · have a3' : f_X9_figure (9 : Int32) T1 = some (iI a, T2) := a3
      have hia := (pFig_some a1).1
      rw [a3', a1]
      simp only [zb_some]
      obtain ⟨T3, b1, b2, b3, b4⟩ := wr18 T2 (i + 1 + 1) (iI a) a4
      have hx3 := tXM_f hx (zFrM_t w3 (zFrM_t a5 b3))
      rw [b1, b4]
      simp only [fig_m9 (show a ≤ 100 by omega), if_false]
      rcases figure_S (m := 2) b2 hx3 (by omega) (by omega) with ⟨b, T4, c1, c2, c3, c4, c5, c6⟩ | ⟨c1, c2⟩
      · have c3' : f_X9_figure (2 : Int32) T3 = some (iI b, T4) := c3
        rw [c3', show i + 2 = i + 1 + 1 from rfl, c1]
        simp only [zb_some, X9_readsHead_b66, X9_readsHead_b83, zl_e]
        rw [if_neg (show ¬ 2 < b by omega)]
        obtain ⟨T5, d1, d2, d3, d4, d5⟩ := wr19 T4 (i + 1 + 1 + 1) (iI b) c4
        rw [d1, d4]
        simp only [fig_m9 (show b ≤ 100 by omega), if_false, zbo_1, zc_true]
        refine ⟨T5, rfl, ?_, zFrM_t w3 (zFrM_t a5 (zFrM_t b3 (zFrM_t c5 d3)))⟩
        have k18 : T4.1 0 18 = iI a := by rw [c6 18 (by omega), b4]
        obtain ⟨g1, g2, g3, g4, g5, g6, g7, g8⟩ := d2
        exact ⟨g1, g2, g3, fun _ => ⟨by rw [d5]; exact k18, d4⟩, g5, g6, g7, g8⟩
      · have c2' : f_X9_figure (2 : Int32) T3 = some (-9, T3) := c2
        rw [c2']
        simp only [zb_some, X9_readsHead_b66, X9_readsHead_b83, zl_e]
        obtain ⟨T5, d1, d2, d3, d4, d5⟩ := wr19 T3 (i + 1 + 1) (-9 : Int32) b2
        rw [d1, d4]
        simp only [mm_99, if_true, zbo_0, zc_true]
        have hfr := zFrM_t w3 (zFrM_t a5 (zFrM_t b3 d3))
        cases hq : pFig f n (i + 2) with
        | none => exact ⟨T5, rfl, d2.2.1, hfr⟩
        | some b =>
          have := c1 b hq
          dsimp only
          rw [if_pos (show 2 < b by omega)]
          exact ⟨T5, rfl, d2.2.1, hfr⟩
    · have a2' : f_X9_figure (9 : Int32) T1 = some (-9, T1) := a2
      rw [a2', fig_no a1]
      simp only [zb_some]
      obtain ⟨T3, b1, b2, b3, b4⟩ := wr18 T1 (i + 1) (-9 : Int32) w2
      rw [b1, b4]
      simp only [mm_99, if_true, X9_readsHead_b66, X9_readsHead_b83, zl_e]
      obtain ⟨T5, d1, d2, d3, d4, d5⟩ := wr19 T3 (i + 1) (-9 : Int32) b2
      rw [d1, d4]
      simp only [mm_99, if_true, zbo_0, zc_true]
      exact ⟨T5, rfl, d2.2.1, zFrM_t w3 (zFrM_t b3 d3)⟩
  · rw [if_neg hp, if_neg hp]
    simp only [X9_readsHead_b24, zbo_0, zc_true]
    exact ⟨T, rfl, h.2.1, zFrM_0 T⟩
