/-! fault, post: the reference -/
theorem faultOf_loopM {n t : Nat} {f : Nat → Int32} : ∀ (m i : Nat) (o : pRoad) (T : zMem) (fuel : Nat), n < i + m → m < fuel → i ≤ n → (i < n → f i ≠ 32) → pRok o → dM T n t i true o → tXM T t n f → ∃ T1, X9_faultOf_l46 fuel (1 : Int32) T = some (iI (pRes (pG_ f n i true o)), T1) ∧ zFrM T T1 ∧ ∀ o2, pG_ f n i true o = .inr o2 → (∃ i2, dM T1 n t i2 true o2) ∧ pRok o2 ∧ 0 < rN o2 := by
  intro m
  induction m with
  | zero => exact fun i o T fuel h1 h2 h3 => absurd h1 (by omega)
  | succ m ih =>
    intro i o T fuel h1 h2 h3 hb ho hd hx
    have hn := hx.1
    have hN := ho.2.1
    obtain ⟨fuel, rfl⟩ : ∃ f1, fuel = f1 + 1 := ⟨fuel - 1, by omega⟩
    simp (disch := omega) only [X9_faultOf_l46, X9_faultOf_b46, one_0, if_false, zl_e, hd.2.1, hd.2.2.1, iI_le]
    by_cases hi : n ≤ i
    · rw [if_pos (by omega), pG_end hi]
      have q0 : iI (rN o : Int) ≤ (0 : Int32) ↔ rN o = 0 := by
        rw [lit_0, iI_le (by omega) (by omega) (by omega) (by omega)]
        omega
      simp only [X9_faultOf_b93, X9_faultOf_b109, X9_faultOf_b113, one_0, if_false, zl_e, hd.2.2.2.2.2.1, q0, hd.2.1]
      unfold pFin
      by_cases h0 : 0 < rN o
      · rw [if_neg (by omega), if_pos h0]
        refine ⟨T, rfl, zFrM_0 T, fun o2 h2 => ?_⟩
        cases h2
        exact ⟨⟨i, hd⟩, ho, h0⟩
      · rw [if_pos (by omega), if_neg h0, show i = n by omega]
        exact ⟨T, rfl, zFrM_0 T, fun o2 h2 => by cases h2⟩
    · rw [if_neg (by omega), here_M hd hx (by omega)]
      simp only [zb_some]
      have hst : stM T n t i (pItm f n i true o) (if f i = (104 : Int32) then f_X9_readsHouse T else f_X9_readsLetter T) := by
        unfold pItm
        rw [if_pos rfl]
        by_cases hh : f i = 104
        · rw [if_pos hh, if_pos hh]
          exact hse_M hd hx ho (by omega)
        · rw [if_neg hh, if_neg hh]
          exact ltr_M hd hx ho (by omega)
      have hsw : (if f i = (104 : Int32) then (zb (f_X9_readsHouse T) fun v5 S => X9_faultOf_b81 (X9_faultOf_l46 fuel) v5 S) else (zb (f_X9_readsLetter T) fun v4 S => X9_faultOf_b81 (X9_faultOf_l46 fuel) v4 S)) = zb (if f i = (104 : Int32) then f_X9_readsHouse T else f_X9_readsLetter T) fun v5 S => X9_faultOf_b81 (X9_faultOf_l46 fuel) v5 S := by
        split <;> rfl
      rw [hsw, pG_item (by omega) (hb (by omega))]
      cases hr : pItm f n i true o with
      | inl e =>
        rw [hr] at hst
        obtain ⟨T1, e1, e2, e3⟩ := hst
        rw [e1]
        obtain ⟨fuel, rfl⟩ : ∃ f1, fuel = f1 + 1 := ⟨fuel - 1, by omega⟩
        simp only [zb_some, X9_faultOf_b81, zero_0, if_true, X9_faultOf_l46, X9_faultOf_b46, X9_faultOf_b93, X9_faultOf_b109, X9_faultOf_b113, zl_e, e2]
        exact ⟨T1, rfl, e3, fun o2 h2 => by cases h2⟩
      | inr o2 =>
        have hok := pItm_ok ho hr
        rw [hr] at hst
        obtain ⟨T1, e1, e2, e3⟩ := hst
        have hx1 := tXM_f hx e3
        rw [e1]
        obtain ⟨i2, T2, s1, s2, s3, s4, s5, s6, s7⟩ := skip_M e2 hx1 (by omega)
        simp only [zb_some, X9_faultOf_b81, one_0, if_false, s1]
        rw [s7]
        obtain ⟨T3, g1, g2, g3⟩ := ih i2 o2 T2 fuel (by omega) (by omega) s5 s6 hok.1 s2 (tXM_f hx1 s3)
        exact ⟨T3, g1, zFrM_t e3 (zFrM_t s3 g2), g3⟩
theorem faultOf_M {S : zMem} {g : pSig} {t : Nat} (hg : pWf g) (h : RM S g) (ht : t < 4) (hs : ¬ (gX g t).1 < 0) : ∃ S1, f_X9_faultOf (iI t) S = some (iI (pRes (pRead (gX g t))), S1) ∧ zFrM S S1 ∧ ∀ o2, pRead (gX g t) = .inr o2 → (∃ n i2, dM S1 n t i2 true o2) ∧ pRok o2 ∧ 0 < rN o2 := by
  have hb := hg.2.1 t ht
  obtain ⟨n, hn⟩ := sz_of hb.1 hs
  have hr := h.2.2.1 t ht
  rw [hn] at hr
  unfold pRead
  rw [hn, Int.toNat_natCast]
  simp only [f_X9_faultOf, X9_faultOf_b0]
  rw [zl_e, zl_e, show (60 : Int32) * iI (t : Int) = iI ((60 * t : Nat) : Int) by rw [lit_60, iI_mul]; rfl]
  obtain ⟨T1, e1, a1, b1, c1, d1⟩ := wr S 0 15 (iI ((60 * t : Nat) : Int))
  rw [e1, zl_e]
  obtain ⟨T2, e2, a2, b2, c2, d2⟩ := wr T1 0 16 (0 : Int32)
  rw [e2, zi_I (by omega) (by omega) (by omega), zc_true, zl_e, iI_cln (by omega), c2 7 (by omega), c1 7 (by omega), hr.1, zl_e]
  obtain ⟨T3, e3, a3, b3, c3, d3⟩ := wr T2 0 17 (iI n)
  rw [e3, zl_e]
  obtain ⟨T4, e4, a4, b4, c4, d4⟩ := wr T3 0 20 (0 : Int32)
  rw [e4, zl_e]
  obtain ⟨T5, e5, a5, b5, c5, d5⟩ := wr T4 0 22 (0 : Int32)
  rw [e5]
  have fr : zFrM S T5 := ⟨fun k hk => by rw [b5 k (by omega), b4 k (by omega), b3 k (by omega), b2 k (by omega), b1 k (by omega)], fun c h0 _ _ => by rw [c5 c h0, c4 c h0, c3 c h0, c2 c h0, c1 c h0], by rw [d5, d4, d3, d2, d1]⟩
  have hd : dM T5 n t 0 false pO0 := ⟨by rw [b5 15 (by omega), b4 15 (by omega), b3 15 (by omega), b2 15 (by omega), a1], by rw [b5 16 (by omega), b4 16 (by omega), b3 16 (by omega), a2]; rfl, by rw [b5 17 (by omega), b4 17 (by omega), a3], fun q => (by cases q), by rw [b5 20 (by omega), a4]; rfl, a5, fun l hl => absurd hl (Nat.not_lt_zero l), fun l hl => absurd hl (Nat.not_lt_zero l)⟩
  have hx : tXM T5 t n (gX g t).2 := ⟨by omega, ht, fun k hk => by rw [fr.2.1 8 (by omega) (by omega) (by omega)]; exact hr.2 k (by omega)⟩
  obtain ⟨i2, T6, s1, s2, s3, s4, s5, s6, s7⟩ := skip_M hd hx (by omega)
  have hx6 := tXM_f hx s3
  rw [f_X9_readsHead, X9_readsHead_b0, s1, zb_some, zl_e, s2.2.1, zl_e, s2.2.2.1, s7]
  have qe : iI (i2 : Int) = iI (n : Int) ↔ i2 = n := eqn (by omega) (by omega)
  obtain ⟨f0, hf0⟩ : ∃ f0, zF = f0 + 1 := ⟨zF - 1, by have := zF_gt (n := 1) (by omega); omega⟩
  by_cases hin : i2 = n
  · rw [if_pos (qe.mpr hin), pG_end (by omega)]
    simp only [X9_readsHead_b24, zbo_0, zc_true, zb_some, zero_0, if_true, hf0, X9_faultOf_l46, X9_faultOf_b46, X9_faultOf_b93, X9_faultOf_b109, X9_faultOf_b113, zl_e, s2.2.1]
    rw [hin]
    exact ⟨T6, rfl, zFrM_t fr s3, fun o2 h2 => by cases h2⟩
  · rw [if_neg (fun q => hin (qe.mp q)), here_M s2 hx6 (by omega), zb_some, pG_item (by omega) (s6 (by omega))]
    have hst := head_M s2 hx6 (by omega) _ rfl
    rw [show pItm (gX g t).2 n i2 false pO0 = pHead (gX g t).2 n i2 pO0 from rfl]
    cases hp : pHead (gX g t).2 n i2 pO0 with
    | inl e =>
      rw [hp] at hst
      obtain ⟨T7, g1, g2, g3⟩ := hst
      rw [g1]
      simp only [zb_some, zero_0, if_true, hf0, X9_faultOf_l46, X9_faultOf_b46, X9_faultOf_b93, X9_faultOf_b109, X9_faultOf_b113, zl_e, g2]
      exact ⟨T7, rfl, zFrM_t fr (zFrM_t s3 g3), fun o2 h2 => by cases h2⟩
    | inr o2 =>
      have hok := pItm_ok (f := (gX g t).2) (n := n) (i := i2) (op := false) pO0_ok hp
      rw [hp] at hst
      obtain ⟨T7, g1, g2, g3⟩ := hst
      have hx7 := tXM_f hx6 g3
      rw [g1]
      obtain ⟨i3, T8, u1, u2, u3, u4, u5, u6, u7⟩ := skip_M g2 hx7 (by omega)
      simp only [zb_some, one_0, if_false, u1]
      rw [u7]
      obtain ⟨T9, v1, v2, v3⟩ := faultOf_loopM (n + 1) i3 o2 T8 zF (by omega) (zF_gt (by omega)) u5 u6 hok.1 u2 (tXM_f hx7 u3)
      refine ⟨T9, v1, zFrM_t fr (zFrM_t s3 (zFrM_t g3 (zFrM_t u3 v2))), fun o3 h3 => ?_⟩
      obtain ⟨⟨i4, w1⟩, w2, w3⟩ := v3 o3 h3
      exact ⟨⟨n, i4, w1⟩, w2, w3⟩
theorem zFrM_R {S T : zMem} {g : pSig} (h : zFrM S T) (hg : pWf g) (hR : RM S g) : RM T g := hR.cg hg (fun k hk => h.1 k hk) (fun c h1 h2 => h.2.1 c (by omega) (by omega) (by omega)) h.2.2 (fun q _ => by rw [h.2.1 1 (by omega) (by omega) (by omega)])
theorem fault_M (x : Int32) : okM (f_X9_fault x) (qFault x) := by
  intro S g hg h
  unfold qFault
  cases hj : pIn x 4 with
  | none =>
    simp only [f_X9_fault, X9_fault_b0, misText_f hj, zb_some, zero_0, if_true]
    exact ⟨S, rfl, h⟩
  | some t =>
    obtain ⟨rfl, ht⟩ := pIn_some hj
    have hb := hg.2.1 t ht
    have hr := h.2.2.1 t ht
    have q0 : (0 : Int32) ≤ iI (gX g t).1 ↔ 0 ≤ (gX g t).1 := iI_le (a := 0) (by omega) (by omega) (by omega) (by omega)
    simp (disch := omega) only [f_X9_fault, X9_fault_b0, X9_fault_b31, misText_t ht, zb_some, one_0, if_false, zi_I, zc_true, zl_e, iI_cln, hr.1, q0]
    by_cases hs : (gX g t).1 < 0
    · rw [if_pos hs, if_neg (by omega)]
      exact ref_Me 1 (by omega) h rfl
    · rw [if_neg hs, if_pos (by omega)]
      obtain ⟨S1, e1, e2, e3⟩ := faultOf_M hg h ht hs
      rw [e1]
      exact ⟨S1, rfl, zFrM_R e2 hg h⟩
theorem post_D {o : pRoad} {B : zMem} (hN2 : B.1 0 2 = iI (rN o)) {Q : zMem → Prop} (hQ : ∀ T : zMem, (∀ c, c ≠ 1 → T.1 c = B.1 c) → T.2 = B.2 → (∀ q, q < 698 → T.1 1 q = B.1 1 q) → (∀ k, k < 3 → T.1 1 (698 * (1 + k)) = -1) → Q T) : ∃ S1, X9_post_l190 zF (1 : Int32) B = some (iI (rN o), S1) ∧ Q S1 := by
  refine zforI (F := fun f i T => X9_post_l190 f (iI ((1 + i : Nat) : Int)) T) (n := 3) (P := fun i T => (∀ c, c ≠ 1 → T.1 c = B.1 c) ∧ T.2 = B.2 ∧ (∀ q, q < 698 → T.1 1 q = B.1 1 q) ∧ ∀ k, k < i → T.1 1 (698 * (1 + k)) = -1) (Q := fun r => ∃ S1, r = some (iI (rN o), S1) ∧ Q S1) (fun f i T hi hT => ?_) (fun f T hT => ?_) (zF_gt (by omega)) (a := B) ⟨fun _ _ => rfl, rfl, fun _ _ => rfl, fun k hk => by omega⟩
  · left
    obtain ⟨t1, t2, t3, t4⟩ := hT
    simp (disch := omega) only [X9_post_l190, X9_post_b190, show ((4 : Int32) = iI 4) from rfl, iI_le, show ((0 : Int32) = iI 0) from rfl, lit_698, iI_mul, iI_add, zi_I, zc_true, zl_e, iI_cl]
    rw [if_neg (by omega), show ((698 : Int) * ((1 + i : Nat) : Int) + 0).toNat = 698 * (1 + i) by omega]
    obtain ⟨T1, w1, w2, w3, w4, w5⟩ := wr T 1 (698 * (1 + i)) (-1 : Int32)
    rw [w1, lit_1, iI_add]
    refine ⟨T1, ⟨fun c hc => by rw [w4 c hc, t1 c hc], by rw [w5, t2], fun q hq => by rw [w3 q (by omega), t3 q hq], fun k hk => ?_⟩, rfl⟩
    by_cases hki : k = i
    · subst hki
      exact w2
    · rw [w3 _ (by omega)]
      exact t4 k (by omega)
  · obtain ⟨t1, t2, t3, t4⟩ := hT
    simp (disch := omega) only [X9_post_l190, X9_post_b190, show ((4 : Int32) = iI 4) from rfl, iI_le, zl_e]
    rw [if_pos (by omega), t1 0 (by omega), hN2]
    exact ⟨T, rfl, hQ T t1 t2 t3 t4⟩
theorem post_Cc {o : pRoad} {B : zMem} (ho : pRok o) (hN2 : B.1 0 2 = iI (rN o)) (h11 : ∀ l, l < rN o → B.1 11 (3 * l) = iI (rK o l) ∧ B.1 11 (3 * l + 1) = iI (rD o l) ∧ B.1 11 (3 * l + 2) = iI (rW o l)) {Q : zMem → Prop} (hQ : ∀ T : zMem, (∀ c, c ≠ 1 → c ≠ 2 → c ≠ 3 → c ≠ 4 → T.1 c = B.1 c) → T.2 = B.2 → (∀ q, q < 698 → T.1 1 q = B.1 1 q) → (∀ k, k < 3 → T.1 1 (698 * (1 + k)) = -1) → (∀ l, l < rN o → T.1 2 l = iI (rK o l) ∧ T.1 3 l = iI (rD o l) ∧ T.1 4 l = iI (rW o l)) → Q T) : ∃ S1, X9_post_l128 zF (0 : Int32) B = some (iI (rN o), S1) ∧ Q S1 := by
  have hN := ho.2.1
  refine zforI (F := fun f i T => X9_post_l128 f (iI (i : Nat)) T) (n := rN o) (P := fun i T => (∀ c, c ≠ 2 → c ≠ 3 → c ≠ 4 → T.1 c = B.1 c) ∧ T.2 = B.2 ∧ ∀ l, l < i → T.1 2 l = iI (rK o l) ∧ T.1 3 l = iI (rD o l) ∧ T.1 4 l = iI (rW o l)) (Q := fun r => ∃ S1, r = some (iI (rN o), S1) ∧ Q S1) (fun f i T hi hT => ?_) (fun f T hT => ?_) (zF_gt (by omega)) (a := B) ⟨fun _ _ _ _ => rfl, rfl, fun k hk => by omega⟩
  · left
    obtain ⟨t1, t2, t3⟩ := hT
    have h3 : (3 : Int32) * iI (i : Int) = iI ((3 * i : Nat) : Int) := by
      rw [lit_3, iI_mul]
      rfl
    simp (disch := omega) only [X9_post_l128, X9_post_b128, zl_e, t1 0 (by omega) (by omega) (by omega), hN2, iI_le, h3]
    rw [if_neg (by omega), show iI ((3 * i : Nat) : Int) + (1 : Int32) = iI ((3 * i + 1 : Nat) : Int) from i1n _ 1, show iI ((3 * i : Nat) : Int) + (2 : Int32) = iI ((3 * i + 2 : Nat) : Int) from i1n _ 2]
    simp (disch := omega) only [zi_I, zc_true, iI_cln]
    have hb := h11 i hi
    rw [t1 11 (by omega) (by omega) (by omega), hb.1]
    obtain ⟨T1, w1, w2, w3, w4, w5⟩ := wr T 2 i (iI (rK o i))
    rw [w1, w4 11 (by omega), t1 11 (by omega) (by omega) (by omega), hb.2.1]
    obtain ⟨T2, x1, x2, x3, x4, x5⟩ := wr T1 3 i (iI (rD o i))
    rw [x1, x4 11 (by omega), w4 11 (by omega), t1 11 (by omega) (by omega) (by omega), hb.2.2]
    obtain ⟨T3, y1, y2, y3, y4, y5⟩ := wr T2 4 i (iI (rW o i))
    rw [y1, lit_1, iI_add]
    refine ⟨T3, ⟨fun c h2 h3 h4 => by rw [y4 c h4, x4 c h3, w4 c h2, t1 c h2 h3 h4], by rw [y5, x5, w5, t2], fun l hl => ?_⟩, rfl⟩
    rw [y4 2 (by omega), x4 2 (by omega), y4 3 (by omega)]
    by_cases hli : l = i
    · subst hli
      exact ⟨w2, x2, y2⟩
    · rw [w3 l hli, x3 l hli, y3 l hli, w4 3 (by omega), x4 4 (by omega), w4 4 (by omega)]
      exact t3 l (by omega)
  · obtain ⟨t1, t2, t3⟩ := hT
    simp (disch := omega) only [X9_post_l128, X9_post_b128, zl_e, t1 0 (by omega) (by omega) (by omega), hN2, iI_le]
    rw [if_pos (by omega)]
    exact post_D (B := T) (by rw [t1 0 (by omega) (by omega) (by omega)]; exact hN2) (fun U u1 u2 u3 u4 => hQ U (fun c h1 h2 h3 h4 => by rw [u1 c h1, t1 c h2 h3 h4]) (by rw [u2, t2]) (fun q hq => by rw [u3 q hq, t1 1 (by omega) (by omega) (by omega)]) u4 (fun l hl => by rw [u1 2 (by omega), u1 3 (by omega), u1 4 (by omega)]; exact t3 l hl))
theorem post_B {o : pRoad} {B : zMem} (ho : pRok o) (hH1 : B.1 0 1 = iI (rH o)) (hN2 : B.1 0 2 = iI (rN o)) (h10 : ∀ h, h < rH o → B.1 10 h = iI (rB o h)) (h11 : ∀ l, l < rN o → B.1 11 (3 * l) = iI (rK o l) ∧ B.1 11 (3 * l + 1) = iI (rD o l) ∧ B.1 11 (3 * l + 2) = iI (rW o l)) {Q : zMem → Prop} (hQ : ∀ T : zMem, (∀ c, c ≠ 1 → c ≠ 2 → c ≠ 3 → c ≠ 4 → T.1 c = B.1 c) → T.2 = B.2 → (∀ q, q < 6 → T.1 1 q = B.1 1 q) → (∀ h, h < rH o → T.1 1 (6 + h) = iI (rB o h)) → (∀ k, k < 3 → T.1 1 (698 * (1 + k)) = -1) → (∀ l, l < rN o → T.1 2 l = iI (rK o l) ∧ T.1 3 l = iI (rD o l) ∧ T.1 4 l = iI (rW o l)) → Q T) : ∃ S1, X9_post_l97 zF (0 : Int32) B = some (iI (rN o), S1) ∧ Q S1 := by
  have hH := ho.1
  refine zforI (F := fun f i T => X9_post_l97 f (iI (i : Nat)) T) (n := rH o) (P := fun i T => (∀ c, c ≠ 1 → T.1 c = B.1 c) ∧ T.2 = B.2 ∧ (∀ q, q < 6 → T.1 1 q = B.1 1 q) ∧ ∀ h, h < i → T.1 1 (6 + h) = iI (rB o h)) (Q := fun r => ∃ S1, r = some (iI (rN o), S1) ∧ Q S1) (fun f i T hi hT => ?_) (fun f T hT => ?_) (zF_gt (by omega)) (a := B) ⟨fun _ _ => rfl, rfl, fun _ _ => rfl, fun k hk => by omega⟩
  · left
    obtain ⟨t1, t2, t3, t4⟩ := hT
    simp (disch := omega) only [X9_post_l97, X9_post_b97, zl_e, t1 0 (by omega), hH1, iI_le]
    rw [if_neg (by omega), show (6 : Int32) + iI (i : Int) = iI ((6 + i : Nat) : Int) from i1n 6 i]
    simp (disch := omega) only [zi_I, zc_true, iI_cln]
    rw [t1 10 (by omega), h10 i hi]
    obtain ⟨T1, w1, w2, w3, w4, w5⟩ := wr T 1 (6 + i) (iI (rB o i))
    rw [w1, lit_1, iI_add]
    refine ⟨T1, ⟨fun c hc => by rw [w4 c hc, t1 c hc], by rw [w5, t2], fun q hq => by rw [w3 q (by omega), t3 q hq], fun k hk => ?_⟩, rfl⟩
    by_cases hki : k = i
    · subst hki
      exact w2
    · rw [w3 _ (by omega)]
      exact t4 k (by omega)
  · obtain ⟨t1, t2, t3, t4⟩ := hT
    simp (disch := omega) only [X9_post_l97, X9_post_b97, zl_e, t1 0 (by omega), hH1, iI_le]
    rw [if_pos (by omega)]
    exact post_Cc (B := T) ho (by rw [t1 0 (by omega)]; exact hN2) (fun l hl => by rw [t1 11 (by omega)]; exact h11 l hl) (fun U u1 u2 u3 u4 u5 => hQ U (fun c h1 h2 h3 h4 => by rw [u1 c h1 h2 h3 h4, t1 c h1]) (by rw [u2, t2]) (fun q hq => by rw [u3 q (by omega), t3 q hq]) (fun h hh => by rw [u3 (6 + h) (by omega)]; exact t4 h hh) u4 u5)
theorem post_M (x : Int32) : okM (f_X9_post x) (qPost x) := by
  intro S g hg h
  unfold qPost
  cases hj : pIn x 4 with
  | none =>
    simp only [f_X9_post, X9_post_b0, misText_f hj, zb_some, zero_0, if_true]
    exact ⟨S, rfl, h⟩
  | some t =>
    obtain ⟨rfl, ht⟩ := pIn_some hj
    have hb := hg.2.1 t ht
    have hr := h.2.2.1 t ht
    have q0 : (0 : Int32) ≤ iI (gX g t).1 ↔ 0 ≤ (gX g t).1 := iI_le (a := 0) (by omega) (by omega) (by omega) (by omega)
    simp (disch := omega) only [f_X9_post, X9_post_b0, misText_t ht, zb_some, one_0, if_false, zi_I, zc_true, zl_e, iI_cln, hr.1, q0]
    by_cases hs : (gX g t).1 < 0
    · rw [if_pos hs, if_neg (by omega)]
      exact ref_Me 1 (by omega) h rfl
    · rw [if_neg hs, if_pos (by omega)]
      obtain ⟨S1, e1, e2, e3⟩ := faultOf_M hg h ht hs
      cases hp : pRead (gX g t) with
      | inl e =>
        have he := pGo_le _ _ _ _ _ hp
        rw [hp] at e1
        have e1' : f_X9_faultOf (iI t) S = some (iI (e : Int), S1) := e1
        rw [e1']
        simp only [zb_some, fig_m9 (show e ≤ 100 by omega), if_false]
        exact ⟨S1, rfl, zFrM_R e2 hg h⟩
      | inr o =>
        obtain ⟨⟨n, i2, hd⟩, ho, h0⟩ := e3 o hp
        rw [hp] at e1
        have e1' : f_X9_faultOf (iI t) S = some ((-9 : Int32), S1) := e1
        rw [e1']
        simp only [zb_some, mm_99, if_true]
        obtain ⟨d1, d2, d3, d4, d5, d6, d7, d8⟩ := hd
        have R1 := zFrM_R e2 hg h
        obtain ⟨r1, r2, r3, r4, r5, r6⟩ := R1
        refine zforI (F := fun f i T => X9_post_l39 f (iI (i : Nat)) T) (n := 698) (P := fun i T => (∀ c, c ≠ 1 → T.1 c = S1.1 c) ∧ T.2 = S1.2 ∧ ∀ q, q < i → T.1 1 q = 0) (Q := fun r => ∃ S2, r = some (iI (rN o), S2) ∧ RM S2 (gP_ g o)) (fun f i T hi hT => ?_) (fun f T hT => ?_) (zF_gt (by omega)) (a := S1) ⟨fun _ _ => rfl, rfl, fun k hk => by omega⟩
        · left
          obtain ⟨t1, t2, t3⟩ := hT
          simp (disch := omega) only [X9_post_l39, X9_post_b39, lit_698, iI_le]
          rw [if_neg (by omega)]
          simp (disch := omega) only [zi_I, zc_true, zl_e, iI_cln]
          obtain ⟨T1, w1, w2, w3, w4, w5⟩ := wr T 1 i (0 : Int32)
          rw [w1, lit_1, iI_add]
          refine ⟨T1, ⟨fun c hc => by rw [w4 c hc, t1 c hc], by rw [w5, t2], fun q hq => ?_⟩, rfl⟩
          by_cases hqi : q = i
          · subst hqi
            exact w2
          · rw [w3 q hqi]
            exact t3 q (by omega)
        · obtain ⟨t1, t2, t3⟩ := hT
          simp (disch := omega) only [X9_post_l39, X9_post_b39, lit_698, iI_le]
          rw [if_pos (by omega), zl_e, t1 0 (by omega), (d4 rfl).1, z2, zc_true, n2, zl_e]
          obtain ⟨T1, w1, w2, w3, w4, w5⟩ := wr T 1 2 (iI (rM o))
          rw [w1, zl_e, w4 0 (by omega), t1 0 (by omega), (d4 rfl).2, z3, zc_true, n3, zl_e]
          obtain ⟨T2, x1, x2, x3, x4, x5⟩ := wr T1 1 3 (iI (rE o))
          rw [x1, zl_e, x4 0 (by omega), w4 0 (by omega), t1 0 (by omega), d5, zl_e]
          obtain ⟨T3, y1, y2, y3, y4, y5⟩ := wr T2 0 1 (iI (rH o))
          rw [x4 0 (by omega), w4 0 (by omega), t1 0 (by omega)] at y1
          rw [y1, zl_e, y3 22 (by omega), x4 0 (by omega), w4 0 (by omega), t1 0 (by omega), d6, zl_e]
          obtain ⟨T4, v1, v2, v3, v4, v5⟩ := wr T3 0 2 (iI (rN o))
          rw [v1]
          have hc4 : ∀ c, c ≠ 0 → c ≠ 1 → T4.1 c = S1.1 c := fun c h0 h1 => by rw [v4 c h0, y4 c h0, x4 c h1, w4 c h1, t1 c h1]
          have h04 : ∀ k, k ≠ 1 → k ≠ 2 → T4.1 0 k = S1.1 0 k := fun k h1 h2 => by rw [v3 k h2, y3 k h1, x4 0 (by omega), w4 0 (by omega), t1 0 (by omega)]
          have hrow : ∀ q, q < 698 → q ≠ 2 → q ≠ 3 → T4.1 1 q = 0 := fun q hq h2 h3 => by rw [v4 1 (by omega), y4 1 (by omega), x3 q h3, w3 q h2, t3 q hq]
          have hrow2 : T4.1 1 2 = iI (rM o) := by rw [v4 1 (by omega), y4 1 (by omega), x3 2 (by omega), w2]
          have hrow3 : T4.1 1 3 = iI (rE o) := by rw [v4 1 (by omega), y4 1 (by omega), x2]
          refine post_B (B := T4) ho (by rw [v3 1 (by omega)]; exact y2) v2 (fun k hk => by rw [hc4 10 (by omega) (by omega)]; exact d7 k hk) (fun l hl => by rw [hc4 11 (by omega) (by omega)]; exact d8 l hl) (fun U u1 u2 u3 u4 u5 u6 => ?_)
          have hU0 : U.1 0 = T4.1 0 := u1 0 (by omega) (by omega) (by omega) (by omega)
          have hUc : ∀ c, 5 ≤ c → U.1 c = S1.1 c := fun c hc => by rw [u1 c (by omega) (by omega) (by omega) (by omega), hc4 c (by omega) (by omega)]
          refine ⟨r1.cg (by rw [hU0, h04 10 (by omega) (by omega)]) (by rw [hU0, h04 13 (by omega) (by omega)]) (by rw [u2, v5, y5, x5, w5, t2]) (hUc 9 (by omega)), r2.cg (hUc 5 (by omega)) (hUc 6 (by omega)), r3.cg (hUc 7 (by omega)) (hUc 8 (by omega)), ⟨?_, ?_, fun l hl => u6 l hl⟩, ⟨?_, ⟨?_, ?_, ?_, ?_, ?_, fun k hk => ?_, fun q hq hb2 => ?_⟩, fun i hi => absurd hi (Nat.not_lt_zero i)⟩, fun k hk => u5 k hk⟩
          · rw [hU0, v3 1 (by omega)]
            exact y2
          · rw [hU0]
            exact v2
          · rw [u3 0 (by omega), hrow 0 (by omega) (by omega) (by omega)]
            rfl
          · rw [u3 (0 + 1) (by omega), hrow (0 + 1) (by omega) (by omega) (by omega)]
            rfl
          · rw [u3 (0 + 1 + 1) (by omega)]
            exact hrow2
          · rw [u3 (0 + 1 + 2) (by omega)]
            exact hrow3
          · rw [u3 (0 + 1 + 3) (by omega), hrow (0 + 1 + 3) (by omega) (by omega) (by omega)]
            rfl
          · rw [u3 (0 + 1 + 4) (by omega), hrow (0 + 1 + 4) (by omega) (by omega) (by omega)]
            rfl
          · have := u4 k hk
            rw [show 0 + 1 + 5 + k = 6 + k by omega]
            exact this
          · have hb0 : (0 : Nat).testBit q = true := hb2
            rw [Nat.zero_testBit] at hb0
            exact absurd hb0 (by decide)
