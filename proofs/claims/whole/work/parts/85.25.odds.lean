/-! chances -/
def pLift (s : pSt) (b : Nat) : pSt := (min 9 (sM s + b), s.2)
def pBt (x j : Nat) : Nat := if x.testBit j then 1 else 0
def pLs (o : pRoad) (lf : Nat → Nat) (s : pSt) (x : Nat) : Nat → pSt
  | 0 => s
  | i + 1 => pDel o (pLift (pLs o lf s x i) (pBt x i)) (lf i)
def pLsum (o : pRoad) (lf : Nat → Nat) (s : pSt) (x : Nat) : Nat → Nat
  | 0 => 0
  | i + 1 => pLsum o lf s x i + pEnd o (pLift (pLs o lf s x i) (pBt x i)) (lf i)
def pWay (p x : Nat) : Nat → Nat
  | 0 => 1
  | i + 1 => pWay p x i * (if x.testBit i then p else 12 - p)
def pRec (o : pRoad) (lf : Nat → Nat) (p : Nat) (G : Nat → Nat → Nat) : Nat → Nat → pSt → Nat → Nat → Nat
  | 0, _, _, sum, w => G sum w
  | m + 1, i, s, sum, w => pRec o lf p G m (i + 1) (pDel o (pLift s 0) (lf i)) (sum + pEnd o (pLift s 0) (lf i)) (w * (12 - p)) + pRec o lf p G m (i + 1) (pDel o (pLift s 1) (lf i)) (sum + pEnd o (pLift s 1) (lf i)) (w * p)
def pG (mn : Bool) (v sum w : Nat) : Nat := if mn then w * sum else if v ≤ sum then w else 0
theorem pBt_cg {x y i : Nat} (h : x.testBit i = y.testBit i) : pBt x i = pBt y i := by
  unfold pBt
  rw [h]
theorem pLs_cg {o : pRoad} {lf : Nat → Nat} {s : pSt} {x y p : Nat} : ∀ i, (∀ j, j < i → x.testBit j = y.testBit j) → pLs o lf s x i = pLs o lf s y i ∧ pLsum o lf s x i = pLsum o lf s y i ∧ pWay p x i = pWay p y i := by
  intro i
  induction i with
  | zero => exact fun _ => ⟨rfl, rfl, rfl⟩
  | succ i ih =>
    intro h
    obtain ⟨h1, h2, h3⟩ := ih (fun j hj => h j (by omega))
    have hb := h i (by omega)
    refine ⟨?_, ?_, ?_⟩
    · show pDel o (pLift (pLs o lf s x i) (pBt x i)) (lf i) = pDel o (pLift (pLs o lf s y i) (pBt y i)) (lf i)
      rw [h1, pBt_cg hb]
    · show pLsum o lf s x i + pEnd o (pLift (pLs o lf s x i) (pBt x i)) (lf i) = pLsum o lf s y i + pEnd o (pLift (pLs o lf s y i) (pBt y i)) (lf i)
      rw [h1, h2, pBt_cg hb]
    · show pWay p x i * (if x.testBit i then p else 12 - p) = pWay p y i * (if y.testBit i then p else 12 - p)
      rw [h3, hb]
theorem pSum_2 (f : Nat → Nat) : ∀ n, pSum f (2 * n) = pSum (fun y => f (2 * y) + f (2 * y + 1)) n := by
  intro n
  induction n with
  | zero => rfl
  | succ n ih =>
    show pSum f (2 * n + 1 + 1) = pSum (fun y => f (2 * y) + f (2 * y + 1)) n + (f (2 * n) + f (2 * n + 1))
    rw [← ih]
    show pSum f (2 * n) + f (2 * n) + f (2 * n + 1) = _
    omega
theorem pSum_add (f f2 : Nat → Nat) : ∀ n, pSum (fun y => f y + f2 y) n = pSum f n + pSum f2 n := by
  intro n
  induction n with
  | zero => rfl
  | succ n ih =>
    show pSum (fun y => f y + f2 y) n + (f n + f2 n) = pSum f n + f n + (pSum f2 n + f2 n)
    rw [ih]
    omega
theorem pRec_eq {o : pRoad} {lf : Nat → Nat} {p : Nat} {G : Nat → Nat → Nat} {s : pSt} : ∀ m i x0, x0 < 2 ^ i → pRec o lf p G m i (pLs o lf s x0 i) (pLsum o lf s x0 i) (pWay p x0 i) = pSum (fun y => G (pLsum o lf s (2 ^ i * y + x0) (i + m)) (pWay p (2 ^ i * y + x0) (i + m))) (2 ^ m) := by
  intro m
  induction m with
  | zero =>
    intro i x0 hx
    show G (pLsum o lf s x0 i) (pWay p x0 i) = 0 + G (pLsum o lf s (2 ^ i * 0 + x0) (i + 0)) (pWay p (2 ^ i * 0 + x0) (i + 0))
    rw [Nat.mul_zero, Nat.zero_add, Nat.zero_add, Nat.add_zero]
  | succ m ih =>
    intro i x0 hx
    have hp : 2 ^ (i + 1) = 2 * 2 ^ i := by rw [Nat.pow_succ, Nat.mul_comm]
    have hb0 : x0.testBit i = false := Nat.testBit_lt_two_pow hx
    have hb1 : (2 ^ i + x0).testBit i = true := by rw [Nat.testBit_two_pow_add_eq, hb0]; rfl
    have hlow : ∀ j, j < i → x0.testBit j = (2 ^ i + x0).testBit j := fun j hj => (Nat.testBit_two_pow_add_gt hj x0).symm
    obtain ⟨c1, c2, c3⟩ := pLs_cg (o := o) (lf := lf) (s := s) (p := p) i hlow
    have e0 := ih (i + 1) x0 (by omega)
    have e1 := ih (i + 1) (2 ^ i + x0) (by omega)
    have n0 : pLs o lf s x0 (i + 1) = pDel o (pLift (pLs o lf s x0 i) 0) (lf i) := by
      show pDel o (pLift (pLs o lf s x0 i) (pBt x0 i)) (lf i) = _
      unfold pBt
      rw [hb0]
      rfl
    have n1 : pLs o lf s (2 ^ i + x0) (i + 1) = pDel o (pLift (pLs o lf s x0 i) 1) (lf i) := by
      show pDel o (pLift (pLs o lf s (2 ^ i + x0) i) (pBt (2 ^ i + x0) i)) (lf i) = _
      unfold pBt
      rw [hb1, ← c1]
      rfl
    have s0 : pLsum o lf s x0 (i + 1) = pLsum o lf s x0 i + pEnd o (pLift (pLs o lf s x0 i) 0) (lf i) := by
      show pLsum o lf s x0 i + pEnd o (pLift (pLs o lf s x0 i) (pBt x0 i)) (lf i) = _
      unfold pBt
      rw [hb0]
      rfl
    have s1 : pLsum o lf s (2 ^ i + x0) (i + 1) = pLsum o lf s x0 i + pEnd o (pLift (pLs o lf s x0 i) 1) (lf i) := by
      show pLsum o lf s (2 ^ i + x0) i + pEnd o (pLift (pLs o lf s (2 ^ i + x0) i) (pBt (2 ^ i + x0) i)) (lf i) = _
      unfold pBt
      rw [hb1, ← c1, ← c2]
      rfl
    have w0 : pWay p x0 (i + 1) = pWay p x0 i * (12 - p) := by
      show pWay p x0 i * (if x0.testBit i then p else 12 - p) = _
      rw [hb0]
      rfl
    have w1 : pWay p (2 ^ i + x0) (i + 1) = pWay p x0 i * p := by
      show pWay p (2 ^ i + x0) i * (if (2 ^ i + x0).testBit i then p else 12 - p) = _
      rw [hb1, ← c3]
      rfl
    rw [n0, s0, w0] at e0
    rw [n1, s1, w1] at e1
    show pRec o lf p G m (i + 1) (pDel o (pLift (pLs o lf s x0 i) 0) (lf i)) (pLsum o lf s x0 i + pEnd o (pLift (pLs o lf s x0 i) 0) (lf i)) (pWay p x0 i * (12 - p)) + pRec o lf p G m (i + 1) (pDel o (pLift (pLs o lf s x0 i) 1) (lf i)) (pLsum o lf s x0 i + pEnd o (pLift (pLs o lf s x0 i) 1) (lf i)) (pWay p x0 i * p) = _
    rw [e0, e1, show 2 ^ (m + 1) = 2 * 2 ^ m by rw [Nat.pow_succ, Nat.mul_comm], pSum_2, ← pSum_add]
    refine pSum_cg (fun y _ => ?_)
    have q0 : 2 ^ (i + 1) * y = 2 ^ i * (2 * y) := by rw [Nat.pow_succ, Nat.mul_assoc]
    have q1 : 2 ^ (i + 1) * y + (2 ^ i + x0) = 2 ^ i * (2 * y + 1) + x0 := by rw [q0, Nat.mul_add, Nat.mul_one]; omega
    rw [q1, q0, show i + 1 + m = i + (m + 1) by omega]
theorem pRec_0 {o : pRoad} {lf : Nat → Nat} {p : Nat} {G : Nat → Nat → Nat} {s : pSt} (n : Nat) : pRec o lf p G n 0 s 0 1 = pSum (fun y => G (pLsum o lf s y n) (pWay p y n)) (2 ^ n) := by
  have h := pRec_eq (o := o) (lf := lf) (p := p) (G := G) (s := s) n 0 0 (Nat.one_pos)
  rw [show pLs o lf s 0 0 = s from rfl, show pLsum o lf s 0 0 = 0 from rfl, show pWay p 0 0 = 1 from rfl] at h
  rw [h]
  refine pSum_cg (fun y _ => ?_)
  rw [Nat.pow_zero, Nat.one_mul, Nat.add_zero, Nat.zero_add]
theorem pRec_all {o : pRoad} {lf : Nat → Nat} {p : Nat} (hp : p ≤ 12) : ∀ m i s sum w, pRec o lf p (fun _ w => w) m i s sum w = w * 12 ^ m := by
  intro m
  induction m with
  | zero =>
    intro i s sum w
    show w = w * 1
    omega
  | succ m ih =>
    intro i s sum w
    show pRec o lf p (fun _ w => w) m (i + 1) _ _ (w * (12 - p)) + pRec o lf p (fun _ w => w) m (i + 1) _ _ (w * p) = _
    rw [ih, ih, ← Nat.add_mul, ← Nat.mul_add, show 12 - p + p = 12 by omega, Nat.pow_succ, Nat.mul_assoc, Nat.mul_comm 12]
theorem pLift_ok {o : pRoad} {s : pSt} {b : Nat} (h : pSok o s) : pSok o (pLift s b) := bribed_ok h
theorem pRec_le {o : pRoad} {lf : Nat → Nat} {p n : Nat} {mn : Bool} {v : Nat} (ho : pRok o) (hlf : ∀ i, i < n → lf i < rN o) (hp : p ≤ 12) : ∀ m i s sum w, i + m = n → pSok o s → pRec o lf p (pG mn v) m i s sum w ≤ (sum + 9 * m + 1) * (w * 12 ^ m) := by
  intro m
  induction m with
  | zero =>
    intro i s sum w _ _
    show pG mn v sum w ≤ (sum + 9 * 0 + 1) * (w * 12 ^ 0)
    rw [Nat.mul_zero, Nat.add_zero, Nat.pow_zero, Nat.mul_one, Nat.add_mul, Nat.one_mul]
    unfold pG
    repeat' split
    · rw [Nat.mul_comm w sum]
      omega
    · omega
    · omega
  | succ m ih =>
    intro i s sum w hi hs
    have a0 := pEnd_le ho (pLift_ok (b := 0) hs) (hlf i (by omega))
    have a1 := pEnd_le ho (pLift_ok (b := 1) hs) (hlf i (by omega))
    have h0 := ih (i + 1) (pDel o (pLift s 0) (lf i)) (sum + pEnd o (pLift s 0) (lf i)) (w * (12 - p)) (by omega) (pDel_ok ho (pLift_ok hs) (hlf i (by omega)))
    have h1 := ih (i + 1) (pDel o (pLift s 1) (lf i)) (sum + pEnd o (pLift s 1) (lf i)) (w * p) (by omega) (pDel_ok ho (pLift_ok hs) (hlf i (by omega)))
    show pRec o lf p (pG mn v) m (i + 1) _ _ (w * (12 - p)) + pRec o lf p (pG mn v) m (i + 1) _ _ (w * p) ≤ _
    have k0 : (sum + pEnd o (pLift s 0) (lf i) + 9 * m + 1) * (w * (12 - p) * 12 ^ m) ≤ (sum + 9 * (m + 1) + 1) * (w * (12 - p) * 12 ^ m) := Nat.mul_le_mul_right _ (by omega)
    have k1 : (sum + pEnd o (pLift s 1) (lf i) + 9 * m + 1) * (w * p * 12 ^ m) ≤ (sum + 9 * (m + 1) + 1) * (w * p * 12 ^ m) := Nat.mul_le_mul_right _ (by omega)
    have k2 : (sum + 9 * (m + 1) + 1) * (w * 12 ^ (m + 1)) = (sum + 9 * (m + 1) + 1) * (w * (12 - p) * 12 ^ m) + (sum + 9 * (m + 1) + 1) * (w * p * 12 ^ m) := by
      rw [← Nat.mul_add, ← Nat.add_mul, ← Nat.mul_add, show 12 - p + p = 12 by omega, Nat.pow_succ, Nat.mul_assoc, Nat.mul_comm 12]
    omega
/-! the class's weighing -/
theorem lift_104 {rec : Int32 → Int32 → Int32 → Int32 → Int64 → zMem → Option (Unit × zMem)} {k76 : Int32 → Int32 → Int32 → Int32 → Int64 → Int32 → Int32 → zMem → Option (Unit × zMem)} {T : zMem} {o : pRoad} {s : pSt} {i l b q sum w : Nat} (ho : pRok o) (hc : oC T o) (hk : pSok o s) (hl : l < rN o) (hb : b ≤ 1) (h3 : T.1 63 3 = iI (sE s)) (hq : q ≤ 12) : X2_weigh_b104 rec k76 (iI i) (iI (sM s)) (iI (sP s)) (iI sum) (iJ w) (iI l) (iI b) (iJ w) (iI q) T = zb (rec (iI ((i + 1 : Nat) : Int)) (iI (sM (pDel o (pLift s b) l))) (iI (sP (pDel o (pLift s b) l))) (iI ((sum + pEnd o (pLift s b) l : Nat) : Int)) (iJ ((w * q : Nat) : Int)) T) fun _ S => k76 (iI i) (iI (sM s)) (iI (sP s)) (iI sum) (iJ w) (iI l) (iI ((b + 1 : Nat) : Int)) S := by
  have hM := hk.1
  have hN := ho.2.1
  have hk2 := pLift_ok (b := b) hk
  have hm : pMood o (pLift s b) l ≤ 9 := pMood_le hk2
  have he : pEnd o (pLift s b) l ≤ 9 := pEnd_le ho hk2 hl
  simp only [X2_weigh_b104, zl_e, iI_add, h3]
  rw [X6_moodWithin_eq (by omega) (by omega), show max 0 (min 9 ((sM s : Int) + (b : Int))) = ((min 9 (sM s + b) : Nat) : Int) by omega]
  simp only [zb_some, h3]
  rw [moodAtDoor_eq ho hc hl (by omega) hk.2.2.1 hk.2.1, show pWalk (min 9 (sM s + b)) (pDist (sP s) (rD o l)) (sE s) = pMood o (pLift s b) l from rfl]
  simp only [zb_some]
  rw [warmth_eq ho hc hl hm, show pW (rK o l) (rW o l) (pMood o (pLift s b) l) = pEnd o (pLift s b) l from rfl]
  simp only [zb_some]
  rw [moodBehind_eq ho hc hl hm he]
  simp (disch := omega) only [zb_some, zi_I, zc_true, iI_cln, (hc.2.2.2.2.2 l hl).2.1, iI_j, iJ_mul, lit_1, iI_add]
  rfl
theorem weigh_C {o : pRoad} {lf : Nat → Nat} {p n v e : Nat} (ho : pRok o) (hlf : ∀ i, i < n → lf i < rN o) (hp : p ≤ 12) (hn : n ≤ 6) (hv : v ≤ 54) : ∀ (m i d : Nat) (s : pSt) (sum w : Nat) (T : zMem), i + m = n → m < d → pSok o s → sE s = e → sum ≤ 9 * i → oC T o → T.1 63 2 = iI n → T.1 63 3 = iI e → T.1 63 4 = iI v → T.1 63 5 = iI p → (∀ k, k < n → T.1 64 k = iI (lf k)) → ∃ T1, f_X2_weigh d (iI i) (iI (sM s)) (iI (sP s)) (iI sum) (iJ w) T = some ((), T1) ∧ T1.1 = T.1 ∧ (∀ c, c ≠ 63 → T1.2 c = T.2 c) ∧ T1.2 63 6 = T.2 63 6 + iJ (pRec o lf p (pG false v) m i s sum w) ∧ T1.2 63 7 = T.2 63 7 + iJ (pRec o lf p (pG true v) m i s sum w) ∧ T1.2 63 8 = T.2 63 8 + iJ (pRec o lf p (fun _ w => w) m i s sum w) := by
  intro m
  induction m with
  | zero =>
    intro i d s sum w T hi hd hk hse hsum hc h2 h3 h4 h5 h6
    obtain ⟨d, rfl⟩ : ∃ d1, d = d1 + 1 := ⟨d - 1, by omega⟩
    simp (disch := omega) only [f_X2_weigh, X2_weigh_b0, zl_e, h2, iI_le]
    rw [if_pos (by omega)]
    simp (disch := omega) only [X2_weigh_b14, X2_weigh_b34, zl_e, h4, iI_lt]
    have fin : ∀ a : Nat, ∃ T1 : zMem, zq (zq (zq T 63 (vp_updL (T.2 63) 6 (T.2 63 6 + iJ a))) 63 (vp_updL ((zq T 63 (vp_updL (T.2 63) 6 (T.2 63 6 + iJ a))).2 63) 7 ((zq T 63 (vp_updL (T.2 63) 6 (T.2 63 6 + iJ a))).2 63 7 + iJ w * (iI sum).toInt64))) 63 (vp_updL ((zq (zq T 63 (vp_updL (T.2 63) 6 (T.2 63 6 + iJ a))) 63 (vp_updL ((zq T 63 (vp_updL (T.2 63) 6 (T.2 63 6 + iJ a))).2 63) 7 ((zq T 63 (vp_updL (T.2 63) 6 (T.2 63 6 + iJ a))).2 63 7 + iJ w * (iI sum).toInt64))).2 63) 8 ((zq (zq T 63 (vp_updL (T.2 63) 6 (T.2 63 6 + iJ a))) 63 (vp_updL ((zq T 63 (vp_updL (T.2 63) 6 (T.2 63 6 + iJ a))).2 63) 7 ((zq T 63 (vp_updL (T.2 63) 6 (T.2 63 6 + iJ a))).2 63 7 + iJ w * (iI sum).toInt64))).2 63 8 + iJ w)) = T1 ∧ T1.1 = T.1 ∧ (∀ c, c ≠ 63 → T1.2 c = T.2 c) ∧ T1.2 63 6 = T.2 63 6 + iJ a ∧ T1.2 63 7 = T.2 63 7 + iJ ((w * sum : Nat) : Int) ∧ T1.2 63 8 = T.2 63 8 + iJ w := by
      intro a
      refine ⟨_, rfl, rfl, fun c hc => ?_, ?_, ?_, ?_⟩
      · rw [zq_ne hc, zq_ne hc, zq_ne hc]
      · simp [zq_eq, updL_at]
      · rw [iI_j (by omega) (by omega), iJ_mul]
        simp [zq_eq, updL_at]
      · simp [zq_eq, updL_at]
    by_cases hvs : v ≤ sum
    · rw [if_neg (by omega)]
      obtain ⟨T1, f1, f2, f3, f4, f5, f6⟩ := fin w
      rw [f1]
      refine ⟨T1, rfl, f2, f3, ?_, f5, f6⟩
      rw [f4, show pRec o lf p (pG false v) 0 i s sum w = w by show pG false v sum w = w; unfold pG; simp [hvs]]
    · rw [if_pos (by omega)]
      obtain ⟨T1, f1, f2, f3, f4, f5, f6⟩ := fin 0
      have f1' := f1
      rw [show iJ ((0 : Nat) : Int) = (0 : Int64) from rfl] at f1'
      rw [f1']
      refine ⟨T1, rfl, f2, f3, ?_, f5, f6⟩
      rw [f4, show pRec o lf p (pG false v) 0 i s sum w = 0 by show pG false v sum w = 0; unfold pG; simp [hvs]]
  | succ m ih =>
    intro i d s sum w T hi hd hk hse hsum hc h2 h3 h4 h5 h6
    obtain ⟨d, rfl⟩ : ∃ d1, d = d1 + 1 := ⟨d - 1, by omega⟩
    have hl := hlf i (by omega)
    obtain ⟨f, hf⟩ : ∃ f, zF = f + 3 := ⟨zF - 3, by have := zF_gt (n := 3) (by omega); omega⟩
    simp (disch := omega) only [f_X2_weigh, X2_weigh_b0, zl_e, h2, iI_le, show ((6 : Int32) = iI 6) from rfl, iI_lt]
    rw [if_neg (by omega), if_pos (by omega)]
    simp (disch := omega) only [zi_I, zc_true, iI_cln, h6 i (by omega), hf]
    have h3' : T.1 63 3 = iI (sE s) := by rw [h3, hse]
    have ec : (12 : Int32) - iI p = iI ((12 - p : Nat) : Int) := by
      rw [show (12 : Int32) = iI 12 from rfl, iI_sub]
      exact congrArg iI (by omega)
    rw [X2_weigh_l76, X2_weigh_b76, if_neg (by decide), if_neg (by decide)]
    simp only [zl_e, h5, ec]
    rw [show (0 : Int32) = iI ((0 : Nat) : Int) from rfl, lift_104 (q := 12 - p) (b := 0) ho hc hk hl (by omega) h3' (by omega)]
    have a0 := pEnd_le ho (pLift_ok (b := 0) hk) hl
    have a1 := pEnd_le ho (pLift_ok (b := 1) hk) hl
    obtain ⟨T1, g1, g2, g3, g4, g5, g6⟩ := ih (i + 1) d (pDel o (pLift s 0) (lf i)) (sum + pEnd o (pLift s 0) (lf i)) (w * (12 - p)) T (by omega) (by omega) (pDel_ok ho (pLift_ok hk) hl) hse (by omega) hc h2 h3 h4 h5 h6
    rw [g1]
    simp only [zb_some]
    have hc1 : oC T1 o := hc.cg (fun c _ _ => by rw [g2])
    rw [X2_weigh_l76, X2_weigh_b76, if_neg (by decide), if_pos (by decide)]
    simp only [zl_e]
    rw [show T1.1 63 5 = iI p by rw [g2]; exact h5, lift_104 (b := 1) ho hc1 hk hl (by omega) (by rw [g2]; exact h3') hp]
    obtain ⟨T2, e1, e2, e3, e4, e5, e6⟩ := ih (i + 1) d (pDel o (pLift s 1) (lf i)) (sum + pEnd o (pLift s 1) (lf i)) (w * p) T1 (by omega) (by omega) (pDel_ok ho (pLift_ok hk) hl) hse (by omega) hc1 (by rw [g2]; exact h2) (by rw [g2]; exact h3) (by rw [g2]; exact h4) (by rw [g2]; exact h5) (fun k hk2 => by rw [g2]; exact h6 k hk2)
    rw [e1]
    simp only [zb_some]
    rw [X2_weigh_l76, X2_weigh_b76, if_pos (by decide)]
    refine ⟨T2, rfl, by rw [e2, g2], fun c hc2 => by rw [e3 c hc2, g3 c hc2], ?_, ?_, ?_⟩
    · rw [e4, g4, Int64.add_assoc, iJ_add]
      rfl
    · rw [e5, g5, Int64.add_assoc, iJ_add]
      rfl
    · rw [e6, g6, Int64.add_assoc, iJ_add]
      rfl
theorem wrq (S : zMem) (c k : Nat) (v : Int64) : ∃ S1 : zMem, zq S c (vp_updL (S.2 c) k v) = S1 ∧ S1.2 c k = v ∧ (∀ j, j ≠ k → S1.2 c j = S.2 c j) ∧ (∀ q, q ≠ c → S1.2 q = S.2 q) ∧ S1.1 = S.1 :=
  ⟨_, rfl, by rw [zq_eq, updL_at, if_pos rfl], fun j hj => by rw [zq_eq, updL_at, if_neg hj], fun q hq => zq_ne hq, rfl⟩
theorem RC.cg2 {S S1 : zMem} {g : pSig} (h : RC S g) (hc : ∀ c, (c < 29 ∨ (35 ≤ c ∧ c < 60) ∨ c = 67) → S1.1 c = S.1 c) (h2 : S1.2 0 = S.2 0) : RC S1 g := by
  obtain ⟨a1, a2, a3, a4, a5, a6, a7⟩ := h
  exact ⟨a1.cg (hc 0 (by omega)) h2 (hc 67 (by omega)), a2.cg (fun c x y => hc c (by omega)), a3.cg (fun c x y => hc c (by omega)), a4.cg (fun c x y => hc c (by omega)), a5.cg (fun c x y => hc c (by omega)), fun q => by rw [hc 35 (by omega)]; exact a6 q, a7.cg (fun c x y => hc c (by omega))⟩
theorem follow_C {S : zMem} {g : pSig} {j v p : Nat} (hg : pWf g) (h : RC S g) (hj : j < 6) (hl : pLets (gO g) (gR g j) (sC (gS g)) = 0) (hv : v ≤ 54) (hp : p ≤ 12) : ∃ S1, f_X2_follow (4 + 2 * j) (iI v) (iI p) S = some ((), S1) ∧ RC S1 g ∧ S1.2 63 6 = iJ (pRec (gO g) (pLf (gR g j)) p (pG false v) (gR g j).1.toNat 0 (gS g) 0 1) ∧ S1.2 63 7 = iJ (pRec (gO g) (pLf (gR g j)) p (pG true v) (gR g j).1.toNat 0 (gS g) 0 1) ∧ S1.2 63 8 = iJ (pRec (gO g) (pLf (gR g j)) p (fun _ w => w) (gR g j).1.toNat 0 (gS g) 0 1) := by
  obtain ⟨n, hn, hn6, c, hcc⟩ := pLets_0 hl
  have hlet := pSeen_ok n c hcc
  have hN := hg.o.2.1
  have hlf : ∀ i, i < n → pLf (gR g j) i < rN (gO g) := fun i hi => by
    obtain ⟨s1, l, e1, e2, e3, e4, e5⟩ := hlet i hi
    rw [pLf_eq (by omega) e3]
    exact e2
  rw [hn, Int.toNat_natCast]
  have hr := h.2.1 j hj
  rw [hn] at hr
  have hL := lnC_row j hj
  have hs := h.s
  simp only [f_X2_follow, X2_follow_b0]
  rw [zl_e, hr.1, show (6 : Int32) = iI 6 from rfl, show (0 : Int32) = iI 0 from rfl]
  have q1 : iI 6 < iI (n : Int) ↔ False := by
    rw [iI_lt (by omega) (by omega) (by omega) (by omega)]
    exact ⟨fun h => by omega, False.elim⟩
  simp only [q1, if_false]
  rw [zl_e]
  have q2 : (if iI 0 < iI (n : Int) then iI (n : Int) else iI 0) = iI (n : Int) := by
    have := iI_lt (a := 0) (b := (n : Int)) (by omega) (by omega) (by omega) (by omega)
    simp only [this]
    split
    · rfl
    · rw [show (n : Int) = 0 by omega]
  rw [q2, zl_e, zl_e]
  obtain ⟨T1, e1, a1, b1, c1, d1⟩ := wr S 63 2 (iI n)
  rw [e1, zl_e, a1, hL]
  have ecp : zcp (iI 0) (iI 0) (iI (n : Int)) 40 6 = true := by
    unfold zcp
    rw [show (iI 0).toNatClampNeg = 0 from rfl, iI_cln (by omega), show (0 : Int32) = iI 0 from rfl]
    simp (disch := omega) only [iI_lt]
    simp
    omega
  rw [ecp, zc_true, zl_e, c1 (4 + 2 * j + 1) (by omega), c1 64 (by omega)]
  obtain ⟨T2, e2, a2, c2, d2⟩ := wrf T1 64 (va_cpy (S.1 (4 + 2 * j + 1)) (S.1 64) (iI 0).toNatClampNeg (iI 0).toNatClampNeg (iI (n : Int)).toNatClampNeg)
  rw [e2, zl_e, c2 35 (by omega), c1 35 (by omega), hs.2.2.1, zl_e]
  obtain ⟨T3, e3, a3, b3, c3, d3⟩ := wr T2 63 3 (iI (sE (gS g)))
  rw [e3, zl_e]
  obtain ⟨T4, e4, a4, b4, c4, d4⟩ := wr T3 63 4 (iI v)
  rw [e4, zl_e]
  obtain ⟨T5, e5, a5, b5, c5, d5⟩ := wr T4 63 5 (iI p)
  rw [e5, zl_e]
  obtain ⟨T6, e6, a6, b6, c6, d6⟩ := wrq T5 63 6 (0 : Int64)
  rw [e6, zl_e]
  obtain ⟨T7, e7, a7, b7, c7, d7⟩ := wrq T6 63 7 (0 : Int64)
  rw [e7, zl_e]
  obtain ⟨T8, e8, a8, b8, c8, d8⟩ := wrq T7 63 8 (0 : Int64)
  have hc8 : ∀ q, q ≠ 63 → q ≠ 64 → T8.1 q = S.1 q := fun q h1 h2 => by rw [d8, d7, d6, c5 q h1, c4 q h1, c3 q h1, c2 q h2, c1 q h1]
  rw [e8, zl_e, hc8 35 (by omega) (by omega), hs.2.1, zl_e, hs.2.2.2.1]
  have k2 : T8.1 63 2 = iI n := by rw [d8, d7, d6, b5 2 (by omega), b4 2 (by omega), b3 2 (by omega), c2 63 (by omega), a1]
  have k3 : T8.1 63 3 = iI (sE (gS g)) := by rw [d8, d7, d6, b5 3 (by omega), b4 3 (by omega), a3]
  have k4 : T8.1 63 4 = iI v := by rw [d8, d7, d6, b5 4 (by omega), a4]
  have k5 : T8.1 63 5 = iI p := by rw [d8, d7, d6, a5]
  have k6 : ∀ k, k < n → T8.1 64 k = iI (pLf (gR g j) k) := fun k hk => by
    obtain ⟨s1, l, f1, f2, f3, f4, f5⟩ := hlet k hk
    rw [d8, d7, d6, c5 64 (by omega), c4 64 (by omega), c3 64 (by omega), a2]
    unfold va_cpy
    rw [show (iI 0).toNatClampNeg = 0 from rfl, iI_cln (by omega), if_pos (by omega), show 0 + (k - 0) = k by omega, hr.2 k (by omega), f3, pLf_eq (by omega) f3]
  have ho8 : oC T8 (gO g) := h.o.cg (fun c x y => hc8 c (by omega) (by omega))
  obtain ⟨T9, w1, w2, w3, w4, w5, w6⟩ := weigh_C hg.o hlf hp hn6 hv n 0 8 (gS g) 0 1 T8 (by omega) (by omega) hg.ok rfl (by omega) ho8 k2 k3 k4 k5 k6
  have w1' : f_X2_weigh 8 (iI 0) (iI (sM (gS g))) (iI (sP (gS g))) (iI 0) (1 : Int64) T8 = some ((), T9) := w1
  rw [w1']
  refine ⟨T9, rfl, h.cg2 (fun c hc => by rw [w2, hc8 c (by omega) (by omega)]) (by rw [w3 0 (by omega), c8 0 (by omega), c7 0 (by omega), c6 0 (by omega), d5, d4, d3, d2, d1]), ?_, ?_, ?_⟩
  · rw [w4, b8 6 (by omega), b7 6 (by omega), a6, show (0 : Int64) = iJ 0 from rfl, iJ_add, Int.zero_add]
  · rw [w5, b8 7 (by omega), a7, show (0 : Int64) = iJ 0 from rfl, iJ_add, Int.zero_add]
  · rw [w6, a8, show (0 : Int64) = iJ 0 from rfl, iJ_add, Int.zero_add]
/-- what is told of chances: above, below -/
def pUp (g : pSig) (j v p : Nat) (mn : Bool) : Nat := pRec (gO g) (pLf (gR g j)) p (pG mn v) (gR g j).1.toNat 0 (gS g) 0 1
theorem pUp_le {g : pSig} {j v p : Nat} {mn : Bool} (hg : pWf g) (hl : pLets (gO g) (gR g j) (sC (gS g)) = 0) (hp : p ≤ 12) : pUp g j v p mn < 4611686018427387904 ∧ pRec (gO g) (pLf (gR g j)) p (fun _ w => w) (gR g j).1.toNat 0 (gS g) 0 1 = 12 ^ (gR g j).1.toNat ∧ 0 < 12 ^ (gR g j).1.toNat ∧ 12 ^ (gR g j).1.toNat < 2 ^ 40 := by
  obtain ⟨n, hn, hn6, c, hcc⟩ := pLets_0 hl
  have hlet := pSeen_ok n c hcc
  have hN := hg.o.2.1
  have hlf : ∀ i, i < n → pLf (gR g j) i < rN (gO g) := fun i hi => by
    obtain ⟨s1, l, e1, e2, e3, e4, e5⟩ := hlet i hi
    rw [pLf_eq (by omega) e3]
    exact e2
  have h12 : 12 ^ n ≤ 12 ^ 6 := Nat.pow_le_pow_right (by omega) hn6
  have e12 : (12 : Nat) ^ 6 = 2985984 := rfl
  have e40 : (2 : Nat) ^ 40 = 1099511627776 := rfl
  unfold pUp
  rw [hn, Int.toNat_natCast]
  refine ⟨?_, ?_, Nat.pow_pos (by omega), by omega⟩
  · have h := pRec_le (mn := mn) (v := v) hg.o hlf hp n 0 (gS g) 0 1 (by omega) hg.ok
    have h2 : (0 + 9 * n + 1) * (1 * 12 ^ n) ≤ 55 * 2985984 := Nat.mul_le_mul (by omega) (by omega)
    omega
  · rw [pRec_all hp, Nat.one_mul]
/-! odds, mid: the class -/
def qOdds (x y z : Int32) (g : pSig) : Int32 × pSig := match pIn x 6, pIn y 55, pIn z 13 with
  | some j, some v, some p => if pLets (gO g) (gR g j) (sC (gS g)) = 0 then (1, gPart (pUp g j v p false) (12 ^ (gR g j).1.toNat) g) else qRef (pLets (gO g) (gR g j) (sC (gS g))) g
  | _, _, _ => (-1, g)
def qMid (x z : Int32) (g : pSig) : Int32 × pSig := match pIn x 6, pIn z 13 with
  | some j, some p => if pLets (gO g) (gR g j) (sC (gS g)) = 0 then (1, gPart (pUp g j 0 p true) (12 ^ (gR g j).1.toNat) g) else qRef (pLets (gO g) (gR g j) (sC (gS g))) g
  | _, _ => (-1, g)
theorem odds_wf (x y z : Int32) : ∀ g, pWf g → pWf (qOdds x y z g).2 := by
  intro g h
  unfold qOdds
  split
  · split
    · exact wf_told (g := g) _ h
    · exact wf_told (g := g) _ h
  · exact h
theorem mid_wf (x z : Int32) : ∀ g, pWf g → pWf (qMid x z g).2 := by
  intro g h
  unfold qMid
  split
  · split
    · exact wf_told (g := g) _ h
    · exact wf_told (g := g) _ h
  · exact h
theorem odds_C (x y z : Int32) : okC (f_X8_odds x y z) (qOdds x y z) := by
  intro S g hg h
  unfold qOdds
  simp only [f_X8_odds, X8_odds_b0, X8_odds_b25]
  rw [show (54 : Int32) = iI ((54 : Nat) : Int) from rfl, show (12 : Int32) = iI ((12 : Nat) : Int) from rfl]
  cases hx : pIn x 6 with
  | none =>
    simp only [isRow_f hx, zb_some, zero_0, if_true]
    exact ⟨S, rfl, h⟩
  | some j =>
    obtain ⟨rfl, hj⟩ := pIn_some hx
    simp only [isRow_t hj, zb_some, one_0, if_false]
    cases hy : pIn y 55 with
    | none =>
      simp only [within_f hy (show 54 < 1000000 by omega), zb_some, zero_0, if_true]
      exact ⟨S, rfl, h⟩
    | some v =>
      obtain ⟨rfl, hv⟩ := pIn_some hy
      simp only [within_t (show v ≤ 54 by omega) (show 54 < 1000000 by omega), zb_some, one_0, if_false]
      cases hz : pIn z 13 with
      | none =>
        simp only [within_f hz (show 12 < 1000000 by omega), zb_some, zero_0, if_true]
        exact ⟨S, rfl, h⟩
      | some p =>
        obtain ⟨rfl, hp⟩ := pIn_some hz
        have c64 := hg.ok.c64 hg.o
        have h6 := pLets_6 (gO g) (gR g j) (sC (gS g))
        simp (disch := omega) only [within_t (show p ≤ 12 by omega) (show 12 < 1000000 by omega), zb_some, one_0, if_false, zi_I, zc_true, zl_e, iI_cln, h.s.2.2.2.2.1, wrongLetters_C hg h hj c64, eqn0]
        by_cases hl : pLets (gO g) (gR g j) (sC (gS g)) = 0
        · rw [if_pos hl, if_pos hl]
          obtain ⟨T, e1, e2, e3, e4, e5⟩ := follow_C (v := v) (p := p) hg h hj hl (by omega) (by omega)
          obtain ⟨u1, u2, u3, u4⟩ := pUp_le (v := v) (mn := false) hg hl (show p ≤ 12 by omega)
          rw [e1]
          simp only [zb_some, e3, e5]
          rw [u2]
          obtain ⟨S1, f1, f2, f3⟩ := tellPart_C e2 u1 u3 u4
          have f1' : f_X8_tellPart (iJ (pRec (gO g) (pLf (gR g j)) p (pG false v) (gR g j).1.toNat 0 (gS g) 0 1 : Nat)) (iJ (12 ^ (gR g j).1.toNat : Nat)) T = some (1, S1) := f1
          rw [f1']
          exact ⟨S1, rfl, f2⟩
        · rw [if_neg hl, if_neg hl]
          exact ref_Ce _ h6 h rfl
theorem mid_C (x z : Int32) : okC (f_X8_mid x z) (qMid x z) := by
  intro S g hg h
  unfold qMid
  simp only [f_X8_mid, X8_mid_b0, X8_mid_b16]
  rw [show (12 : Int32) = iI ((12 : Nat) : Int) from rfl]
  cases hx : pIn x 6 with
  | none =>
    simp only [isRow_f hx, zb_some, zero_0, if_true]
    exact ⟨S, rfl, h⟩
  | some j =>
    obtain ⟨rfl, hj⟩ := pIn_some hx
    simp only [isRow_t hj, zb_some, one_0, if_false]
    cases hz : pIn z 13 with
    | none =>
      simp only [within_f hz (show 12 < 1000000 by omega), zb_some, zero_0, if_true]
      exact ⟨S, rfl, h⟩
    | some p =>
      obtain ⟨rfl, hp⟩ := pIn_some hz
      have c64 := hg.ok.c64 hg.o
      have h6 := pLets_6 (gO g) (gR g j) (sC (gS g))
      simp (disch := omega) only [within_t (show p ≤ 12 by omega) (show 12 < 1000000 by omega), zb_some, one_0, if_false, zi_I, zc_true, zl_e, iI_cln, h.s.2.2.2.2.1, wrongLetters_C hg h hj c64, eqn0]
      by_cases hl : pLets (gO g) (gR g j) (sC (gS g)) = 0
      · rw [if_pos hl, if_pos hl]
        obtain ⟨T, e1, e2, e3, e4, e5⟩ := follow_C (v := 0) (p := p) hg h hj hl (by omega) (by omega)
        obtain ⟨u1, u2, u3, u4⟩ := pUp_le (v := 0) (mn := true) hg hl (show p ≤ 12 by omega)
        have e1' : f_X2_follow (4 + 2 * j) (0 : Int32) (iI ↑p) S = some ((), T) := e1
        rw [e1']
        simp only [zb_some, e4, e5]
        rw [u2]
        obtain ⟨S1, f1, f2, f3⟩ := tellPart_C e2 u1 u3 u4
        have f1' : f_X8_tellPart (iJ (pRec (gO g) (pLf (gR g j)) p (pG true 0) (gR g j).1.toNat 0 (gS g) 0 1 : Nat)) (iJ (12 ^ (gR g j).1.toNat : Nat)) T = some (1, S1) := f1
        rw [f1']
        exact ⟨S1, rfl, f2⟩
      · rw [if_neg hl, if_neg hl]
        exact ref_Ce _ h6 h rfl
