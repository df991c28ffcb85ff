/-! duel: the reference -/
def pEnc (t A : Nat) (a : Option Nat) : Int := match a with
  | none => if t % 2 = 0 then -1 else 99999
  | some w => ((A + w : Nat) : Int)
def zFd (S T : zMem) : Prop := (∀ c, c ≠ 1 → c ≠ 12 → c ≠ 13 → c ≠ 14 → T.1 c = S.1 c) ∧ T.2 = S.2 ∧ ∀ q, q < 2792 → T.1 1 q = S.1 1 q
theorem zFd_t {S T U : zMem} (h : zFd S T) (h2 : zFd T U) : zFd S U := ⟨fun c a b d e => (h2.1 c a b d e).trans (h.1 c a b d e), h2.2.1.trans h.2.1, fun q hq => (h2.2.2 q hq).trans (h.2.2 q hq)⟩
theorem zFd_R {S T : zMem} {g : pSig} (h : zFd S T) (hg : pWf g) (hR : RM S g) : RM T g := hR.cg hg (fun k _ => by rw [h.1 0 (by omega) (by omega) (by omega) (by omega)]) (fun c h1 h2 => h.1 c (by omega) (by omega) (by omega) (by omega)) h.2.1 h.2.2
theorem zFd_w {S T : zMem} {c : Nat} (hc : c = 12 ∨ c = 14) (h1 : ∀ q, q ≠ c → T.1 q = S.1 q) (h2 : T.2 = S.2) : zFd S T := ⟨fun q a b d e => h1 q (by omega), h2, fun q _ => by rw [h1 1 (by omega)]⟩
theorem better_M {t : Nat} {a b : Int} (S : zMem) (ht : t < 8) (ha1 : -10 ≤ a) (ha2 : a ≤ 100000) (hb1 : -10 ≤ b) (hb2 : b ≤ 100000) : f_X9_better (iI t) (iI a) (iI b) S = some (iI (if t % 2 = 0 then (if a ≤ b then b else a) else (if b ≤ a then b else a)), S) := by
  simp only [f_X9_better, X9_better_b0, X9_better_b29, zl_e, rem2I t ht, eqn0 (show t % 2 < 2147483648 by omega)]
  simp (disch := omega) only [iI_le]
  split
  · split
    · rfl
    · rfl
  · split
    · rfl
    · rfl
theorem enc_b {t A M : Nat} {a : Option Nat} (hA : A ≤ 1000) (hM : M ≤ 1000) (h : ∀ x, a = some x → x ≤ M) : -10 ≤ pEnc t A a ∧ pEnc t A a ≤ 100000 := by
  cases a with
  | none =>
    unfold pEnc
    dsimp only
    split
    · omega
    · omega
  | some x =>
    have := h x rfl
    show -10 ≤ ((A + x : Nat) : Int) ∧ ((A + x : Nat) : Int) ≤ 100000
    omega
theorem enc_better {t A w M : Nat} {a : Option Nat} (hA : A ≤ 1000) (hM : M ≤ 1000) (hw : w ≤ M) (h : ∀ x, a = some x → x ≤ M) : (if t % 2 = 0 then (if pEnc t A a ≤ ((A + w : Nat) : Int) then ((A + w : Nat) : Int) else pEnc t A a) else (if ((A + w : Nat) : Int) ≤ pEnc t A a then ((A + w : Nat) : Int) else pEnc t A a)) = pEnc t A (pCmb t a w) := by
  cases a with
  | none =>
    show _ = ((A + w : Nat) : Int)
    unfold pEnc
    dsimp only
    by_cases ht : t % 2 = 0
    · rw [if_pos ht, if_pos ht, if_pos (by omega)]
    · rw [if_neg ht, if_neg ht, if_pos (by omega)]
  | some x =>
    show (if t % 2 = 0 then (if ((A + x : Nat) : Int) ≤ ((A + w : Nat) : Int) then ((A + w : Nat) : Int) else ((A + x : Nat) : Int)) else (if ((A + w : Nat) : Int) ≤ ((A + x : Nat) : Int) then ((A + w : Nat) : Int) else ((A + x : Nat) : Int))) = ((A + (if t % 2 = 0 then (if w ≤ x then x else w) else (if x ≤ w then x else w)) : Nat) : Int)
    repeat' split
    all_goals omega
theorem beginTurn_M {t : Nat} (S : zMem) (ht : t < 6) : ∃ T, f_X9_beginTurn (iI t) S = some ((), T) ∧ zFd S T ∧ T.1 12 t = iI 0 ∧ (∀ k, k ≠ t → T.1 12 k = S.1 12 k) ∧ (∀ A, T.1 14 t = iI (pEnc t A none)) ∧ (∀ k, k ≠ t → T.1 14 k = S.1 14 k) := by
  simp only [f_X9_beginTurn, X9_beginTurn_b0]
  simp (disch := omega) only [zi_I, zc_true, iI_cln]
  obtain ⟨T1, w1, w2, w3, w4, w5⟩ := wr S 12 t (0 : Int32)
  rw [zl_e, w1]
  simp only [zl_e, rem2I t (by omega), eqn0 (show t % 2 < 2147483648 by omega)]
  have two : ∀ v : Int32, (∀ A, v = iI (pEnc t A none)) → ∃ T, X9_beginTurn_b24 (iI t) v T1 = some ((), T) ∧ zFd S T ∧ T.1 12 t = iI 0 ∧ (∀ k, k ≠ t → T.1 12 k = S.1 12 k) ∧ (∀ A, T.1 14 t = iI (pEnc t A none)) ∧ (∀ k, k ≠ t → T.1 14 k = S.1 14 k) := by
    intro v hv
    simp (disch := omega) only [X9_beginTurn_b24, zi_I, zc_true, iI_cln]
    obtain ⟨T2, x1, x2, x3, x4, x5⟩ := wr T1 14 t v
    rw [zl_e, x1]
    exact ⟨T2, rfl, zFd_t (zFd_w (Or.inl rfl) w4 w5) (zFd_w (Or.inr rfl) x4 x5), by rw [x4 12 (by omega)]; exact w2, fun k hk => by rw [x4 12 (by omega), w3 k hk], fun A => by rw [x2]; exact hv A, fun k hk => by rw [x3 k hk, w4 14 (by omega)]⟩
  by_cases ht2 : t % 2 = 0
  · rw [if_pos ht2]
    exact two (-1) (fun A => by unfold pEnc; dsimp only; rw [if_pos ht2]; rfl)
  · rw [if_neg ht2]
    exact two 99999 (fun A => by unfold pEnc; dsimp only; rw [if_neg ht2]; rfl)
theorem isFree_M {T : zMem} {c t l left : Nat} {p : List Nat} (hc : c < 64) (hl : l < 6) (ht : t ≤ 6) (h5 : T.1 1 5 = iI c) (hp : ∀ k, k < t → T.1 12 k = iI (p.getD k 0 : Nat)) (hpb : ∀ k, k < t → p.getD k 0 < 6) (hleft : left.testBit l = true ↔ c.testBit l = false ∧ ∀ k, k < t → p.getD k 0 ≠ l) : f_X9_isFree (iI t) (iI l) T = some (if left.testBit l then 1 else 0, T) := by
  have h5' : T.1 1 (Int32.toNatClampNeg (5 : Int32)) = iI c := h5
  have main : ∀ s0 : Int32, s0 = (if c.testBit l then 0 else 1) → X9_isFree_b18 (iI t) (iI l) s0 T = some (if left.testBit l then 1 else 0, T) := by
    intro s0 hs0
    rw [X9_isFree_b18]
    refine zforI (F := fun f i (a : Int32) => X9_isFree_l22 f (iI t) (iI l) a (iI (i : Nat)) T) (n := t) (P := fun i a => (a = 1 ∧ c.testBit l = false ∧ ∀ k, k < i → p.getD k 0 ≠ l) ∨ (a = 0 ∧ ¬ left.testBit l = true)) (Q := fun r => r = some (if left.testBit l then 1 else 0, T)) (fun f i a hi ha => Or.inl ?_) (fun f a ha => ?_) (zF_gt (by omega)) (a := s0) ?_
    · have i1 : iI (i : Int) + (1 : Int32) = iI ((i + 1 : Nat) : Int) := i1n i 1
      simp (disch := omega) only [X9_isFree_l22, X9_isFree_b22, X9_isFree_b47, X9_isFree_b48, iI_le, zl_e, i1]
      rw [if_neg (by omega)]
      rcases ha with ⟨rfl, a1, a2⟩ | ⟨rfl, a1⟩
      · have hpk := hpb i hi
        rw [if_neg (by decide)]
        simp (disch := omega) only [zi_I, zc_true, iI_cln, hp i hi, eqn]
        by_cases hq : p.getD i 0 = l
        · rw [if_pos hq]
          exact ⟨0, Or.inr ⟨rfl, fun q => (hleft.mp q).2 i hi hq⟩, rfl⟩
        · rw [if_neg hq]
          refine ⟨1, Or.inl ⟨rfl, a1, fun k hk => ?_⟩, rfl⟩
          by_cases hki : k = i
          · subst hki
            exact hq
          · exact a2 k (by omega)
      · rw [if_pos rfl]
        exact ⟨0, Or.inr ⟨rfl, a1⟩, rfl⟩
    · simp (disch := omega) only [X9_isFree_l22, X9_isFree_b22, iI_le]
      rw [if_pos (by omega)]
      rcases ha with ⟨rfl, a1, a2⟩ | ⟨rfl, a1⟩
      · rw [if_pos (hleft.mpr ⟨a1, a2⟩), zbo_1, zc_true]
      · rw [if_neg a1, zbo_0, zc_true]
    · by_cases hb : c.testBit l = true
      · rw [if_pos hb] at hs0
        exact Or.inr ⟨hs0, fun q => by rw [(hleft.mp q).1] at hb; exact absurd hb Bool.false_ne_true⟩
      · rw [if_neg hb] at hs0
        exact Or.inl ⟨hs0, by simpa using hb, fun k hk => by omega⟩
  simp only [f_X9_isFree, X9_isFree_b0]
  rw [z5, zc_true, zl_e, h5', mhas_eq hc hl]
  simp only [zb_some]
  by_cases hb : c.testBit l = true
  · rw [if_pos hb, if_neg (by decide)]
    exact main 0 (by rw [if_pos hb])
  · rw [if_neg hb, if_pos rfl]
    exact main 1 (by rw [if_neg hb])
/-- what was no longer free is passed over -/
theorem passFree_M {S0 : zMem} {g : pSig} {t l left : Nat} {p : List Nat} {U : zMem} {x3 : Int32} (hg : pWf g) (hR : RM S0 g) (ht : t < 6) (hU : zFd S0 U) (hl : l ≤ rN (gO g)) (hp : ∀ k, k < t → U.1 12 k = iI (p.getD k 0 : Nat)) (hpb : ∀ k, k < t → p.getD k 0 < 6) (hleft : ∀ l, l < rN (gO g) → (left.testBit l = true ↔ (sC (gS g)).testBit l = false ∧ ∀ k, k < t → p.getD k 0 ≠ l)) (h12 : U.1 12 t = iI l) : ∃ l2 V, l ≤ l2 ∧ l2 ≤ rN (gO g) ∧ (l2 < rN (gO g) → left.testBit l2 = true) ∧ (∀ j, l ≤ j → j < l2 → ¬ left.testBit j = true) ∧ zFd S0 V ∧ V.1 12 t = iI l2 ∧ (∀ k, k ≠ t → V.1 12 k = U.1 12 k) ∧ V.1 14 = U.1 14 ∧ ∀ k74, X9_duel_l83 k74 zF x3 (iI t) U = X9_duel_b127 k74 x3 (iI t) V := by
  have hN := hg.o.2.1
  have c64 := hg.ok.c64 hg.o
  obtain ⟨d, hd⟩ : ∃ d, l + d = rN (gO g) := ⟨rN (gO g) - l, by omega⟩
  refine zforI (F := fun f i W => fun k74 => X9_duel_l83 k74 f x3 (iI t) W) (n := d) (P := fun i W => zFd S0 W ∧ W.1 12 t = iI ((l + i : Nat) : Int) ∧ (∀ k, k ≠ t → W.1 12 k = U.1 12 k) ∧ W.1 14 = U.1 14 ∧ ∀ j, l ≤ j → j < l + i → ¬ left.testBit j = true) (Q := fun r => ∃ l2 V, l ≤ l2 ∧ l2 ≤ rN (gO g) ∧ (l2 < rN (gO g) → left.testBit l2 = true) ∧ (∀ j, l ≤ j → j < l2 → ¬ left.testBit j = true) ∧ zFd S0 V ∧ V.1 12 t = iI l2 ∧ (∀ k, k ≠ t → V.1 12 k = U.1 12 k) ∧ V.1 14 = U.1 14 ∧ ∀ k74, r k74 = X9_duel_b127 k74 x3 (iI t) V) (fun f i W hi hW => ?_) (fun f W hW => ?_) (zF_gt (by omega)) (a := U) ⟨hU, h12, fun _ _ => rfl, rfl, fun j h1 h2 => by omega⟩
  · obtain ⟨w1, w2, w3, w4, w5⟩ := hW
    have hRW := zFd_R w1 hg hR
    have e5 : W.1 1 5 = iI (sC (gS g)) := hRW.s.2.2.2.2.1
    have main : ∀ k74, X9_duel_l83 k74 (f + 1) x3 (iI t) W = if left.testBit (l + i) then X9_duel_b127 k74 x3 (iI t) W else X9_duel_l83 k74 f x3 (iI t) (zp W 12 (upd (W.1 12) t (iI ((l + (i + 1) : Nat) : Int)))) := by
      intro k74
      simp (disch := omega) only [X9_duel_l83, X9_duel_b83, zi_I, zc_true, zl_e, iI_cln, w2, hRW.o.2.1, iI_le]
      rw [if_neg (by omega), isFree_M (left := left) c64 (show l + i < 6 by omega) (by omega) e5 (fun k hk => by rw [w3 k (by omega)]; exact hp k hk) hpb (hleft (l + i) (by omega))]
      simp only [zb_some]
      by_cases hb : left.testBit (l + i) = true
      · rw [if_pos hb, if_pos hb, if_neg (by decide)]
      · rw [if_neg hb, if_neg hb, if_pos rfl]
        simp (disch := omega) only [zi_I, zc_true, zl_e, iI_cln, w2]
        rw [show iI ((l + i : Nat) : Int) + (1 : Int32) = iI ((l + (i + 1) : Nat) : Int) from i1n (l + i) 1]
    by_cases hb : left.testBit (l + i) = true
    · right
      exact ⟨l + i, W, by omega, by omega, fun _ => hb, w5, w1, w2, w3, w4, fun k74 => (main k74).trans (if_pos hb)⟩
    · left
      obtain ⟨X, x1, x2, x3, x4, x5⟩ := wr W 12 t (iI ((l + (i + 1) : Nat) : Int))
      refine ⟨X, ⟨zFd_t w1 (zFd_w (Or.inl rfl) x4 x5), x2, fun k hk => by rw [x3 k hk, w3 k hk], by rw [x4 14 (by omega), w4], fun j h1 h2 => ?_⟩, funext fun k74 => by rw [main k74, if_neg hb, x1]⟩
      by_cases hj : j = l + i
      · subst hj
        exact hb
      · exact w5 j h1 (by omega)
  · obtain ⟨w1, w2, w3, w4, w5⟩ := hW
    have hRW := zFd_R w1 hg hR
    refine ⟨l + d, W, by omega, by omega, fun q => by omega, w5, w1, w2, w3, w4, fun k74 => ?_⟩
    simp (disch := omega) only [X9_duel_l83, X9_duel_b83, zi_I, zc_true, zl_e, iI_cln, w2, hRW.o.2.1, iI_le]
    rw [if_pos (by omega)]
theorem pTog_snoc (o : pRoad) : ∀ p s l, pTog o s (p ++ [l]) = pTog o s p + pEnd o (pDelL o s p) l := by
  intro p
  induction p with
  | nil =>
    intro s l
    show pEnd o s l + 0 = 0 + pEnd o s l
    omega
  | cons x p ih =>
    intro s l
    show pEnd o s x + pTog o (pDel o s x) (p ++ [l]) = pEnd o s x + pTog o (pDel o s x) p + pEnd o (pDelL o (pDel o s x) p) l
    rw [ih]
    omega
theorem pDelL_snoc (o : pRoad) (p : List Nat) (s : pSt) (l : Nat) : pDelL o s (p ++ [l]) = pDel o (pDelL o s p) l := by
  unfold pDelL
  rw [List.foldl_append]
  rfl
def pB : Nat → Nat
  | 0 => 0
  | m + 1 => 6 * (2 + pB m)
def pFd (o : pRoad) (m t : Nat) (s : pSt) (left l : Nat) : Option Nat := foldN (fun b l => if left.testBit l then pCmb t b (pEnd o s l + pDv o m (t + 1) (pDel o s l) (pRem left l)) else b) none l
theorem pFd_skip {o : pRoad} {m t : Nat} {s : pSt} {left l l2 : Nat} (h : l ≤ l2) (hn : ∀ j, l ≤ j → j < l2 → ¬ left.testBit j = true) : pFd o m t s left l2 = pFd o m t s left l := by
  obtain ⟨d, rfl⟩ : ∃ d, l2 = l + d := ⟨l2 - l, by omega⟩
  unfold pFd
  rw [foldN_add]
  exact foldN_id (fun i hi => by rw [if_neg (hn (l + i) (by omega) (by omega))])
theorem pFd_s {o : pRoad} {m t : Nat} {s : pSt} {left l : Nat} (h : left.testBit l = true) : pFd o m t s left (l + 1) = pCmb t (pFd o m t s left l) (pEnd o s l + pDv o m (t + 1) (pDel o s l) (pRem left l)) := by
  show (if left.testBit l then pCmb t (pFd o m t s left l) (pEnd o s l + pDv o m (t + 1) (pDel o s l) (pRem left l)) else pFd o m t s left l) = _
  rw [if_pos h]
theorem pFd_le {o : pRoad} {m t : Nat} {s : pSt} {left : Nat} (ho : pRok o) (hs : pSok o s) (l : Nat) (hl : l ≤ rN o) : ∀ a, pFd o m t s left l = some a → a ≤ 9 * (m + 1) :=
  fold_le (t := t) (left := left) (M := 9 * (m + 1)) (N := rN o) (F := fun l => pEnd o s l + pDv o m (t + 1) (pDel o s l) (pRem left l)) (fun l hl => by
    have h1 := pEnd_le ho hs hl
    have h2 := pDv_le ho m (t + 1) (pDel o s l) (pRem left l) (pDel_ok ho hs hl)
    show pEnd o s l + pDv o m (t + 1) (pDel o s l) (pRem left l) ≤ 9 * (m + 1)
    omega) l hl
/-- one letter tried in a turn: how many rounds, and what it leaves -/
def actM (S0 : zMem) (g : pSig) (tn m t : Nat) (p : List Nat) (left : Nat) : Prop := ∀ l, l < rN (gO g) → left.testBit l = true → ∀ W, zFd S0 W → (∀ k, k < t → W.1 12 k = iI (p.getD k 0 : Nat)) → W.1 12 t = iI l → W.1 14 t = iI (pEnc t (pTog (gO g) (gS g) p) (pFd (gO g) m t (pDelL (gO g) (gS g) p) left l)) → ∃ c X, c ≤ 1 + pB m ∧ (∀ f, X9_duel_b127 (X9_duel_l74 (f + c)) (iI tn) (iI t) W = X9_duel_l74 f (iI tn) (iI t) X) ∧ zFd S0 X ∧ (∀ k, k < t → X.1 12 k = W.1 12 k) ∧ X.1 12 t = iI ((l + 1 : Nat) : Int) ∧ (∀ k, k < t → X.1 14 k = W.1 14 k) ∧ X.1 14 t = iI (pEnc t (pTog (gO g) (gS g) p) (pFd (gO g) m t (pDelL (gO g) (gS g) p) left (l + 1)))
/-- one turn, from letter l on -/
def lvM (S0 : zMem) (g : pSig) (tn m t : Nat) (p : List Nat) (left : Nat) : Prop := ∀ (d l : Nat) (U : zMem), l + d = rN (gO g) → zFd S0 U → (∀ k, k < t → U.1 12 k = iI (p.getD k 0 : Nat)) → U.1 12 t = iI l → U.1 14 t = iI (pEnc t (pTog (gO g) (gS g) p) (pFd (gO g) m t (pDelL (gO g) (gS g) p) left l)) → ∃ c V, c ≤ d * (2 + pB m) ∧ (∀ f, X9_duel_l74 (f + c + 1) (iI tn) (iI t) U = X9_duel_b127 (X9_duel_l74 f) (iI tn) (iI t) V) ∧ zFd S0 V ∧ (∀ k, k < t → V.1 12 k = U.1 12 k) ∧ V.1 12 t = iI (rN (gO g)) ∧ (∀ k, k < t → V.1 14 k = U.1 14 k) ∧ V.1 14 t = iI (pEnc t (pTog (gO g) (gS g) p) (pFd (gO g) m t (pDelL (gO g) (gS g) p) left (rN (gO g))))
theorem lv_act {S0 : zMem} {g : pSig} {tn m t left : Nat} {p : List Nat} (hg : pWf g) (hR : RM S0 g) (hT : tn ≤ 6) (htn : t < tn) (hpb : ∀ k, k < t → p.getD k 0 < 6) (hleft : ∀ l, l < rN (gO g) → (left.testBit l = true ↔ (sC (gS g)).testBit l = false ∧ ∀ k, k < t → p.getD k 0 ≠ l)) (ha : actM S0 g tn m t p left) : lvM S0 g tn m t p left := by
  have hN := hg.o.2.1
  intro d
  induction d using Nat.strongRecOn with
  | _ d ih =>
    intro l U hd hU hp h12 h14
    obtain ⟨l2, V, a1, a2, a3, a4, a5, a6, a7, a8, a9⟩ := passFree_M (x3 := iI tn) hg hR (show t < 6 by omega) hU (by omega) hp hpb hleft h12
    have e74 : ∀ f, X9_duel_l74 (f + 1) (iI tn) (iI t) U = X9_duel_b127 (X9_duel_l74 f) (iI tn) (iI t) V := by
      intro f
      rw [X9_duel_l74, X9_duel_b74, lit_0]
      simp (disch := omega) only [iI_le, iI_lt]
      rw [if_neg (by omega), if_neg (by omega)]
      exact a9 _
    have eF := pFd_skip (o := gO g) (m := m) (t := t) (s := pDelL (gO g) (gS g) p) a1 a4
    by_cases hl2 : l2 = rN (gO g)
    · subst hl2
      exact ⟨0, V, Nat.zero_le _, e74, a5, fun k hk => a7 k (by omega), a6, fun k hk => by rw [a8], by rw [a8, h14, eF]⟩
    · obtain ⟨c1, X, b1, b2, b3, b4, b5, b6, b7⟩ := ha l2 (by omega) (a3 (by omega)) V a5 (fun k hk => by rw [a7 k (by omega)]; exact hp k hk) a6 (by rw [a8, h14, eF])
      obtain ⟨c2, Y, y1, y2, y3, y4, y5, y6, y7⟩ := ih (rN (gO g) - (l2 + 1)) (by omega) (l2 + 1) X (by omega) b3 (fun k hk => by rw [b4 k hk, a7 k (by omega)]; exact hp k hk) b5 b7
      refine ⟨c2 + 1 + c1, Y, ?_, fun f => ?_, y3, fun k hk => by rw [y4 k hk, b4 k hk, a7 k (by omega)], y5, fun k hk => by rw [y6 k hk, b6 k hk, a8], y7⟩
      · have h1 : (rN (gO g) - (l2 + 1) + 1) * (2 + pB m) ≤ d * (2 + pB m) := Nat.mul_le_mul_right _ (by omega)
        rw [Nat.succ_mul] at h1
        omega
      · rw [e74, show f + (c2 + 1 + c1) = f + c2 + 1 + c1 by omega, b2, y2]
theorem act_0 {S0 : zMem} {g : pSig} {tn t left : Nat} {p : List Nat} (hg : pWf g) (hR : RM S0 g) (hT : tn ≤ 6) (htn : t + 1 = tn) (hpl : p.length = t) (hpN : ∀ l ∈ p, l < rN (gO g)) : actM S0 g tn 0 t p left := by
  have hN := hg.o.2.1
  intro l hl hb W hW hp h12 h14
  have hRW := zFd_R hW hg hR
  have hs := pDelL_ok hg.o p (gS g) hg.ok hpN
  have hA := pTog_le hg.o p (gS g) hg.ok hpN
  have hE := pEnd_le hg.o hs hl
  have hF := pFd_le (m := 0) (t := t) (left := left) hg.o hs l (by omega)
  have hin : ∀ x ∈ p ++ [l], x < rN (gO g) := by
    intro x hx
    rcases List.mem_append.mp hx with h | h
    · exact hpN x h
    · rcases List.mem_singleton.mp h with rfl
      exact hl
  have hlen : (p ++ [l]).length = tn := by
    rw [List.length_append, hpl]
    exact htn
  have hli : lnIs W 12 (p ++ [l]) := by
    intro k hk
    rw [getD_snoc (by omega)]
    by_cases hkp : k = p.length
    · rw [if_pos hkp, hkp, hpl]
      exact h12
    · rw [if_neg hkp]
      exact hp k (by omega)
  have het := endTogether_M hg hRW hin (by omega) hli
  rw [hlen] at het
  obtain ⟨T1, t1, t2, t3⟩ := het
  rw [pTog_snoc] at t1
  have hT1 : zFd S0 T1 := zFd_t hW ⟨fun c h1 h2 h3 h4 => t2.1 c h1, t2.2.1, t2.2.2⟩
  have hbt := better_M (t := t) (a := pEnc t (pTog (gO g) (gS g) p) (pFd (gO g) 0 t (pDelL (gO g) (gS g) p) left l)) (b := ((pTog (gO g) (gS g) p + pEnd (gO g) (pDelL (gO g) (gS g) p) l : Nat) : Int)) T1 (by omega) (enc_b (by omega) (by omega) hF).1 (enc_b (by omega) (by omega) hF).2 (by omega) (by omega)
  rw [enc_better (by omega) (show 9 * (0 + 1) ≤ 1000 by omega) hE hF] at hbt
  obtain ⟨T2, w1, w2, w3, w4, w5⟩ := wr T1 14 t (iI (pEnc t (pTog (gO g) (gS g) p) (pCmb t (pFd (gO g) 0 t (pDelL (gO g) (gS g) p) left l) (pEnd (gO g) (pDelL (gO g) (gS g) p) l))))
  have e12 : T2.1 12 t = iI l := by rw [w4 12 (by omega), t2.1 12 (by omega), h12]
  obtain ⟨T3, x1, x2, x3, x4, x5⟩ := wr T2 12 t (iI ((l + 1 : Nat) : Int))
  refine ⟨0, T3, Nat.zero_le _, fun f => ?_, zFd_t hT1 (zFd_t (zFd_w (Or.inr rfl) w4 w5) (zFd_w (Or.inl rfl) x4 x5)), fun k hk => by rw [x3 k (by omega), w4 12 (by omega), t2.1 12 (by omega)], x2, fun k hk => by rw [x4 14 (by omega), w3 k (by omega), t2.1 14 (by omega)], ?_⟩
  · simp (disch := omega) only [X9_duel_b127, zi_I, zc_true, zl_e, iI_cln, h12, hRW.o.2.1, eqn, lit_1, iI_sub, iI_eq]
    rw [if_neg (by omega), if_pos (by omega), h14, t1]
    simp only [zb_some, hbt, w1]
    rw [e12, iI_add, show ((l : Int) + 1) = ((l + 1 : Nat) : Int) from rfl, x1]
    rfl
  · rw [x4 14 (by omega), w2, pFd_s hb]
    rfl
theorem act_s {S0 : zMem} {g : pSig} {tn m t left : Nat} {p : List Nat} (hg : pWf g) (hR : RM S0 g) (hT : tn ≤ 6) (htn : t + (m + 2) = tn) (hpl : p.length = t) (hpN : ∀ l ∈ p, l < rN (gO g)) (h64 : left < 64) (hlN : left < 2 ^ rN (gO g)) (hpop : m + 2 ≤ pPop left) (ih : ∀ l, l < rN (gO g) → left.testBit l = true → lvM S0 g tn m (t + 1) (p ++ [l]) (pRem left l)) : actM S0 g tn (m + 1) t p left := by
  have hN := hg.o.2.1
  intro l hl hb W hW hp h12 h14
  have hRW := zFd_R hW hg hR
  have hs := pDelL_ok hg.o p (gS g) hg.ok hpN
  have hA := pTog_le hg.o p (gS g) hg.ok hpN
  have hE := pEnd_le hg.o hs hl
  have hF := pFd_le (m := m + 1) (t := t) (left := left) hg.o hs l (by omega)
  have hD := pDv_le hg.o (m + 1) (t + 1) (pDel (gO g) (pDelL (gO g) (gS g) p) l) (pRem left l) (pDel_ok hg.o hs hl)
  have hrp := rem_pop left h64 l (by omega) hb
  have hr64 := rem_64 left h64 l (by omega)
  have hrN : pRem left l < 2 ^ rN (gO g) := by
    rw [pRem, if_pos hb]
    exact Nat.lt_of_le_of_lt (Nat.sub_le _ _) hlN
  obtain ⟨T1, t1, t2, t3, t4, t5, t6⟩ := beginTurn_M (t := t + 1) W (by omega)
  obtain ⟨c2, V, v1, v2, v3, v4, v5, v6, v7⟩ := ih l hl hb (rN (gO g)) 0 T1 (by omega) (zFd_t hW t2) (fun k hk => by
    rw [t4 k (by omega), getD_snoc (by omega)]
    by_cases hkp : k = p.length
    · rw [if_pos hkp, hkp, hpl]
      exact h12
    · rw [if_neg hkp]
      exact hp k (by omega)) t3 (t5 _)
  rw [pTog_snoc, pDelL_snoc] at v7
  -- what the turns behind came to
  have hval : V.1 14 (t + 1) = iI ((pTog (gO g) (gS g) p + (pEnd (gO g) (pDelL (gO g) (gS g) p) l + pDv (gO g) (m + 1) (t + 1) (pDel (gO g) (pDelL (gO g) (gS g) p) l) (pRem left l)) : Nat) : Int) := by
    rw [v7]
    have hdv : pDv (gO g) (m + 1) (t + 1) (pDel (gO g) (pDelL (gO g) (gS g) p) l) (pRem left l) = (pFd (gO g) m (t + 1) (pDel (gO g) (pDelL (gO g) (gS g) p) l) (pRem left l) (rN (gO g))).getD 0 := rfl
    obtain ⟨l0, hl0, hb0⟩ := bit_below hr64 hrN (fun q => by
      have := (pop_0 _ hr64).mpr q
      omega)
    obtain ⟨w, hw⟩ := Option.isSome_iff_exists.mp (fold_some (t := t + 1) (F := fun l2 => pEnd (gO g) (pDel (gO g) (pDelL (gO g) (gS g) p) l) l2 + pDv (gO g) m (t + 1 + 1) (pDel (gO g) (pDel (gO g) (pDelL (gO g) (gS g) p) l) l2) (pRem (pRem left l) l2)) hb0 (rN (gO g)) hl0)
    have hw' : pFd (gO g) m (t + 1) (pDel (gO g) (pDelL (gO g) (gS g) p) l) (pRem left l) (rN (gO g)) = some w := hw
    rw [hdv, hw']
    show iI ((pTog (gO g) (gS g) p + pEnd (gO g) (pDelL (gO g) (gS g) p) l + w : Nat) : Int) = iI ((pTog (gO g) (gS g) p + (pEnd (gO g) (pDelL (gO g) (gS g) p) l + w) : Nat) : Int)
    rw [Nat.add_assoc]
  generalize hw : pEnd (gO g) (pDelL (gO g) (gS g) p) l + pDv (gO g) (m + 1) (t + 1) (pDel (gO g) (pDelL (gO g) (gS g) p) l) (pRem left l) = w at hval
  have hw9 : w ≤ 9 * (m + 1 + 1) := by omega
  have hbt := better_M (t := t) (a := pEnc t (pTog (gO g) (gS g) p) (pFd (gO g) (m + 1) t (pDelL (gO g) (gS g) p) left l)) (b := ((pTog (gO g) (gS g) p + w : Nat) : Int)) V (by omega) (enc_b (by omega) (by omega) hF).1 (enc_b (by omega) (by omega) hF).2 (by omega) (by omega)
  rw [enc_better (by omega) (show 9 * (m + 1 + 1) ≤ 1000 by omega) hw9 hF] at hbt
  have hRV := zFd_R v3 hg hR
  have e12 : V.1 12 t = iI l := by rw [v4 t (by omega), t4 t (by omega), h12]
  have e14 : V.1 14 t = iI (pEnc t (pTog (gO g) (gS g) p) (pFd (gO g) (m + 1) t (pDelL (gO g) (gS g) p) left l)) := by rw [v6 t (by omega), t6 t (by omega), h14]
  obtain ⟨T2, w1, w2, w3, w4, w5⟩ := wr V 14 t (iI (pEnc t (pTog (gO g) (gS g) p) (pCmb t (pFd (gO g) (m + 1) t (pDelL (gO g) (gS g) p) left l) w)))
  have f12 : T2.1 12 t = iI l := by rw [w4 12 (by omega), e12]
  obtain ⟨T3, x1, x2, x3, x4, x5⟩ := wr T2 12 t (iI ((l + 1 : Nat) : Int))
  refine ⟨c2 + 1, T3, ?_, fun f => ?_, zFd_t v3 (zFd_t (zFd_w (Or.inr rfl) w4 w5) (zFd_w (Or.inl rfl) x4 x5)), fun k hk => by rw [x3 k (by omega), w4 12 (by omega), v4 k (by omega), t4 k (by omega)], x2, fun k hk => by rw [x4 14 (by omega), w3 k (by omega), v6 k (by omega), t6 k (by omega)], ?_⟩
  · have h1 : rN (gO g) * (2 + pB m) ≤ 6 * (2 + pB m) := Nat.mul_le_mul_right _ hN
    show c2 + 1 ≤ 1 + 6 * (2 + pB m)
    omega
  · have go : X9_duel_b127 (X9_duel_l74 (f + (c2 + 1))) (iI tn) (iI t) W = X9_duel_l74 (f + c2 + 1) (iI tn) (iI ((t + 1 : Nat) : Int)) T1 := by
      simp (disch := omega) only [X9_duel_b127, zi_I, zc_true, zl_e, iI_cln, h12, hRW.o.2.1, eqn, lit_1, iI_sub, iI_eq, iI_add]
      rw [if_neg (by omega), if_neg (by omega), show ((t : Int) + 1) = ((t + 1 : Nat) : Int) from rfl, t1]
      rfl
    rw [go, v2]
    simp (disch := omega) only [X9_duel_b127, X9_duel_b202, zi_I, zc_true, zl_e, iI_cln, v5, hRV.o.2.1, if_true]
    rw [show iI ((t + 1 : Nat) : Int) + (-1 : Int32) = iI (t : Int) by rw [litm_1, iI_add]; congr 1; omega, lit_0]
    simp (disch := omega) only [iI_lt, zi_I, zc_true, iI_cln]
    rw [if_neg (by omega), hval, e14, hbt]
    simp only [zb_some, w1]
    rw [f12, lit_1, iI_add, show ((l : Int) + 1) = ((l + 1 : Nat) : Int) from rfl, x1]
  · rw [x4 14 (by omega), w2, pFd_s hb, hw]
theorem lv_M {S0 : zMem} {g : pSig} {tn : Nat} (hg : pWf g) (hR : RM S0 g) (hT : tn ≤ 6) : ∀ (m t : Nat) (p : List Nat) (left : Nat), t + (m + 1) = tn → p.length = t → (∀ l ∈ p, l < rN (gO g)) → left < 64 → left < 2 ^ rN (gO g) → m + 1 ≤ pPop left → (∀ l, l < rN (gO g) → (left.testBit l = true ↔ (sC (gS g)).testBit l = false ∧ ∀ k, k < t → p.getD k 0 ≠ l)) → lvM S0 g tn m t p left := by
  have hN := hg.o.2.1
  have hpb : ∀ (t : Nat) (p : List Nat), p.length = t → (∀ l ∈ p, l < rN (gO g)) → ∀ k, k < t → p.getD k 0 < 6 := by
    intro t p hpl hpN k hk
    have h1 : k < p.length := by omega
    have : p.getD k 0 = p[k] := by simp [h1]
    rw [this]
    have := hpN _ (List.getElem_mem h1)
    omega
  intro m
  induction m with
  | zero => exact fun t p left htn hpl hpN h64 hlN hpop hleft => lv_act hg hR hT (by omega) (hpb t p hpl hpN) hleft (act_0 hg hR hT (by omega) hpl hpN)
  | succ m ih =>
    intro t p left htn hpl hpN h64 hlN hpop hleft
    refine lv_act hg hR hT (by omega) (hpb t p hpl hpN) hleft (act_s hg hR hT (by omega) hpl hpN h64 hlN (by omega) (fun l hl hb => ?_))
    have hrp := rem_pop left h64 l (by omega) hb
    refine ih (t + 1) (p ++ [l]) (pRem left l) (by omega) (by rw [List.length_append, hpl]; rfl) (fun x hx => ?_) (rem_64 left h64 l (by omega)) ?_ (by omega) (fun k hk => ?_)
    · rcases List.mem_append.mp hx with h | h
      · exact hpN x h
      · rcases List.mem_singleton.mp h with rfl
        exact hl
    · rw [pRem, if_pos hb]
      exact Nat.lt_of_le_of_lt (Nat.sub_le _ _) hlN
    · rw [rem_bit left h64 l (by omega) k (by omega), Bool.and_eq_true, decide_eq_true_iff, hleft k hk]
      constructor
      · rintro ⟨⟨h1, h2⟩, h3⟩
        refine ⟨h1, fun j hj => ?_⟩
        rw [getD_snoc (by omega)]
        by_cases hjp : j = p.length
        · rw [if_pos hjp]
          exact fun q => h3 q.symm
        · rw [if_neg hjp]
          exact h2 j (by omega)
      · rintro ⟨h1, h2⟩
        refine ⟨⟨h1, fun j hj => ?_⟩, fun q => ?_⟩
        · have := h2 j (by omega)
          rw [getD_snoc (by omega), if_neg (by omega)] at this
          exact this
        · have := h2 t (by omega)
          rw [getD_snoc (by omega), if_pos (by omega)] at this
          exact this q.symm
theorem pB_lt : ∀ m, m < 6 → 6 * (2 + pB m) < 900000 := by decide
theorem duel_M (x : Int32) : okM (f_X9_duel x) (qDuel x) := by
  intro S g hg hR
  have hN := hg.o.2.1
  have hp := pow_7 hN
  have c64 := hg.ok.c64 hg.o
  have cN := hg.ok.2.2.2.1
  have l64 := left_64 (rN (gO g)) (by omega) (sC (gS g))
  have lp := left_pop (rN (gO g)) (by omega) _ c64 cN
  unfold qDuel
  simp only [f_X9_duel, X9_duel_b0, zl_e]
  cases hx : pIn x 4 with
  | none =>
    rw [min_in_f (n := 3) (m := 3) (by decide) hx (by omega)]
    simp only [zb_some, zero_0, if_true]
    exact ⟨S, rfl, hR⟩
  | some n =>
    obtain ⟨rfl, hn⟩ := pIn_some hx
    rw [min_in_t (n := 3) (m := 3) (by decide) (show n ≤ 3 by omega) (by omega)]
    simp only [zb_some, one_0, if_false, mposted hg hR]
    by_cases h0 : rN (gO g) = 0
    · rw [if_pos h0, if_pos h0]
      exact ⟨S, rfl, hR⟩
    · rw [if_neg h0, if_neg h0]
      have e5 : S.1 1 (Int32.toNatClampNeg (5 : Int32)) = iI (sC (gS g)) := hR.s.2.2.2.2.1
      rw [z5, zc_true, e5, bits_eq c64, hR.o.2.1]
      simp only [zb_some, lit_2, iI_sub, iI_mul]
      simp (disch := omega) only [iI_le]
      -- the number of turns
      have main : ∀ tn : Nat, tn ≤ 6 → tn ≤ pPop (pLeft (rN (gO g)) (sC (gS g))) → pDv (gO g) (2 * n) 0 (gS g) (pLeft (rN (gO g)) (sC (gS g))) = pDv (gO g) tn 0 (gS g) (pLeft (rN (gO g)) (sC (gS g))) → ∃ S1, X9_duel_b53 (iI (tn : Int)) S = some (1, S1) ∧ RM S1 (qTell (iI (pDv (gO g) (2 * n) 0 (gS g) (pLeft (rN (gO g)) (sC (gS g))))) g).2 := by
        intro tn h6 hpop hdv
        rw [hdv]
        obtain ⟨T0, w1, w2, w3, w4, w5⟩ := wr S 14 6 (0 : Int32)
        have hT0 : zFd S T0 := zFd_w (Or.inr rfl) w4 w5
        have tell : ∀ (V : zMem) (z : Nat), zFd S V → V.1 14 6 = iI (z : Int) → ∃ S1, X9_duel_b263 V = some (1, S1) ∧ RM S1 (qTell (iI (z : Int)) g).2 := by
          intro V z h1 h2
          obtain ⟨S1, a1, a2⟩ := tell_M (iI (z : Int)) (zFd_R h1 hg hR)
          have h2' : V.1 14 (Int32.toNatClampNeg (6 : Int32)) = iI (z : Int) := h2
          rw [X9_duel_b263, show zi (6 : Int32) 7 = true from rfl, zc_true, zl_e, h2']
          exact ⟨S1, a1, a2⟩
        rw [X9_duel_b53, show zi (6 : Int32) 7 = true from rfl, zc_true, zl_e, show Int32.toNatClampNeg (6 : Int32) = 6 from rfl, w1]
        rcases Nat.eq_zero_or_pos tn with htn | htn
        · subst htn
          rw [if_pos (show iI ((0 : Nat) : Int) ≤ 0 by decide)]
          obtain ⟨f, hf⟩ : ∃ f, zF = f + 1 := ⟨zF - 1, by have := zF_gt (n := 1) (by omega); omega⟩
          rw [hf, X9_duel_l74, X9_duel_b74, if_pos (show iI ((0 : Nat) : Int) ≤ 0 by decide)]
          exact tell T0 0 hT0 w2
        · rw [if_neg (show ¬ iI (tn : Int) ≤ (0 : Int32) from fun q => by have := (iI_le (b := 0) (by omega) (by omega) (by omega) (by omega)).mp q; omega)]
          obtain ⟨m, hm⟩ : ∃ m, tn = m + 1 := ⟨tn - 1, by omega⟩
          obtain ⟨T1, t1, t2, t3, t4, t5, t6⟩ := beginTurn_M (t := 0) T0 (by omega)
          have t1' : f_X9_beginTurn (0 : Int32) T0 = some ((), T1) := t1
          rw [t1']
          simp only [zb_some]
          have hlv := lv_M hg hR h6 m 0 [] (pLeft (rN (gO g)) (sC (gS g))) (by omega) rfl (fun l hl => by cases hl) l64 (by unfold pLeft; omega) (by omega) (fun l hl => by
            rw [left_bit _ (by omega) _ c64 cN l (by omega) hl]
            constructor
            · intro q
              exact ⟨by simpa using q, fun k hk => by omega⟩
            · rintro ⟨q, _⟩
              rw [q]
              rfl)
          obtain ⟨c, V, v1, v2, v3, v4, v5, v6, v7⟩ := hlv (rN (gO g)) 0 T1 (by omega) (zFd_t hT0 t2) (fun k hk => by omega) t3 (t5 _)
          have hcb : c < 900000 := by
            have h1 : rN (gO g) * (2 + pB m) ≤ 6 * (2 + pB m) := Nat.mul_le_mul_right _ hN
            have h2 := pB_lt m (by omega)
            omega
          obtain ⟨f, hf⟩ : ∃ f, zF = f + 1 + c + 1 := ⟨zF - c - 2, by have := zF_gt (n := c + 2) (by omega); omega⟩
          have v2' := v2 (f + 1)
          have v2'' : X9_duel_l74 (f + 1 + c + 1) (iI tn) (0 : Int32) T1 = X9_duel_b127 (X9_duel_l74 (f + 1)) (iI tn) (0 : Int32) V := v2'
          rw [hf, v2'']
          have hRV := zFd_R v3 hg hR
          have e12 : V.1 12 (Int32.toNatClampNeg (0 : Int32)) = iI (rN (gO g)) := v5
          rw [X9_duel_b127, show zi (0 : Int32) 6 = true from rfl, show zi (0 : Int32) 7 = true from rfl, zc_true, zl_e, zl_e, e12, hRV.o.2.1, if_pos rfl, zc_true, zl_e, zl_e, if_pos (show (0 : Int32) + (-1) < 0 by decide), show zi (6 : Int32) 7 = true from rfl, zc_true, zl_e, show Int32.toNatClampNeg (6 : Int32) = 6 from rfl]
          obtain ⟨Y, y1, y2, y3, y4, y5⟩ := wr V 14 6 (V.1 14 (Int32.toNatClampNeg (0 : Int32)))
          rw [y1, X9_duel_b202, X9_duel_l74, X9_duel_b74, if_neg (show ¬ iI (tn : Int) ≤ (0 : Int32) from fun q => by have := (iI_le (b := 0) (by omega) (by omega) (by omega) (by omega)).mp q; omega), if_pos (show (0 : Int32) + (-1) < 0 by decide)]
          refine tell Y _ (zFd_t v3 (zFd_w (Or.inr rfl) y4 y5)) ?_
          rw [y2]
          have v7' : V.1 14 (Int32.toNatClampNeg (0 : Int32)) = _ := v7
          rw [v7']
          have hdv2 : pDv (gO g) tn 0 (gS g) (pLeft (rN (gO g)) (sC (gS g))) = (pFd (gO g) m 0 (gS g) (pLeft (rN (gO g)) (sC (gS g))) (rN (gO g))).getD 0 := by
            rw [hm]
            rfl
          obtain ⟨l0, hl0, hb0⟩ := bit_below l64 (show pLeft (rN (gO g)) (sC (gS g)) < 2 ^ rN (gO g) by unfold pLeft; omega) (fun q => by
            have := (pop_0 _ l64).mpr q
            omega)
          obtain ⟨w, hw⟩ := Option.isSome_iff_exists.mp (fold_some (t := 0) (F := fun l2 => pEnd (gO g) (gS g) l2 + pDv (gO g) m (0 + 1) (pDel (gO g) (gS g) l2) (pRem (pLeft (rN (gO g)) (sC (gS g))) l2)) hb0 (rN (gO g)) hl0)
          have hw' : pFd (gO g) m 0 (gS g) (pLeft (rN (gO g)) (sC (gS g))) (rN (gO g)) = some w := hw
          rw [hdv2, hw']
          show iI (pEnc 0 0 (pFd (gO g) m 0 (gS g) (pLeft (rN (gO g)) (sC (gS g))) (rN (gO g)))) = _
          rw [hw']
          show iI ((0 + w : Nat) : Int) = iI (w : Int)
          rw [Nat.zero_add]
      by_cases hle : (rN (gO g) : Int) - (pPop (sC (gS g)) : Int) ≤ 2 * (n : Int)
      · rw [if_pos hle, show (rN (gO g) : Int) - (pPop (sC (gS g)) : Int) = ((pPop (pLeft (rN (gO g)) (sC (gS g))) : Nat) : Int) by omega]
        exact main _ (by omega) (Nat.le_refl _) (pDv_cap hg.o _ _ _ _ l64 (by omega))
      · rw [if_neg hle, show 2 * (n : Int) = ((2 * n : Nat) : Int) by omega]
        exact main _ (by omega) (by omega) rfl
