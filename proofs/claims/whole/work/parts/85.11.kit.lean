/-! loops, by the number of their steps -/
theorem zforR {β : Type} {F : Nat → Nat → β} {R : Nat → β} {n : Nat} (hs : ∀ f i, i < n → F f (i + 1) = R (i + 1) → F (f + 1) i = R i) (he : ∀ f, F (f + 1) n = R n) {fuel : Nat} (hf : n < fuel) : F fuel 0 = R 0 := by
  have key : ∀ m i fuel, i + m = n → m < fuel → F fuel i = R i := by
    intro m
    induction m with
    | zero =>
      intro i fuel hi hf
      obtain ⟨f, rfl⟩ : ∃ f, fuel = f + 1 := ⟨fuel - 1, by omega⟩
      have e : i = n := by omega
      subst e
      exact he f
    | succ m ih =>
      intro i fuel hi hf
      obtain ⟨f, rfl⟩ : ∃ f, fuel = f + 1 := ⟨fuel - 1, by omega⟩
      exact hs f i (by omega) (ih (i + 1) f (by omega) (by omega))
  exact key n 0 fuel (by omega) hf
theorem zfor {β : Type} {F : Nat → Nat → β} {r : β} {n : Nat} (hs : ∀ f i, i < n → F (f + 1) i = F f (i + 1)) (he : ∀ f, F (f + 1) n = r) {fuel : Nat} (hf : n < fuel) : F fuel 0 = r :=
  zforR (R := fun _ => r) (fun f i hi e => (hs f i hi).trans e) he hf
theorem zforI {α β : Type} {F : Nat → Nat → α → β} {P : Nat → α → Prop} {Q : β → Prop} {n : Nat} (hs : ∀ f i a, i < n → P i a → (∃ b, P (i + 1) b ∧ F (f + 1) i a = F f (i + 1) b) ∨ Q (F (f + 1) i a)) (he : ∀ f a, P n a → Q (F (f + 1) n a)) {fuel : Nat} (hf : n < fuel) {a : α} (ha : P 0 a) : Q (F fuel 0 a) := by
  have key : ∀ m i fuel a, i + m = n → m < fuel → P i a → Q (F fuel i a) := by
    intro m
    induction m with
    | zero =>
      intro i fuel a hi hf ha
      obtain ⟨f, rfl⟩ : ∃ f, fuel = f + 1 := ⟨fuel - 1, by omega⟩
      have e : i = n := by omega
      subst e
      exact he f a ha
    | succ m ih =>
      intro i fuel a hi hf ha
      obtain ⟨f, rfl⟩ : ∃ f, fuel = f + 1 := ⟨fuel - 1, by omega⟩
      rcases hs f i a (by omega) ha with ⟨b, hb, e⟩ | h
      · rw [e]
        exact ih (i + 1) f b (by omega) (by omega) hb
      · exact h
  exact key n 0 fuel a (by omega) hf ha
theorem tn_add {a b : Int} (h1 : 0 ≤ a) (h2 : 0 ≤ b) : (a + b).toNat = a.toNat + b.toNat := by omega
theorem tn_lit (n : Nat) : (OfNat.ofNat (n + 2) : Int).toNat = n + 2 := rfl
theorem upd_ne {f : Nat → Int32} {k j : Nat} {x : Int32} (h : j ≠ k) : upd f k x j = f j := by rw [upd_at, if_neg h]
theorem upd_eq {f : Nat → Int32} {k : Nat} {x : Int32} : upd f k x k = x := by rw [upd_at, if_pos rfl]
theorem up_ne {α : Type} {f : Nat → α} {k j : Nat} {x : α} (h : j ≠ k) : va_up f k x j = f j := by unfold va_up; rw [if_neg h]
theorem up_eq {α : Type} {f : Nat → α} {k : Nat} {x : α} : va_up f k x k = x := by unfold va_up; rw [if_pos rfl]
/-! blocks of the long row, copied -/
def cpb (S : zMem) (a b m : Nat) : zMem := zp S 1 (fun q => if b ≤ q ∧ q < b + m then S.1 1 (a + (q - b)) else S.1 1 q)
theorem cpb_0 (S : zMem) (a b : Nat) : cpb S a b 0 = S := by
  unfold cpb
  refine Prod.ext (funext fun q => ?_) rfl
  by_cases h : q = 1
  · subst h
    rw [zp_eq]
    funext k
    rw [if_neg (by omega)]
  · rw [zp_ne h]
theorem cpb_s {S : zMem} {a b m : Nat} (h : a + m < b ∨ b + m ≤ a + m) : zp (cpb S a b m) 1 (upd ((cpb S a b m).1 1) (b + m) ((cpb S a b m).1 1 (a + m))) = cpb S a b (m + 1) := by
  unfold cpb
  refine Prod.ext (funext fun q => ?_) rfl
  by_cases hq : q = 1
  · subst hq
    rw [zp_eq, zp_eq, zp_eq]
    funext k
    rw [upd_at]
    by_cases h1 : k = b + m
    · rw [if_pos h1, if_neg (by omega), if_pos (by omega)]
      exact congrArg (S.1 1) (by omega)
    · rw [if_neg h1]
      by_cases h2 : b ≤ k ∧ k < b + m
      · rw [if_pos h2, if_pos (by omega)]
      · rw [if_neg h2, if_neg (by omega)]
  · rw [zp_ne hq, zp_ne hq, zp_ne hq]
theorem cpb_in {S : zMem} {a b m k : Nat} (h : k < m) : (cpb S a b m).1 1 (b + k) = S.1 1 (a + k) := by
  unfold cpb
  rw [zp_eq, if_pos (by omega)]
  exact congrArg (S.1 1) (by omega)
theorem cpb_out {S : zMem} {a b m q : Nat} (h : q < b ∨ b + m ≤ q) : (cpb S a b m).1 1 q = S.1 1 q := by
  unfold cpb
  rw [zp_eq, if_neg (by omega)]
theorem cpb_ne {S : zMem} {a b m c : Nat} (h : c ≠ 1) : (cpb S a b m).1 c = S.1 c := zp_ne h
theorem cpb_2 {S : zMem} {a b m : Nat} : (cpb S a b m).2 = S.2 := rfl
theorem layTried_eq (S : zMem) : f_X9_layTried S = some ((), cpb S 0 2792 18) := by
  have h := zfor (F := fun f i => X9_layTried_l2 f (iI (i : Nat)) (cpb S 0 2792 i)) (r := some ((), cpb S 0 2792 18)) (n := 18) (fun f i hi => ?_) (fun f => ?_) (zF_gt (n := 18) (Nat.le_of_ble_eq_true rfl))
  · rw [cpb_0] at h
    exact h
  · simp (disch := omega) only [X9_layTried_b2, X9_layTried_l2, X9_layTried_b0, f_X9_layTried, lit_18, iI_le]
    rw [if_neg (by omega)]
    simp (disch := omega) only [zl_e, lit_2792, lit_1, iI_add, zi_I, zc_true, iI_cl, tn_add, tn_cast]
    have e := cpb_s (S := S) (a := 0) (b := 2792) (m := i) (Or.inl (by omega))
    rw [Nat.zero_add] at e
    rw [show (2792 : Int).toNat = 2792 from rfl, e]
    rfl
  · simp (disch := omega) only [X9_layTried_b2, X9_layTried_l2, X9_layTried_b0, f_X9_layTried, lit_18, iI_le]
    rw [if_pos (by omega)]
theorem sMo.mv {S S1 : zMem} {p p1 : Nat} {o : pRoad} {s : pSt} (ho : pRok o) (h : sMo S p o s) (hc : ∀ k, k < 17 → S1.1 1 (p1 + k) = S.1 1 (p + k)) : sMo S1 p1 o s := by
  obtain ⟨a1, a2, a3, a4, a5, a6, a7⟩ := h
  have hH := ho.1
  have hN := ho.2.1
  refine ⟨(hc 0 (by omega)).trans a1, (hc 1 (by omega)).trans a2, (hc 2 (by omega)).trans a3, (hc 3 (by omega)).trans a4, (hc 4 (by omega)).trans a5, fun h hh => ?_, fun l hl hb => ?_⟩
  · have e := hc (5 + h) (by omega)
    rw [← Nat.add_assoc, ← Nat.add_assoc] at e
    exact e.trans (a6 h hh)
  · have e := hc (11 + l) (by omega)
    rw [← Nat.add_assoc, ← Nat.add_assoc] at e
    exact e.trans (a7 l hl hb)
theorem nM.mv {S S1 : zMem} {B B1 : Nat} {o : pRoad} {ds : pDs} (ho : pRok o) (hd : ds.length ≤ 40) (h : nM S B o ds) (hc : ∀ k, k < 698 → S1.1 1 (B1 + k) = S.1 1 (B + k)) : nM S1 B1 o ds := by
  obtain ⟨a1, a2, a3⟩ := h
  refine ⟨(hc 0 (by omega)).trans a1, a2.mv ho (fun k hk => ?_), fun i hi => (a3 i hi).mv ho (fun k hk => ?_)⟩
  · rw [Nat.add_assoc, Nat.add_assoc]
    exact hc (1 + k) (by omega)
  · rw [show B1 + 18 + 17 * i + k = B1 + (18 + 17 * i + k) by omega, show B + 18 + 17 * i + k = B + (18 + 17 * i + k) by omega]
    exact hc (18 + 17 * i + k) (by omega)
/-! the reference changes its long row from 2792 on alone -/
theorem RM.tried {S S1 : zMem} {g : pSig} (hg : pWf g) (h : RM S g) (h1 : ∀ c, c ≠ 1 → S1.1 c = S.1 c) (h2 : S1.2 = S.2) (hq : ∀ q, q < 2792 → S1.1 1 q = S.1 1 q) : RM S1 g := by
  obtain ⟨a1, a2, a3, a4, a5, a6⟩ := h
  have e0 := h1 0 (by omega)
  have ho := hg.2.2.1
  exact ⟨a1.cg (by rw [e0]) (by rw [e0]) (by rw [h2]) (h1 9 (by omega)), a2.cg (h1 5 (by omega)) (h1 6 (by omega)), a3.cg (h1 7 (by omega)) (h1 8 (by omega)), a4.cg (by rw [e0]) (by rw [e0]) (h1 2 (by omega)) (h1 3 (by omega)) (h1 4 (by omega)), a5.cg ho hg.2.2.2.1.1 (fun q x y => hq q (by omega)), a6.cg ho hg.kl (fun q x y => hq q (by omega))⟩
/-- what changes neither road, rows nor posts -/
abbrev gS (g : pSig) : pSt := pRun (gO g) (gD g)
theorem pWf.ok {g : pSig} (h : pWf g) : pSok (gO g) (gS g) := pRun_ok h.2.2.1 h.2.2.2.1.2
theorem pWf.o {g : pSig} (h : pWf g) : pRok (gO g) := h.2.2.1
theorem RC.o {S : zMem} {g : pSig} (h : RC S g) : oC S (gO g) := h.2.2.2.1
theorem RC.s {S : zMem} {g : pSig} (h : RC S g) : sCl S 35 (gO g) (gS g) := h.2.2.2.2.1.1
theorem RC.d {S : zMem} {g : pSig} (h : RC S g) : dCl S 35 (gD g) := h.2.2.2.2.1.2
theorem RM.o {S : zMem} {g : pSig} (h : RM S g) : oM S (gO g) := h.2.2.2.1
theorem RM.n {S : zMem} {g : pSig} (h : RM S g) : nM S 0 (gO g) (gD g) := h.2.2.2.2.1
theorem RM.s {S : zMem} {g : pSig} (h : RM S g) : sMo S 1 (gO g) (gS g) := h.2.2.2.2.1.2.1
/-! is it a house, a letter; is there a post; bits -/
theorem isHouse_t {S : zMem} {o : pRoad} {k : Nat} (ho : pRok o) (h : oC S o) (hk : k < rH o) : f_X8_isHouse (iI k) S = some (1, S) := by
  have hH := ho.1
  simp only [X8_isHouse_b0, f_X8_isHouse, zl_e, h.1, lit_1, iI_sub]
  rw [within_s1 hk (by omega)]
  rfl
theorem isHouse_f {S : zMem} {o : pRoad} {x : Int32} (ho : pRok o) (h : oC S o) (hk : pIn x (rH o) = none) : f_X8_isHouse x S = some (0, S) := by
  have hH := ho.1
  simp only [X8_isHouse_b0, f_X8_isHouse, zl_e, h.1, lit_1, iI_sub]
  rw [within_s hk (by omega)]
  rfl
theorem isLetter_t {S : zMem} {o : pRoad} {k : Nat} (ho : pRok o) (h : oC S o) (hk : k < rN o) : f_X8_isLetter (iI k) S = some (1, S) := by
  have hH := ho.2.1
  simp only [X8_isLetter_b0, f_X8_isLetter, zl_e, h.2.1, lit_1, iI_sub]
  rw [within_s1 hk (by omega)]
  rfl
theorem isLetter_f {S : zMem} {o : pRoad} {x : Int32} (ho : pRok o) (h : oC S o) (hk : pIn x (rN o) = none) : f_X8_isLetter x S = some (0, S) := by
  have hH := ho.2.1
  simp only [X8_isLetter_b0, f_X8_isLetter, zl_e, h.2.1, lit_1, iI_sub]
  rw [within_s hk (by omega)]
  rfl
theorem misHouse_t {S : zMem} {o : pRoad} {k : Nat} (ho : pRok o) (h : oM S o) (hk : k < rH o) : f_X9_isHouse (iI k) S = some (1, S) := by
  have hH := ho.1
  simp only [X9_isHouse_b0, f_X9_isHouse, zl_e, h.1, lit_1, iI_sub]
  rw [lo_0, in_s1 hk (by omega)]
  rfl
theorem misHouse_f {S : zMem} {o : pRoad} {x : Int32} (ho : pRok o) (h : oM S o) (hk : pIn x (rH o) = none) : f_X9_isHouse x S = some (0, S) := by
  have hH := ho.1
  simp only [X9_isHouse_b0, f_X9_isHouse, zl_e, h.1, lit_1, iI_sub]
  rw [lo_0, in_s hk (by omega)]
  rfl
theorem misLetter_t {S : zMem} {o : pRoad} {k : Nat} (ho : pRok o) (h : oM S o) (hk : k < rN o) : f_X9_isLetter (iI k) S = some (1, S) := by
  have hH := ho.2.1
  simp only [X9_isLetter_b0, f_X9_isLetter, zl_e, h.2.1, lit_1, iI_sub]
  rw [lo_0, in_s1 hk (by omega)]
  rfl
theorem misLetter_f {S : zMem} {o : pRoad} {x : Int32} (ho : pRok o) (h : oM S o) (hk : pIn x (rN o) = none) : f_X9_isLetter x S = some (0, S) := by
  have hH := ho.2.1
  simp only [X9_isLetter_b0, f_X9_isLetter, zl_e, h.2.1, lit_1, iI_sub]
  rw [lo_0, in_s hk (by omega)]
  rfl
theorem isPosted_t {S : zMem} {o : pRoad} (ho : pRok o) (h : oC S o) (hk : 0 < rN o) : f_X8_isPosted S = some (1, S) := by
  have hH := ho.2.1
  simp (disch := omega) only [X8_isPosted_b15, X8_isPosted_b0, f_X8_isPosted, zl_e, h.2.1, lit_0, iI_le]
  rw [if_neg (by omega)]
  rfl
theorem isPosted_f {S : zMem} {o : pRoad} (h : oC S o) (hk : ¬ 0 < rN o) : f_X8_isPosted S = some (0, S) := by
  have e : rN o = 0 := by omega
  simp only [X8_isPosted_b15, X8_isPosted_b0, f_X8_isPosted, zl_e, h.2.1, e]
  rfl
theorem mhas_eq {c l : Nat} (hc : c < 64) (hl : l < 6) (S : zMem) : f_X9_has (iI c) (iI l) S = some (if c.testBit l then 1 else 0, S) := by
  simp only [X9_has_b14, X9_has_b0, f_X9_has, zl_e, bitI c hc l hl]
  by_cases h : c.testBit l = true
  · rw [if_pos h]
    rfl
  · rw [if_neg h]
    rfl
theorem arriving_eq {S : zMem} {o : pRoad} {s : pSt} {l b : Nat} (ho : pRok o) (h : oC S o) (hs : sCl S 35 o s) (hk : pSok o s) (hl : l < rN o) (hb : b ≤ 9) : f_X8_arrivingWith (iI l) (iI b) S = some (iI (pMood o (min 9 (sM s + b), s.2) l), S) := by
  obtain ⟨a1, a2, a3, a4, a5, a6, a7⟩ := hs
  have hM := hk.1
  simp only [X8_arrivingWith_b0, f_X8_arrivingWith, zl_e, a2, a3, a4, iI_add]
  rw [X6_moodWithin_eq (by omega) (by omega)]
  simp only [zb_some, a3, a4]
  rw [show max 0 (min 9 ((sM s : Int) + (b : Int))) = ((min 9 (sM s + b) : Nat) : Int) by omega, moodAtDoor_eq ho h hl (by omega) hk.2.2.1 hk.2.1]
  rfl
