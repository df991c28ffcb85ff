/-! THE ABSTRACT STATE, and how the class's memory and the reference's hold it -/
/-- houses, letters, kinds, homes, words, first bonds, first mood, first weather -/
abbrev pRoad : Type := Nat × Nat × (Nat → Nat) × (Nat → Nat) × (Nat → Nat) × (Nat → Nat) × Nat × Nat
abbrev rH (o : pRoad) : Nat := o.1
abbrev rN (o : pRoad) : Nat := o.2.1
abbrev rK (o : pRoad) : Nat → Nat := o.2.2.1
abbrev rD (o : pRoad) : Nat → Nat := o.2.2.2.1
abbrev rW (o : pRoad) : Nat → Nat := o.2.2.2.2.1
abbrev rB (o : pRoad) : Nat → Nat := o.2.2.2.2.2.1
abbrev rM (o : pRoad) : Nat := o.2.2.2.2.2.2.1
abbrev rE (o : pRoad) : Nat := o.2.2.2.2.2.2.2
def pRok (o : pRoad) : Prop := rH o ≤ 6 ∧ rN o ≤ 6 ∧ (∀ l, l < rN o → rK o l ≤ 5 ∧ rD o l < rH o ∧ rW o l ≤ 9) ∧ (∀ h, h < rH o → rB o h ≤ 20) ∧ rM o ≤ 9 ∧ rE o ≤ 2
/-- mood, weather, where he stands, carried (bits), days, bonds, ended -/
abbrev pSt : Type := Nat × Nat × Nat × Nat × Nat × (Nat → Nat) × (Nat → Nat)
abbrev sM (s : pSt) : Nat := s.1
abbrev sE (s : pSt) : Nat := s.2.1
abbrev sP (s : pSt) : Nat := s.2.2.1
abbrev sC (s : pSt) : Nat := s.2.2.2.1
abbrev sD (s : pSt) : Nat := s.2.2.2.2.1
abbrev sB (s : pSt) : Nat → Nat := s.2.2.2.2.2.1
abbrev sX (s : pSt) : Nat → Nat := s.2.2.2.2.2.2
def pMood (o : pRoad) (s : pSt) (l : Nat) : Nat := pWalk (sM s) (pDist (sP s) (rD o l)) (sE s)
def pEnd (o : pRoad) (s : pSt) (l : Nat) : Nat := pW (rK o l) (rW o l) (pMood o s l)
def pDel (o : pRoad) (s : pSt) (l : Nat) : pSt := (pTurn (rK o l) (pEnd o s l) (pMood o s l), sE s, rD o l, sC s ||| 2 ^ l, sD s, va_up (sB s) (rD o l) (pBond (sB s (rD o l)) (pEnd o s l)), va_up (sX s) l (pEnd o s l))
def pDay (s : pSt) : pSt := (sM s, sE s, 0, 0, sD s, sB s, sX s)
def pAct (o : pRoad) (s : pSt) (d : Nat × Nat) : pSt :=
  if d.1 = 0 then (if (sC s).testBit d.2 then s else pDel o s d.2)
  else if d.1 = 1 then (min 9 (sM s + d.2), s.2)
  else if d.1 = 2 then (sM s, d.2, s.2.2)
  else (sM s, sE s, 0, 0, sD s + 1, sB s, sX s)
def pBeg (o : pRoad) : pSt := (rM o, rE o, 0, 0, 0, rB o, fun _ => 0)
def pRun (o : pRoad) (ds : List (Nat × Nat)) : pSt := ds.foldl (pAct o) (pBeg o)
def pDok (o : pRoad) (d : Nat × Nat) : Prop := d.1 ≤ 3 ∧ d.2 ≤ 9 ∧ (d.1 = 0 → d.2 < rN o) ∧ (d.1 = 2 → d.2 ≤ 2)
def pSok (o : pRoad) (s : pSt) : Prop := sM s ≤ 9 ∧ sE s ≤ 2 ∧ sP s ≤ 5 ∧ sC s < 2 ^ rN o ∧ (∀ h, h < rH o → sB s h ≤ 20) ∧ ∀ l, sX s l ≤ 9
/-- what was told: asked, upper, lower, the finding, how often -/
abbrev pTl : Type := Int32 × Int64 × Int64 × Int32 × (Nat → Int32)
/-- rows: a size (-1: missing), the places -/
abbrev pRw : Type := Nat → Int × (Nat → Int32)
abbrev pDs : Type := List (Nat × Nat)
abbrev pSig : Type := pTl × pRw × pRw × pRoad × pDs × (Nat → Option pDs)
abbrev gT (g : pSig) : pTl := g.1
abbrev gR (g : pSig) : pRw := g.2.1
abbrev gX (g : pSig) : pRw := g.2.2.1
abbrev gO (g : pSig) : pRoad := g.2.2.2.1
abbrev gD (g : pSig) : pDs := g.2.2.2.2.1
abbrev gK (g : pSig) : Nat → Option pDs := g.2.2.2.2.2
def pDsok (o : pRoad) (ds : pDs) : Prop := ds.length ≤ 40 ∧ ∀ d ∈ ds, pDok o d
def pWf (g : pSig) : Prop := (∀ r, r < 6 → -1 ≤ (gR g r).1 ∧ (gR g r).1 ≤ 40) ∧ (∀ t, t < 4 → -1 ≤ (gX g t).1 ∧ (gX g t).1 ≤ 60) ∧ pRok (gO g) ∧ pDsok (gO g) (gD g) ∧ ∀ k, k < 3 → ∀ d, gK g k = some d → pDsok (gO g) d ∧ 0 < rN (gO g)
/-! the class -/
def tC (S : zMem) (t : pTl) : Prop := S.1 0 12 = t.1 ∧ S.2 0 13 = t.2.1 ∧ S.2 0 14 = t.2.2.1 ∧ S.1 0 11 = t.2.2.2.1 ∧ ∀ k, k < 6 → S.1 67 k = t.2.2.2.2 k
def wC (S : zMem) (b n : Nat) (R : pRw) : Prop := ∀ r, r < n → S.1 (b + 2 * r) 1 = iI (R r).1 ∧ ∀ k : Nat, (k : Int) < (R r).1 → S.1 (b + 2 * r + 1) k = (R r).2 k
def oC (S : zMem) (o : pRoad) : Prop := S.1 24 4 = iI (rH o) ∧ S.1 24 5 = iI (rN o) ∧ S.1 24 6 = iI (rM o) ∧ S.1 24 7 = iI (rE o) ∧ (∀ h, h < rH o → S.1 25 h = iI (rB o h)) ∧ ∀ l, l < rN o → S.1 26 l = iI (rK o l) ∧ S.1 27 l = iI (rD o l) ∧ S.1 28 l = iI (rW o l)
/-- a Post at cell P stands at s -/
def sCl (S : zMem) (P : Nat) (o : pRoad) (s : pSt) : Prop := S.1 P 7 = iI (sD s) ∧ S.1 P 8 = iI (sM s) ∧ S.1 P 9 = iI (sE s) ∧ S.1 P 10 = iI (sP s) ∧ S.1 P 11 = iI (sC s) ∧ (∀ h, h < rH o → S.1 (P + 1) h = iI (sB s h)) ∧ ∀ l, l < rN o → (sC s).testBit l = true → S.1 (P + 2) l = iI (sX s l)
def dCl (S : zMem) (P : Nat) (ds : pDs) : Prop := S.1 P 6 = iI ds.length ∧ ∀ (i : Nat) (d : Nat × Nat), ds[i]? = some d → S.1 (P + 3) i = iI d.1 ∧ S.1 (P + 4) i = iI d.2
def nC (S : zMem) (P : Nat) (o : pRoad) (ds : pDs) : Prop := sCl S P o (pRun o ds) ∧ dCl S P ds
def kC (S : zMem) (o : pRoad) (kp : Nat → Option pDs) : Prop := ∀ k, k < 3 → match kp k with
  | some d => S.1 (45 + 5 * k) 5 = 1 ∧ nC S (45 + 5 * k) o d
  | none => S.1 (45 + 5 * k) 5 = 0
def RC (S : zMem) (g : pSig) : Prop := tC S (gT g) ∧ wC S 4 6 (gR g) ∧ wC S 16 4 (gX g) ∧ oC S (gO g) ∧ nC S 35 (gO g) (gD g) ∧ (0 < rH (gO g) → S.1 35 5 = 1) ∧ kC S (gO g) (gK g)
/-! the reference -/
def tM (S : zMem) (t : pTl) : Prop := S.1 0 10 = t.1 ∧ S.2 0 11 = t.2.1 ∧ S.2 0 12 = t.2.2.1 ∧ S.1 0 13 = t.2.2.2.1 ∧ ∀ k, k < 6 → S.1 9 k = t.2.2.2.2 k
def wM (S : zMem) (cs ci L n : Nat) (R : pRw) : Prop := ∀ r, r < n → S.1 cs r = iI (R r).1 ∧ ∀ k : Nat, (k : Int) < (R r).1 → S.1 ci (L * r + k) = (R r).2 k
def oM (S : zMem) (o : pRoad) : Prop := S.1 0 1 = iI (rH o) ∧ S.1 0 2 = iI (rN o) ∧ ∀ l, l < rN o → S.1 2 l = iI (rK o l) ∧ S.1 3 l = iI (rD o l) ∧ S.1 4 l = iI (rW o l)
/-- the part of the long row from place p on stands at s -/
def sMo (S : zMem) (p : Nat) (o : pRoad) (s : pSt) : Prop := S.1 1 p = iI (sD s) ∧ S.1 1 (p + 1) = iI (sM s) ∧ S.1 1 (p + 2) = iI (sE s) ∧ S.1 1 (p + 3) = iI (sP s) ∧ S.1 1 (p + 4) = iI (sC s) ∧ (∀ h, h < rH o → S.1 1 (p + 5 + h) = iI (sB s h)) ∧ ∀ l, l < rN o → (sC s).testBit l = true → S.1 1 (p + 11 + l) = iI (sX s l)
def nM (S : zMem) (B : Nat) (o : pRoad) (ds : pDs) : Prop := S.1 1 B = iI ds.length ∧ sMo S (B + 1) o (pRun o ds) ∧ ∀ i, i < ds.length → sMo S (B + 18 + 17 * i) o (pRun o (ds.take i))
def kM (S : zMem) (o : pRoad) (kp : Nat → Option pDs) : Prop := ∀ k, k < 3 → match kp k with
  | some d => nM S (698 * (1 + k)) o d
  | none => S.1 1 (698 * (1 + k)) = -1
def RM (S : zMem) (g : pSig) : Prop := tM S (gT g) ∧ wM S 5 6 40 6 (gR g) ∧ wM S 7 8 60 4 (gX g) ∧ oM S (gO g) ∧ nM S 0 (gO g) (gD g) ∧ kM S (gO g) (gK g)
/-- THE INVARIANT -/
def zInv (Sc Sm : zMem) : Prop := ∃ g : pSig, pWf g ∧ RC Sc g ∧ RM Sm g
/-- a call: what it answers, what it leaves; each side keeps to it -/
def okC {α : Type} (f : zMem → Option (α × zMem)) (sp : pSig → α × pSig) : Prop := ∀ S g, pWf g → RC S g → ∃ S1, f S = some ((sp g).1, S1) ∧ RC S1 (sp g).2
def okM {α : Type} (f : zMem → Option (α × zMem)) (sp : pSig → α × pSig) : Prop := ∀ S g, pWf g → RM S g → ∃ S1, f S = some ((sp g).1, S1) ∧ RM S1 (sp g).2
theorem ok_i {f f2 : zMem → Option (Int32 × zMem)} (sp : pSig → Int32 × pSig) (hw : ∀ g, pWf g → pWf (sp g).2) (h1 : okC f sp) (h2 : okM f2 sp) : zIi zInv f f2 := by
  rintro Sc Sm ⟨g, hg, hc, hm⟩
  obtain ⟨S1, e1, r1⟩ := h1 Sc g hg hc
  obtain ⟨S2, e2, r2⟩ := h2 Sm g hg hm
  exact ⟨_, S1, S2, e1, e2, _, hw g hg, r1, r2⟩
theorem ok_l {f f2 : zMem → Option (Int64 × zMem)} (sp : pSig → Int64 × pSig) (hw : ∀ g, pWf g → pWf (sp g).2) (h1 : okC f sp) (h2 : okM f2 sp) : zIl zInv f f2 := by
  rintro Sc Sm ⟨g, hg, hc, hm⟩
  obtain ⟨S1, e1, r1⟩ := h1 Sc g hg hc
  obtain ⟨S2, e2, r2⟩ := h2 Sm g hg hm
  exact ⟨_, S1, S2, e1, e2, _, hw g hg, r1, r2⟩
/-! what a part rests on -/
theorem tC.cg {S S1 : zMem} {t : pTl} (h : tC S t) (h0 : S1.1 0 = S.1 0) (h1 : S1.2 0 = S.2 0) (h2 : S1.1 67 = S.1 67) : tC S1 t := by
  unfold tC at *
  rw [h0, h1, h2]
  exact h
theorem wC.cg {S S1 : zMem} {b n : Nat} {R : pRw} (h : wC S b n R) (hc : ∀ c, b ≤ c → c < b + 2 * n → S1.1 c = S.1 c) : wC S1 b n R := by
  intro r hr
  rw [hc (b + 2 * r) (by omega) (by omega), hc (b + 2 * r + 1) (by omega) (by omega)]
  exact h r hr
theorem oC.cg {S S1 : zMem} {o : pRoad} (h : oC S o) (hc : ∀ c, 24 ≤ c → c < 29 → S1.1 c = S.1 c) : oC S1 o := by
  unfold oC at *
  rw [hc 24 (by omega) (by omega), hc 25 (by omega) (by omega), hc 26 (by omega) (by omega), hc 27 (by omega) (by omega), hc 28 (by omega) (by omega)]
  exact h
theorem sCl.cg {S S1 : zMem} {P : Nat} {o : pRoad} {s : pSt} (h : sCl S P o s) (hc : ∀ c, P ≤ c → c < P + 5 → S1.1 c = S.1 c) : sCl S1 P o s := by
  unfold sCl at *
  rw [hc P (by omega) (by omega), hc (P + 1) (by omega) (by omega), hc (P + 2) (by omega) (by omega)]
  exact h
theorem nC.cg {S S1 : zMem} {P : Nat} {o : pRoad} {ds : pDs} (h : nC S P o ds) (hc : ∀ c, P ≤ c → c < P + 5 → S1.1 c = S.1 c) : nC S1 P o ds := by
  refine ⟨h.1.cg hc, ?_⟩
  have h2 := h.2
  unfold dCl at *
  rw [hc P (by omega) (by omega), hc (P + 3) (by omega) (by omega), hc (P + 4) (by omega) (by omega)]
  exact h2
theorem kC.cg {S S1 : zMem} {o : pRoad} {kp : Nat → Option pDs} (h : kC S o kp) (hc : ∀ c, 45 ≤ c → c < 60 → S1.1 c = S.1 c) : kC S1 o kp := by
  intro k hk
  have h1 := h k hk
  cases hq : kp k with
  | none =>
    rw [hq] at h1
    dsimp only at h1 ⊢
    rw [hc _ (by omega) (by omega)]
    exact h1
  | some d =>
    rw [hq] at h1
    dsimp only at h1 ⊢
    rw [hc _ (by omega) (by omega)]
    exact ⟨h1.1, h1.2.cg (fun c h3 h4 => hc c (by omega) (by omega))⟩
theorem tM.cg {S S1 : zMem} {t : pTl} (h : tM S t) (h0 : S1.1 0 10 = S.1 0 10) (h3 : S1.1 0 13 = S.1 0 13) (h1 : S1.2 0 = S.2 0) (h2 : S1.1 9 = S.1 9) : tM S1 t := by
  unfold tM at *
  rw [h0, h1, h2, h3]
  exact h
theorem wM.cg {S S1 : zMem} {cs ci L n : Nat} {R : pRw} (h : wM S cs ci L n R) (h1 : S1.1 cs = S.1 cs) (h2 : S1.1 ci = S.1 ci) : wM S1 cs ci L n R := by
  unfold wM at *
  rw [h1, h2]
  exact h
theorem oM.cg {S S1 : zMem} {o : pRoad} (h : oM S o) (h1 : S1.1 0 1 = S.1 0 1) (h2 : S1.1 0 2 = S.1 0 2) (h3 : S1.1 2 = S.1 2) (h4 : S1.1 3 = S.1 3) (h5 : S1.1 4 = S.1 4) : oM S1 o := by
  unfold oM at *
  rw [h1, h2, h3, h4, h5]
  exact h
theorem sMo.cg {S S1 : zMem} {p : Nat} {o : pRoad} {s : pSt} (ho : pRok o) (h : sMo S p o s) (hc : ∀ q, p ≤ q → q < p + 17 → S1.1 1 q = S.1 1 q) : sMo S1 p o s := by
  obtain ⟨a1, a2, a3, a4, a5, a6, a7⟩ := h
  have hH := ho.1
  have hN := ho.2.1
  refine ⟨by rw [hc _ (by omega) (by omega)]; exact a1, by rw [hc _ (by omega) (by omega)]; exact a2, by rw [hc _ (by omega) (by omega)]; exact a3, by rw [hc _ (by omega) (by omega)]; exact a4, by rw [hc _ (by omega) (by omega)]; exact a5, fun h hh => ?_, fun l hl hb => ?_⟩
  · rw [hc _ (by omega) (by omega)]
    exact a6 h hh
  · rw [hc _ (by omega) (by omega)]
    exact a7 l hl hb
theorem nM.cg {S S1 : zMem} {B : Nat} {o : pRoad} {ds : pDs} (ho : pRok o) (hd : ds.length ≤ 40) (h : nM S B o ds) (hc : ∀ q, B ≤ q → q < B + 698 → S1.1 1 q = S.1 1 q) : nM S1 B o ds := by
  obtain ⟨a1, a2, a3⟩ := h
  refine ⟨by rw [hc _ (by omega) (by omega)]; exact a1, a2.cg ho (fun q h1 h2 => hc q (by omega) (by omega)), fun i hi => (a3 i hi).cg ho (fun q h1 h2 => hc q (by omega) (by omega))⟩
theorem kM.cg {S S1 : zMem} {o : pRoad} {kp : Nat → Option pDs} (ho : pRok o) (hd : ∀ k, k < 3 → ∀ d, kp k = some d → d.length ≤ 40) (h : kM S o kp) (hc : ∀ q, 698 ≤ q → q < 2792 → S1.1 1 q = S.1 1 q) : kM S1 o kp := by
  intro k hk
  have h1 := h k hk
  have hd1 := hd k hk
  cases hq : kp k with
  | none =>
    rw [hq] at h1
    dsimp only at h1 ⊢
    rw [hc _ (by omega) (by omega)]
    exact h1
  | some d =>
    rw [hq] at h1
    dsimp only at h1 ⊢
    exact h1.cg ho (hd1 d hq) (fun q h3 h4 => hc q (by omega) (by omega))
