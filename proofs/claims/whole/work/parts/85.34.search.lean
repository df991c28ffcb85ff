/-! the class's searches -/
def uRnd (o : pRoad) (pi : List Nat) (s : pSt) (sum : Nat) (a : Option (Nat × List Nat)) (p : List Nat) : Option (Nat × List Nat) := match a with
  | none => some (sum + pTog o s p, pi ++ p)
  | some (t, q) => if t < sum + pTog o s p then some (sum + pTog o s p, pi ++ p) else some (t, q)
theorem uRnd_cons (o : pRoad) (pi : List Nat) (s : pSt) (sum l : Nat) (a : Option (Nat × List Nat)) (p : List Nat) : uRnd o (pi ++ [l]) (pDel o s l) (sum + pEnd o s l) a p = uRnd o pi s sum a (l :: p) := by
  unfold uRnd
  rw [show pTog o s (l :: p) = pEnd o s l + pTog o (pDel o s l) p from rfl, ← Nat.add_assoc, List.append_assoc]
  rfl
/-- what the class keeps of the best so far -/
def eRC (T : zMem) (n : Nat) (a : Option (Nat × List Nat)) : Prop := match a with
  | none => T.1 60 4 = iI (-9)
  | some (t, q) => T.1 60 4 = iI t ∧ t ≤ 54 ∧ q.length = n ∧ lnIs T 62 q
theorem eRC_cg {T U : zMem} {n : Nat} {a : Option (Nat × List Nat)} (h : eRC T n a) (h1 : U.1 60 4 = T.1 60 4) (h2 : U.1 62 = T.1 62) : eRC U n a := by
  unfold eRC at *
  cases a with
  | none => exact h1.trans h
  | some b =>
    obtain ⟨t, q⟩ := b
    obtain ⟨a1, a2, a3, a4⟩ := h
    exact ⟨h1.trans a1, a2, a3, fun k hk => by rw [h2]; exact a4 k hk⟩
theorem getD_snoc {pi : List Nat} {l k : Nat} (hk : k < pi.length + 1) : (pi ++ [l]).getD k 0 = if k = pi.length then l else pi.getD k 0 := by
  by_cases h : k = pi.length
  · subst h
    simp
  · have : k < pi.length := by omega
    simp [h, this, List.getElem?_append_left]
theorem foldN_abs {α : Type} {f : α → Nat → α} {a b : α} {l N : Nat} (h : foldN f a l = b) (hl : l ≤ N) (hb : ∀ i, f b i = b) : foldN f a N = b := by
  obtain ⟨d, rfl⟩ : ∃ d, N = l + d := ⟨N - l, by omega⟩
  rw [foldN_add, h]
  exact foldN_id (fun i _ => hb _)
theorem del_args {T : zMem} {o : pRoad} {s : pSt} {l : Nat} {e : Int32} (ho : pRok o) (hc : oC T o) (hk : pSok o s) (hl : l < rN o) (he : e = iI (sE s)) : f_X6_moodAtDoor (iI l) (iI (sM s)) (iI (sP s)) e T = some (iI (pMood o s l), T) ∧ f_X6_warmth (iI l) (iI (pMood o s l)) T = some (iI (pEnd o s l), T) ∧ f_X6_moodBehind (iI l) (iI (pMood o s l)) (iI (pEnd o s l)) T = some (iI (sM (pDel o s l)), T) := by
  subst he
  exact ⟨moodAtDoor_eq ho hc hl hk.1 hk.2.2.1 hk.2.1, warmth_eq ho hc hl (pMood_le hk), moodBehind_eq ho hc hl (pMood_le hk) (pEnd_le ho hk hl)⟩
theorem tryWarmer_C {o : pRoad} {n e : Nat} (ho : pRok o) (hn : n ≤ 6) : ∀ (m i d : Nat) (s : pSt) (set sum : Nat) (pi : List Nat) (T : zMem) (a : Option (Nat × List Nat)), pPop set = m → set < 64 → set < 2 ^ rN o → i + m = n → m < d → pSok o s → sE s = e → T.1 60 3 = iI e → oC T o → pi.length = i → (∀ k, k < i → T.1 61 k = iI (pi.getD k 0 : Nat)) → sum ≤ 9 * i → eRC T n a → ∃ T1, f_X3_tryWarmer d (iI i) (iI set) (iI (sM s)) (iI (sP s)) (iI sum) T = some ((), T1) ∧ eRC T1 n (dfs (rN o) m set (uRnd o pi s sum) a) ∧ (∀ k, k < i → T1.1 61 k = T.1 61 k) ∧ T1.1 60 3 = T.1 60 3 ∧ (∀ c, c ≠ 60 → c ≠ 61 → c ≠ 62 → T1.1 c = T.1 c) ∧ T1.2 = T.2 := by
  intro m
  induction m with
  | zero =>
    intro i d s set sum pi T a hp h64 hs2 hi hd hk he h3 hc hpi hpre hsum ha
    have h0 : set = 0 := (pop_0 set h64).mp hp
    subst h0
    obtain ⟨d, rfl⟩ : ∃ d1, d = d1 + 1 := ⟨d - 1, by omega⟩
    rw [f_X3_tryWarmer, X3_tryWarmer_b0, if_pos (show iI ((0 : Nat) : Int) = 0 from rfl), X3_tryWarmer_b10]
    have upd1 : (∃ T1, (zl (zp T 60 (upd (T.1 60) 4 (iI sum))) fun S => zc (zcp (0 : Int32) (0 : Int32) (6 : Int32) 6 6) (zl (zp S (62) (va_cpy (S.1 (61)) (S.1 (62)) (Int32.toNatClampNeg (0 : Int32)) (Int32.toNatClampNeg (0 : Int32)) (Int32.toNatClampNeg (6 : Int32)))) fun S => X3_tryWarmer_b40 (f_X3_tryWarmer d) S)) = some ((), T1) ∧ eRC T1 n (some (sum + pTog o s [], pi ++ [])) ∧ (∀ k, k < i → T1.1 61 k = T.1 61 k) ∧ T1.1 60 3 = T.1 60 3 ∧ (∀ c, c ≠ 60 → c ≠ 61 → c ≠ 62 → T1.1 c = T.1 c) ∧ T1.2 = T.2) := by
      obtain ⟨T1, w1, w2, w3, w4, w5⟩ := wr T 60 4 (iI sum)
      rw [zl_e, w1, zcp_0, zc_true, zl_e]
      obtain ⟨T2, x1, x2, x4, x5⟩ := wrf T1 62 (va_cpy (T1.1 61) (T1.1 62) (Int32.toNatClampNeg 0) (Int32.toNatClampNeg 0) (Int32.toNatClampNeg 6))
      rw [x1]
      refine ⟨T2, rfl, ⟨?_, ?_, ?_, fun k hk2 => ?_⟩, fun k hk2 => by rw [x4 61 (by omega), w4 61 (by omega)], by rw [x4 60 (by omega), w3 3 (by omega)], fun c h1 h2 h3 => by rw [x4 c h3, w4 c h1], by rw [x5, w5]⟩
      · rw [x4 60 (by omega), w2]
        rfl
      · show sum + 0 ≤ 54
        omega
      · rw [List.append_nil]
        omega
      · rw [List.append_nil] at hk2 ⊢
        rw [x2, cpy_6 (by omega), w4 61 (by omega)]
        exact hpre k (by omega)
    show ∃ T1, _ ∧ eRC T1 n (uRnd o pi s sum a []) ∧ _
    cases a with
    | none =>
      have ha' : T.1 60 4 = iI (-9) := ha
      have q : iI (sum : Int) ≤ iI (-9) ↔ False := by
        rw [iI_le (by omega) (by omega) (by omega) (by omega)]
        exact ⟨fun h => by omega, False.elim⟩
      rw [zl_e, ha']
      simp only [q, if_false]
      exact upd1
    | some b =>
      obtain ⟨t, q⟩ := b
      obtain ⟨a1, a2, a3, a4⟩ := id ha
      have qq : iI (sum : Int) ≤ iI (t : Int) ↔ sum ≤ t := by
        rw [iI_le (by omega) (by omega) (by omega) (by omega)]
        omega
      rw [zl_e, a1]
      simp only [qq]
      show ∃ T1, _ ∧ eRC T1 n (if t < sum + pTog o s [] then some (sum + pTog o s [], pi ++ []) else some (t, q)) ∧ _
      rw [show (sum + pTog o s [] : Nat) = sum from rfl]
      by_cases hle : sum ≤ t
      · rw [if_pos hle, if_neg (by omega)]
        exact ⟨T, rfl, ha, fun _ _ => rfl, rfl, fun _ _ _ _ => rfl, rfl⟩
      · rw [if_neg hle, if_pos (by omega)]
        exact upd1
  | succ m ih =>
    intro i d s set sum pi T a hp h64 hs2 hi hd hk he h3 hc hpi hpre hsum ha
    have hN := ho.2.1
    obtain ⟨d, rfl⟩ : ∃ d1, d = d1 + 1 := ⟨d - 1, by omega⟩
    have hne : ¬ (iI (set : Int) = (0 : Int32)) := by
      rw [eqn0 (by omega)]
      intro q
      have := (pop_0 set h64).mpr q
      omega
    rw [f_X3_tryWarmer, X3_tryWarmer_b0, if_neg hne, if_pos (show iI (i : Int) < (6 : Int32) from (iI_lt (b := 6) (by omega) (by omega) (by omega) (by omega)).mpr (by omega))]
    refine zforI (F := fun f l U => X3_tryWarmer_l44 (f_X3_tryWarmer d) f (iI i) (iI set) (iI (sM s)) (iI (sP s)) (iI sum) (iI (l : Nat)) U) (n := rN o) (P := fun l U => eRC U n (foldN (fun b l => if set.testBit l then dfs (rN o) m (pRem set l) (fun b p => uRnd o pi s sum b (l :: p)) b else b) a l) ∧ (∀ k, k < i → U.1 61 k = T.1 61 k) ∧ U.1 60 3 = T.1 60 3 ∧ (∀ c, c ≠ 60 → c ≠ 61 → c ≠ 62 → U.1 c = T.1 c) ∧ U.2 = T.2) (Q := fun r => ∃ T1, r = some ((), T1) ∧ eRC T1 n (dfs (rN o) (m + 1) set (uRnd o pi s sum) a) ∧ (∀ k, k < i → T1.1 61 k = T.1 61 k) ∧ T1.1 60 3 = T.1 60 3 ∧ (∀ c, c ≠ 60 → c ≠ 61 → c ≠ 62 → T1.1 c = T.1 c) ∧ T1.2 = T.2) (fun f l U hl hU => Or.inl ?_) (fun f U hU => ?_) (zF_gt (by omega)) (a := T) ⟨ha, fun _ _ => rfl, rfl, fun _ _ _ _ => rfl, rfl⟩
    · obtain ⟨u1, u2, u3, u4, u5⟩ := hU
      have hcU : oC U o := hc.cg (fun c x y => u4 c (by omega) (by omega) (by omega))
      simp (disch := omega) only [X3_tryWarmer_l44, X3_tryWarmer_b44, X3_tryWarmer_b151, zl_e, hcU.2.1, iI_le]
      rw [if_neg (by omega), bitI set h64 l (by omega)]
      have efold : ∀ b, foldN (fun b l => if set.testBit l then dfs (rN o) m (pRem set l) (fun b p => uRnd o pi s sum b (l :: p)) b else b) b (l + 1) = if set.testBit l then dfs (rN o) m (pRem set l) (fun b p => uRnd o pi s sum b (l :: p)) (foldN (fun b l => if set.testBit l then dfs (rN o) m (pRem set l) (fun b p => uRnd o pi s sum b (l :: p)) b else b) b l) else foldN (fun b l => if set.testBit l then dfs (rN o) m (pRem set l) (fun b p => uRnd o pi s sum b (l :: p)) b else b) b l := fun b => rfl
      by_cases hb : set.testBit l = true
      · rw [if_pos hb, if_neg (by decide)]
        simp (disch := omega) only [zi_I, zc_true, iI_cln]
        obtain ⟨V, w1, w2, w3, w4, w5⟩ := wr U 61 i (iI l)
        have hcV : oC V o := hcU.cg (fun c x y => w4 c (by omega))
        obtain ⟨g1, g2, g3⟩ := del_args (e := V.1 60 3) ho hcV hk hl (by rw [w4 60 (by omega), u3, h3, he])
        rw [w1, g1]
        simp only [zb_some]
        rw [g2]
        simp only [zb_some]
        rw [g3]
        simp (disch := omega) only [zb_some, zi_I, zc_true, iI_cln, (hcV.2.2.2.2.2 l hl).2.1, remI set h64 l (by omega), iI_nadd]
        rw [show iI (i : Int) + (1 : Int32) = iI ((i + 1 : Nat) : Int) from i1n i 1, show iI (l : Int) + (1 : Int32) = iI ((l + 1 : Nat) : Int) from i1n l 1]
        have hpop := rem_pop set h64 l (by omega) hb
        have he9 := pEnd_le ho hk hl
        obtain ⟨V1, r1, r2, r3, r4, r5, r6⟩ := ih (i + 1) d (pDel o s l) (pRem set l) (sum + pEnd o s l) (pi ++ [l]) V _ (by omega) (rem_64 set h64 l (by omega)) (by rw [pRem, if_pos hb]; exact Nat.lt_of_le_of_lt (Nat.sub_le _ _) hs2) (by omega) (by omega) (pDel_ok ho hk hl) he (by rw [w4 60 (by omega), u3]; exact h3) hcV (by rw [List.length_append, hpi]; rfl) (fun k hk2 => by
          rw [getD_snoc (by omega)]
          by_cases hki : k = pi.length
          · rw [if_pos hki, hki, hpi]
            exact w2
          · rw [if_neg hki, w3 k (by omega), u2 k (by omega)]
            exact hpre k (by omega)) (by omega) (eRC_cg u1 (by rw [w4 60 (by omega)]) (w4 62 (by omega)))
        rw [dfs_cg m (pRem set l) _ _ _ (fun b p => uRnd_cons o pi s sum l b p)] at r2
        have r1' : f_X3_tryWarmer d (iI ((i + 1 : Nat) : Int)) (iI (pRem set l)) (iI (sM (pDel o s l))) (iI (rD o l)) (iI ((sum + pEnd o s l : Nat) : Int)) V = some ((), V1) := r1
        rw [r1']
        refine ⟨V1, ⟨?_, fun k hk2 => by rw [r3 k (by omega), w3 k (by omega), u2 k hk2], by rw [r4, w4 60 (by omega), u3], fun c h1 h2 h3 => by rw [r5 c h1 h2 h3, w4 c h2, u4 c h1 h2 h3], by rw [r6, w5, u5]⟩, rfl⟩
        rw [efold, if_pos hb]
        exact r2
      · rw [if_neg hb, if_pos rfl, show iI (l : Int) + (1 : Int32) = iI ((l + 1 : Nat) : Int) from i1n l 1]
        refine ⟨U, ⟨?_, u2, u3, u4, u5⟩, rfl⟩
        rw [efold, if_neg hb]
        exact u1
    · obtain ⟨u1, u2, u3, u4, u5⟩ := hU
      have hcU : oC U o := hc.cg (fun c x y => u4 c (by omega) (by omega) (by omega))
      simp (disch := omega) only [X3_tryWarmer_l44, X3_tryWarmer_b44, zl_e, hcU.2.1, iI_le]
      rw [if_pos (by omega)]
      exact ⟨U, rfl, u1, u2, u3, u4, u5⟩
def uPln (o : pRoad) (h v : Nat) (pi : List Nat) (s : pSt) (a : Option (List Nat)) (p : List Nat) : Option (List Nat) := match a with
  | some q => some q
  | none => if v ≤ sB (pDelL o s p) h then some (pi ++ p) else none
theorem uPln_cons (o : pRoad) (h v : Nat) (pi : List Nat) (s : pSt) (l : Nat) (a : Option (List Nat)) (p : List Nat) : uPln o h v (pi ++ [l]) (pDel o s l) a p = uPln o h v pi s a (l :: p) := by
  unfold uPln
  rw [List.append_assoc]
  rfl
theorem uPln_abs {o : pRoad} {h v N : Nat} {pi : List Nat} {s : pSt} (m set : Nat) (q : List Nat) : dfs N m set (uPln o h v pi s) (some q) = some q := dfs_id m set _ _ (fun p => rfl)
theorem reaches_C {o : pRoad} {n e h v : Nat} (ho : pRok o) (hn : n ≤ 6) (hh : h < rH o) (hv : v ≤ 20) : ∀ (m i d : Nat) (s : pSt) (left : Nat) (pi : List Nat) (T : zMem), left < 64 → i + m = n → m < d → pSok o s → sE s = e → T.1 60 3 = iI e → T.1 60 5 = iI h → T.1 60 6 = iI v → oC T o → pi.length = i → (∀ k, k < i → T.1 61 k = iI (pi.getD k 0 : Nat)) → ∃ T1, f_X3_reaches d (iI i) (iI n) (iI left) (iI (sM s)) (iI (sP s)) (iI (sB s h)) T = some (if (dfs (rN o) m left (uPln o h v pi s) none).isSome = true then 1 else 0, T1) ∧ (∀ q, dfs (rN o) m left (uPln o h v pi s) none = some q → q.length = n ∧ lnIs T1 61 q) ∧ (∀ k, k < i → T1.1 61 k = T.1 61 k) ∧ (∀ c, c ≠ 61 → T1.1 c = T.1 c) ∧ T1.2 = T.2 := by
  have hH := ho.1
  have hN := ho.2.1
  intro m
  induction m with
  | zero =>
    intro i d s left pi T h64 hi hd hk he h3 h5 h6 hc hpi hpre
    obtain ⟨d, rfl⟩ : ∃ d1, d = d1 + 1 := ⟨d - 1, by omega⟩
    have hb20 := hk.2.2.2.2.1 h hh
    rw [f_X3_reaches, X3_reaches_b0, if_pos (show iI (n : Int) ≤ iI (i : Int) from (iI_le (by omega) (by omega) (by omega) (by omega)).mpr (by omega)), X3_reaches_b11, zl_e, h6]
    have q : iI (sB s h : Int) < iI (v : Int) ↔ sB s h < v := by
      rw [iI_lt (by omega) (by omega) (by omega) (by omega)]
      omega
    simp only [q, X3_reaches_b25, zbo_0, zbo_1, zc_true]
    show ∃ T1, _ = some (if (if v ≤ sB s h then some (pi ++ []) else none).isSome = true then 1 else 0, T1) ∧ (∀ q, (if v ≤ sB s h then some (pi ++ []) else none) = some q → _) ∧ _
    by_cases hvs : v ≤ sB s h
    · rw [if_neg (by omega), if_pos hvs]
      refine ⟨T, rfl, fun q hq => ?_, fun _ _ => rfl, fun _ _ => rfl, rfl⟩
      cases hq
      rw [List.append_nil]
      exact ⟨by omega, fun k hk => hpre k (by omega)⟩
    · rw [if_pos (by omega), if_neg hvs]
      exact ⟨T, rfl, fun q hq => (by cases hq), fun _ _ => rfl, fun _ _ => rfl, rfl⟩
  | succ m ih =>
    intro i d s left pi T h64 hi hd hk he h3 h5 h6 hc hpi hpre
    obtain ⟨d, rfl⟩ : ∃ d1, d = d1 + 1 := ⟨d - 1, by omega⟩
    rw [f_X3_reaches, X3_reaches_b0, if_neg (show ¬ iI (n : Int) ≤ iI (i : Int) from fun q => by have := (iI_le (by omega) (by omega) (by omega) (by omega)).mp q; omega), if_pos (show iI (i : Int) < (6 : Int32) from (iI_lt (b := 6) (by omega) (by omega) (by omega) (by omega)).mpr (by omega))]
    refine zforI (F := fun f l U => X3_reaches_l29 (f_X3_reaches d) f (iI i) (iI n) (iI left) (iI (sM s)) (iI (sP s)) (iI (sB s h)) (iI (l : Nat)) U) (n := rN o) (P := fun l U => foldN (fun b l => if left.testBit l then dfs (rN o) m (pRem left l) (fun b p => uPln o h v pi s b (l :: p)) b else b) none l = none ∧ (∀ k, k < i → U.1 61 k = T.1 61 k) ∧ (∀ c, c ≠ 61 → U.1 c = T.1 c) ∧ U.2 = T.2) (Q := fun r => ∃ T1, r = some (if (dfs (rN o) (m + 1) left (uPln o h v pi s) none).isSome = true then 1 else 0, T1) ∧ (∀ q, dfs (rN o) (m + 1) left (uPln o h v pi s) none = some q → q.length = n ∧ lnIs T1 61 q) ∧ (∀ k, k < i → T1.1 61 k = T.1 61 k) ∧ (∀ c, c ≠ 61 → T1.1 c = T.1 c) ∧ T1.2 = T.2) (fun f l U hl hU => ?_) (fun f U hU => ?_) (zF_gt (by omega)) (a := T) ⟨rfl, fun _ _ => rfl, fun _ _ => rfl, rfl⟩
    · obtain ⟨u1, u2, u4, u5⟩ := hU
      have hcU : oC U o := hc.cg (fun c x y => u4 c (by omega))
      simp (disch := omega) only [X3_reaches_l29, X3_reaches_b29, X3_reaches_b167, zl_e, hcU.2.1, iI_le]
      rw [if_neg (by omega), bitI left h64 l (by omega)]
      have efold : foldN (fun b l => if left.testBit l then dfs (rN o) m (pRem left l) (fun b p => uPln o h v pi s b (l :: p)) b else b) none (l + 1) = if left.testBit l then dfs (rN o) m (pRem left l) (fun b p => uPln o h v pi s b (l :: p)) (foldN (fun b l => if left.testBit l then dfs (rN o) m (pRem left l) (fun b p => uPln o h v pi s b (l :: p)) b else b) none l) else foldN (fun b l => if left.testBit l then dfs (rN o) m (pRem left l) (fun b p => uPln o h v pi s b (l :: p)) b else b) none l := rfl
      by_cases hb : left.testBit l = true
      · rw [if_pos hb, if_neg (by decide)]
        simp (disch := omega) only [zi_I, zc_true, iI_cln]
        obtain ⟨V, w1, w2, w3, w4, w5⟩ := wr U 61 i (iI l)
        have hcV : oC V o := hcU.cg (fun c x y => w4 c (by omega))
        have h60 : V.1 60 = T.1 60 := by rw [w4 60 (by omega), u4 60 (by omega)]
        obtain ⟨g1, g2, g3⟩ := del_args (e := V.1 60 3) ho hcV hk hl (by rw [h60, h3, he])
        have hd3 := ho.2.2.1 l hl
        have he9 := pEnd_le ho hk hl
        rw [w1, (hcV.2.2.2.2.2 l hl).2.1, g1]
        simp only [zb_some]
        rw [g2]
        simp only [zb_some]
        rw [g3]
        simp only [zb_some]
        rw [h60, h5]
        have eB : (if iI (rD o l : Int) = iI (h : Int) then (zb (f_X6_bondBehind (iI (sB s h)) (iI (pEnd o s l)) V) fun v10 S => X3_reaches_b138 (f_X3_reaches d) (X3_reaches_l29 (f_X3_reaches d) f) (iI i) (iI n) (iI left) (iI (sM s)) (iI (sP s)) (iI (sB s h)) (iI l) (iI (rD o l)) (iI (sM (pDel o s l))) v10 S) else (X3_reaches_b138 (f_X3_reaches d) (X3_reaches_l29 (f_X3_reaches d) f) (iI i) (iI n) (iI left) (iI (sM s)) (iI (sP s)) (iI (sB s h)) (iI l) (iI (rD o l)) (iI (sM (pDel o s l))) (iI (sB s h)) V)) = X3_reaches_b138 (f_X3_reaches d) (X3_reaches_l29 (f_X3_reaches d) f) (iI i) (iI n) (iI left) (iI (sM s)) (iI (sP s)) (iI (sB s h)) (iI l) (iI (rD o l)) (iI (sM (pDel o s l))) (iI (sB (pDel o s l) h)) V := by
          have e2 : sB (pDel o s l) h = if h = rD o l then pBond (sB s (rD o l)) (pEnd o s l) else sB s h := rfl
          by_cases hd2 : rD o l = h
          · rw [if_pos (by rw [hd2]), X6_bondBehind_eq (hk.2.2.2.2.1 h hh) he9, e2, if_pos hd2.symm, hd2]
            rfl
          · rw [if_neg (fun q => hd2 ((eqn (by omega) (by omega)).mp q)), e2, if_neg (fun q => hd2 q.symm)]
        rw [eB, X3_reaches_b138, zl_e, zl_e, zl_e, zl_e, remI left h64 l (by omega), show iI (i : Int) + (1 : Int32) = iI ((i + 1 : Nat) : Int) from i1n i 1]
        obtain ⟨V1, r1, r2, r3, r5, r6⟩ := ih (i + 1) d (pDel o s l) (pRem left l) (pi ++ [l]) V (rem_64 left h64 l (by omega)) (by omega) (by omega) (pDel_ok ho hk hl) he (by rw [h60]; exact h3) (by rw [h60]; exact h5) (by rw [h60]; exact h6) hcV (by rw [List.length_append, hpi]; rfl) (fun k hk2 => by
          rw [getD_snoc (by omega)]
          by_cases hki : k = pi.length
          · rw [if_pos hki, hki, hpi]
            exact w2
          · rw [if_neg hki, w3 k (by omega), u2 k (by omega)]
            exact hpre k (by omega))
        rw [dfs_cg m (pRem left l) _ _ _ (fun b p => uPln_cons o h v pi s l b p)] at r1 r2
        have r1' : f_X3_reaches d (iI ((i + 1 : Nat) : Int)) (iI n) (iI (pRem left l)) (iI (sM (pDel o s l))) (iI (rD o l)) (iI (sB (pDel o s l) h)) V = _ := r1
        rw [r1']
        rw [if_pos hb, u1] at efold
        cases hr : dfs (rN o) m (pRem left l) (fun b p => uPln o h v pi s b (l :: p)) none with
        | none =>
          left
          rw [hr] at efold
          refine ⟨V1, ⟨efold, fun k hk2 => by rw [r3 k (by omega), w3 k (by omega), u2 k hk2], fun c hc2 => by rw [r5 c hc2, w4 c hc2, u4 c hc2], by rw [r6, w5, u5]⟩, ?_⟩
          simp only [Option.isSome_none, Bool.false_eq_true, if_false, zb_some, zero_0, if_true, X3_reaches_b167, zl_e]
          rw [show iI (l : Int) + (1 : Int32) = iI ((l + 1 : Nat) : Int) from i1n l 1]
        | some q =>
          right
          rw [hr] at efold
          have efin : dfs (rN o) (m + 1) left (uPln o h v pi s) none = some q := foldN_abs efold (by omega) (fun j => by
            split
            · exact dfs_id m _ _ _ (fun p => rfl)
            · rfl)
          rw [efin]
          obtain ⟨k1, k2⟩ := r2 q hr
          simp only [Option.isSome_some, if_true, zb_some, one_0, if_false, zbo_1, zc_true]
          exact ⟨V1, rfl, fun q2 hq2 => (by cases hq2; exact ⟨k1, k2⟩), fun k hk2 => by rw [r3 k (by omega), w3 k (by omega), u2 k hk2], fun c hc2 => by rw [r5 c hc2, w4 c hc2, u4 c hc2], by rw [r6, w5, u5]⟩
      · left
        rw [if_neg hb, if_pos rfl, show iI (l : Int) + (1 : Int32) = iI ((l + 1 : Nat) : Int) from i1n l 1]
        rw [if_neg hb, u1] at efold
        exact ⟨U, ⟨efold, u2, u4, u5⟩, rfl⟩
    · obtain ⟨u1, u2, u4, u5⟩ := hU
      have hcU : oC U o := hc.cg (fun c x y => u4 c (by omega))
      have efin : dfs (rN o) (m + 1) left (uPln o h v pi s) none = none := u1
      simp (disch := omega) only [X3_reaches_l29, X3_reaches_b29, zl_e, hcU.2.1, iI_le]
      rw [if_pos (by omega), efin, zbo_0, zc_true]
      exact ⟨U, rfl, fun q hq => (by cases hq), u2, u4, u5⟩
