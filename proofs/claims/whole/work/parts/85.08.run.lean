/-! the abstract run stays in its bounds -/
theorem bitI : ∀ c, c < 64 → ∀ l, l < 6 → (iI (c : Nat) >>> (iI (l : Nat) &&& 31)) &&& 1 = if c.testBit l then 1 else 0 := by decide +kernel
theorem orI : ∀ c, c < 64 → ∀ l, l < 6 → (iI (c : Nat) ||| ((1 : Int32) <<< (iI (l : Nat) &&& 31))) = iI ((c ||| 2 ^ l : Nat) : Int) := by decide +kernel
theorem testBit_or : ∀ c, c < 64 → ∀ l, l < 6 → ∀ k, k < 6 → (c ||| 2 ^ l).testBit k = (c.testBit k || decide (k = l)) := by decide +kernel
theorem pow_le_64 {n : Nat} (h : n ≤ 6) : 2 ^ n ≤ 64 := Nat.pow_le_pow_right (by omega) h
theorem pMood_le {o : pRoad} {s : pSt} {l : Nat} (hs : pSok o s) : pMood o s l ≤ 9 := pWalk_le hs.1
theorem pEnd_le {o : pRoad} {s : pSt} {l : Nat} (ho : pRok o) (hs : pSok o s) (hl : l < rN o) : pEnd o s l ≤ 9 := pW_le (ho.2.2.1 l hl).2.2 (pMood_le hs)
theorem pDel_ok {o : pRoad} {s : pSt} {l : Nat} (ho : pRok o) (hs : pSok o s) (hl : l < rN o) : pSok o (pDel o s l) := by
  have hd := ho.2.2.1 l hl
  have hH := ho.1
  refine ⟨pTurn_le (pMood_le hs), hs.2.1, ?_, ?_, fun h hh => ?_, fun q => ?_⟩
  · show rD o l ≤ 5
    omega
  · exact Nat.or_lt_two_pow hs.2.2.2.1 (Nat.pow_lt_pow_right (by omega) hl)
  · show va_up (sB s) (rD o l) _ h ≤ 20
    unfold va_up
    split
    · exact pBond_le
    · exact hs.2.2.2.2.1 h hh
  · show va_up (sX s) l _ q ≤ 9
    unfold va_up
    split
    · exact pEnd_le ho hs hl
    · exact hs.2.2.2.2.2 q
theorem pAct_ok {o : pRoad} {s : pSt} {d : Nat × Nat} (ho : pRok o) (hs : pSok o s) (hd : pDok o d) : pSok o (pAct o s d) := by
  unfold pAct
  split
  · next h0 =>
    split
    · exact hs
    · exact pDel_ok ho hs (hd.2.2.1 h0)
  · split
    · exact ⟨by show min 9 _ ≤ 9; omega, hs.2⟩
    · split
      · next h2 => exact ⟨hs.1, hd.2.2.2 h2, hs.2.2⟩
      · exact ⟨hs.1, hs.2.1, Nat.zero_le _, Nat.two_pow_pos _, hs.2.2.2.2⟩
theorem pBeg_ok {o : pRoad} (ho : pRok o) : pSok o (pBeg o) := ⟨ho.2.2.2.2.1, ho.2.2.2.2.2, Nat.zero_le _, Nat.two_pow_pos _, ho.2.2.2.1, fun _ => Nat.zero_le _⟩
theorem pRun_snoc (o : pRoad) (ds : pDs) (d : Nat × Nat) : pRun o (ds ++ [d]) = pAct o (pRun o ds) d := by
  unfold pRun
  rw [List.foldl_append]
  rfl
theorem pFold_ok {o : pRoad} (ho : pRok o) : ∀ (ds : pDs) (s : pSt), pSok o s → (∀ d ∈ ds, pDok o d) → pSok o (ds.foldl (pAct o) s) := by
  intro ds
  induction ds with
  | nil => exact fun s h _ => h
  | cons d ds ih => exact fun s h hd => ih _ (pAct_ok ho h (hd d List.mem_cons_self)) (fun x hx => hd x (List.mem_cons_of_mem _ hx))
theorem pRun_ok {o : pRoad} {ds : pDs} (ho : pRok o) (hd : ∀ d ∈ ds, pDok o d) : pSok o (pRun o ds) := pFold_ok ho ds _ (pBeg_ok ho) hd
theorem pSok.c64 {o : pRoad} {s : pSt} (ho : pRok o) (h : pSok o s) : sC s < 64 := Nat.lt_of_lt_of_le h.2.2.2.1 (pow_le_64 ho.2.1)
theorem sD_le {o : pRoad} : ∀ (ds : pDs) (s : pSt), sD (ds.foldl (pAct o) s) ≤ sD s + ds.length := by
  intro ds
  induction ds with
  | nil => exact fun s => Nat.le_refl _
  | cons d ds ih =>
    intro s
    have h1 := ih (pAct o s d)
    have h2 : sD (pAct o s d) ≤ sD s + 1 := by
      unfold pAct
      repeat' split
      all_goals simp [sD, pDel]
    simp only [List.foldl_cons, List.length_cons]
    omega
