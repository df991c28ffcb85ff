/-! orders of letters: all of them, and those that a search tries -/
def foldN {α : Type} (f : α → Nat → α) (a : α) : Nat → α
  | 0 => a
  | n + 1 => f (foldN f a n) n
theorem foldN_cg {α : Type} {f f2 : α → Nat → α} {a : α} : ∀ {n : Nat}, (∀ b i, i < n → f b i = f2 b i) → foldN f a n = foldN f2 a n := by
  intro n
  induction n with
  | zero => exact fun _ => rfl
  | succ n ih =>
    intro h
    show f (foldN f a n) n = f2 (foldN f2 a n) n
    rw [ih (fun b i hi => h b i (by omega)), h _ n (by omega)]
theorem foldN_id {α : Type} {f : α → Nat → α} {a : α} : ∀ {n : Nat}, (∀ i, i < n → f a i = a) → foldN f a n = a := by
  intro n
  induction n with
  | zero => exact fun _ => rfl
  | succ n ih =>
    intro h
    show f (foldN f a n) n = a
    rw [ih (fun i hi => h i (by omega)), h n (by omega)]
theorem foldN_add {α : Type} (f : α → Nat → α) (a : α) (n : Nat) : ∀ m, foldN f a (n + m) = foldN (fun b y => f b (n + y)) (foldN f a n) m := by
  intro m
  induction m with
  | zero => rfl
  | succ m ih =>
    show f (foldN f a (n + m)) (n + m) = f (foldN (fun b y => f b (n + y)) (foldN f a n) m) (n + m)
    rw [ih]
theorem foldN_mul {α : Type} (f : α → Nat → α) (a : α) (K : Nat) : ∀ N, foldN f a (N * K) = foldN (fun b l => foldN (fun b y => f b (l * K + y)) b K) a N := by
  intro N
  induction N with
  | zero =>
    rw [Nat.zero_mul]
    rfl
  | succ N ih =>
    rw [Nat.succ_mul, foldN_add, ih]
    rfl
/-- the digits of x, of m, the first ahead -/
def dgL (N : Nat) : Nat → Nat → List Nat
  | 0, _ => []
  | m + 1, x => x / N ^ m % N :: dgL N m (x % N ^ m)
theorem dgL_len (N : Nat) : ∀ m x, (dgL N m x).length = m := by
  intro m
  induction m with
  | zero => exact fun _ => rfl
  | succ m ih =>
    intro x
    show (dgL N m (x % N ^ m)).length + 1 = m + 1
    rw [ih]
theorem dgL_lt {N : Nat} (hN : 0 < N) : ∀ m x, ∀ l ∈ dgL N m x, l < N := by
  intro m
  induction m with
  | zero => exact fun x l hl => absurd hl (by simp [dgL])
  | succ m ih =>
    intro x l hl
    rcases List.mem_cons.mp hl with rfl | hl
    · exact Nat.mod_lt _ hN
    · exact ih _ l hl
theorem dgL_cons {N m l y : Nat} (hl : l < N) (hy : y < N ^ m) : dgL N (m + 1) (l * N ^ m + y) = l :: dgL N m y := by
  have hp : 0 < N ^ m := Nat.pow_pos (by omega)
  have e1 : (l * N ^ m + y) / N ^ m = l := by
    rw [Nat.mul_comm, Nat.mul_add_div hp, Nat.div_eq_of_lt hy, Nat.add_zero]
  have e2 : (l * N ^ m + y) % N ^ m = y := by
    rw [Nat.mul_comm, Nat.mul_add_mod, Nat.mod_eq_of_lt hy]
  show (l * N ^ m + y) / N ^ m % N :: dgL N m ((l * N ^ m + y) % N ^ m) = _
  rw [e1, e2, Nat.mod_eq_of_lt hl]
theorem mod_div_mod {N j m : Nat} (hN : 0 < N) (hj : j < m) (x : Nat) : x % N ^ m / N ^ j % N = x / N ^ j % N := by
  have e : N ^ m = N ^ j * N ^ (m - j) := by rw [← Nat.pow_add]; congr 1; omega
  rw [e, Nat.mod_mul_right_div_self]
  obtain ⟨d, hd⟩ : ∃ d, m - j = d + 1 := ⟨m - j - 1, by omega⟩
  rw [hd, Nat.pow_succ, Nat.mul_comm (N ^ d) N, Nat.mod_mul_right_mod]
theorem dgL_get {N : Nat} (hN : 0 < N) : ∀ m x k, k < m → (dgL N m x).getD k 0 = x / N ^ (m - 1 - k) % N := by
  intro m
  induction m with
  | zero => exact fun x k hk => absurd hk (by omega)
  | succ m ih =>
    intro x k hk
    cases k with
    | zero => rfl
    | succ k =>
      show (dgL N m (x % N ^ m)).getD k 0 = _
      rw [ih _ k (by omega), mod_div_mod hN (by omega)]
      congr 2
      congr 1
      omega
/-- a set without a letter -/
def pRem (c l : Nat) : Nat := if c.testBit l then c - 2 ^ l else c
theorem remI : ∀ c, c < 64 → ∀ l, l < 6 → (iI (c : Nat) &&& (((1 : Int32) <<< (iI (l : Nat) &&& 31)) ^^^ (-1))) = iI (pRem c l : Nat) := by decide +kernel
theorem rem_bit : ∀ c, c < 64 → ∀ l, l < 6 → ∀ k, k < 6 → (pRem c l).testBit k = (c.testBit k && decide (k ≠ l)) := by decide +kernel
theorem rem_64 : ∀ c, c < 64 → ∀ l, l < 6 → pRem c l < 64 := by decide +kernel
theorem rem_pop : ∀ c, c < 64 → ∀ l, l < 6 → c.testBit l = true → pPop (pRem c l) + 1 = pPop c := by decide +kernel
theorem pop_0 : ∀ c, c < 64 → (pPop c = 0 ↔ c = 0) := by decide +kernel
theorem pop_6 : ∀ c, c < 64 → pPop c ≤ 6 := by decide +kernel
theorem bits_ext : ∀ c, c < 64 → ∀ d, d < 64 → (∀ k, k < 6 → c.testBit k = d.testBit k) → c = d := by decide +kernel
theorem bit_some : ∀ c, c < 64 → c ≠ 0 → ∃ l, l < 6 ∧ c.testBit l = true := by decide +kernel
/-- one after the other out of a set -/
def goodL (set : Nat) : List Nat → Bool
  | [] => true
  | l :: p => set.testBit l && goodL (pRem set l) p
def dfs {α : Type} (N : Nat) : Nat → Nat → (α → List Nat → α) → α → α
  | 0, _, u, a => u a []
  | m + 1, set, u, a => foldN (fun b l => if set.testBit l then dfs N m (pRem set l) (fun b p => u b (l :: p)) b else b) a N
theorem dfs_eq {α : Type} (N : Nat) : ∀ m set (u : α → List Nat → α) a, foldN (fun b x => if goodL set (dgL N m x) then u b (dgL N m x) else b) a (N ^ m) = dfs N m set u a := by
  intro m
  induction m with
  | zero =>
    intro set u a
    show (if goodL set [] then u a [] else a) = u a []
    rfl
  | succ m ih =>
    intro set u a
    rw [Nat.pow_succ, Nat.mul_comm, foldN_mul]
    show _ = foldN (fun b l => if set.testBit l then dfs N m (pRem set l) (fun b p => u b (l :: p)) b else b) a N
    refine foldN_cg (fun b l hl => ?_)
    cases hb : set.testBit l with
    | false =>
      rw [if_neg Bool.false_ne_true]
      refine foldN_id (fun y hy => ?_)
      rw [dgL_cons hl hy]
      show (if (set.testBit l && goodL (pRem set l) (dgL N m y)) = true then _ else b) = b
      rw [hb]
      rfl
    | true =>
      rw [if_pos rfl, ← ih (pRem set l) (fun b p => u b (l :: p)) b]
      refine foldN_cg (fun b y hy => ?_)
      rw [dgL_cons hl hy]
      show (if (set.testBit l && goodL (pRem set l) (dgL N m y)) = true then _ else b) = _
      rw [hb]
      rfl
theorem dfs_cg {α : Type} {N : Nat} : ∀ m set (u u2 : α → List Nat → α) a, (∀ b p, u b p = u2 b p) → dfs N m set u a = dfs N m set u2 a := by
  intro m set u u2 a h
  have e : u = u2 := funext fun b => funext fun p => h b p
  rw [e]
theorem dfs_id {α : Type} {N : Nat} : ∀ m set (u : α → List Nat → α) a, (∀ p, u a p = a) → dfs N m set u a = a := by
  intro m
  induction m with
  | zero => exact fun set u a h => h []
  | succ m ih =>
    intro set u a h
    refine foldN_id (fun l hl => ?_)
    split
    · exact ih _ _ _ (fun p => h (l :: p))
    · rfl
/-- some order is tried -/
theorem dfs_some {β : Type} {N : Nat} (hN : N ≤ 6) : ∀ m set (u : Option β → List Nat → Option β) a, set < 64 → set < 2 ^ N → pPop set = m → (∀ b p, (u b p).isSome = true) → (dfs N m set u a).isSome = true := by
  intro m
  induction m with
  | zero => exact fun set u a _ _ _ h => h a []
  | succ m ih =>
    intro set u a h64 hs hp hu
    have step : ∀ l, l < N → set.testBit l = true → ∀ b, (dfs N m (pRem set l) (fun b p => u b (l :: p)) b).isSome = true := fun l hl hb b => by
      have := rem_pop set h64 l (by omega) hb
      refine ih _ _ b (rem_64 set h64 l (by omega)) ?_ (by omega) (fun b p => hu b (l :: p))
      rw [pRem, if_pos hb]
      exact Nat.lt_of_le_of_lt (Nat.sub_le _ _) hs
    obtain ⟨l0, hl0, hb0⟩ := bit_some set h64 (fun q => by
      have := (pop_0 set h64).mpr q
      omega)
    have hlN : l0 < N := by
      by_cases hc : l0 < N
      · exact hc
      · have : set.testBit l0 = false := Nat.testBit_lt_two_pow (Nat.lt_of_lt_of_le hs (Nat.pow_le_pow_right (by omega) (by omega)))
        rw [this] at hb0
        exact absurd hb0 Bool.false_ne_true
    have key : ∀ j, j ≤ N → l0 < j → (foldN (fun b l => if set.testBit l then dfs N m (pRem set l) (fun b p => u b (l :: p)) b else b) a j).isSome = true := by
      intro j
      induction j with
      | zero => exact fun _ h => absurd h (by omega)
      | succ j ihj =>
        intro hj hl
        show (if set.testBit j then dfs N m (pRem set j) (fun b p => u b (j :: p)) (foldN (fun b l => if set.testBit l then dfs N m (pRem set l) (fun b p => u b (l :: p)) b else b) a j) else foldN (fun b l => if set.testBit l then dfs N m (pRem set l) (fun b p => u b (l :: p)) b else b) a j).isSome = true
        by_cases hb : set.testBit j = true
        · rw [if_pos hb]
          exact step j (by omega) hb _
        · rw [if_neg hb]
          have hne : l0 ≠ j := fun q => hb (by rw [← q]; exact hb0)
          exact ihj (by omega) (by omega)
    exact key N (Nat.le_refl _) hlN
/-- nothing is tried where there are too few -/
theorem dfs_none {α : Type} {N : Nat} (hN : N ≤ 6) : ∀ m set (u : α → List Nat → α) a, set < 64 → pPop set < m → dfs N m set u a = a := by
  intro m
  induction m with
  | zero => exact fun set u a _ h => absurd h (by omega)
  | succ m ih =>
    intro set u a h64 hp
    refine foldN_id (fun l hl => ?_)
    split
    · next hb =>
      have := rem_pop set h64 l (by omega) hb
      exact ih _ _ _ (rem_64 set h64 l (by omega)) (by omega)
    · rfl
/-! what an order comes to -/
def pTog (o : pRoad) : pSt → List Nat → Nat
  | _, [] => 0
  | s, l :: p => pEnd o s l + pTog o (pDel o s l) p
def pDelL (o : pRoad) (s : pSt) (p : List Nat) : pSt := p.foldl (pDel o) s
theorem pDelL_ok {o : pRoad} (ho : pRok o) : ∀ p s, pSok o s → (∀ l ∈ p, l < rN o) → pSok o (pDelL o s p) := by
  intro p
  induction p with
  | nil => exact fun s h _ => h
  | cons l p ih => exact fun s h hl => ih _ (pDel_ok ho h (hl l List.mem_cons_self)) (fun x hx => hl x (List.mem_cons_of_mem _ hx))
theorem pTog_le {o : pRoad} (ho : pRok o) : ∀ p s, pSok o s → (∀ l ∈ p, l < rN o) → pTog o s p ≤ 9 * p.length := by
  intro p
  induction p with
  | nil => exact fun s h _ => Nat.le_refl _
  | cons l p ih =>
    intro s h hl
    have h1 := ih (pDel o s l) (pDel_ok ho h (hl l List.mem_cons_self)) (fun x hx => hl x (List.mem_cons_of_mem _ hx))
    have h2 := pEnd_le ho h (hl l List.mem_cons_self)
    show pEnd o s l + pTog o (pDel o s l) p ≤ 9 * (p.length + 1)
    omega
/-- letters one after the other, none twice, none of those that are out -/
def pSnL (out : Nat) : Nat → List Nat → Option Nat
  | a, [] => some a
  | a, l :: p => if (a ||| out).testBit l then none else pSnL out (a ||| 2 ^ l) p
theorem or_64 : ∀ a, a < 64 → ∀ b, b < 64 → a ||| b < 64 := fun a ha b hb => Nat.or_lt_two_pow (n := 6) ha hb
theorem two_64 : ∀ l, l < 6 → 2 ^ l < 64 := by decide
theorem bit_2 : ∀ l, l < 6 → ∀ k, k < 6 → (2 ^ l : Nat).testBit k = decide (k = l) := by decide
theorem snL_good {N out : Nat} (hN : N ≤ 6) : ∀ p a set, (∀ l ∈ p, l < N) → a < 64 → set < 64 → (∀ l, l < N → set.testBit l = !(a ||| out).testBit l) → (pSnL out a p).isSome = goodL set p := by
  intro p
  induction p with
  | nil => exact fun a set _ _ _ _ => rfl
  | cons l p ih =>
    intro a set hl ha hs h
    have hlN := hl l List.mem_cons_self
    show (if (a ||| out).testBit l then none else pSnL out (a ||| 2 ^ l) p).isSome = (set.testBit l && goodL (pRem set l) p)
    rw [h l hlN]
    cases hb : (a ||| out).testBit l with
    | true => rfl
    | false =>
      rw [if_neg Bool.false_ne_true]
      show _ = (true && goodL (pRem set l) p)
      rw [Bool.true_and]
      refine ih _ _ (fun x hx => hl x (List.mem_cons_of_mem _ hx)) (or_64 a ha _ (two_64 l (by omega))) (rem_64 set hs l (by omega)) (fun k hk => ?_)
      rw [rem_bit set hs l (by omega) k (by omega), h k hk]
      simp only [Nat.testBit_or, bit_2 l (by omega) k (by omega)]
      by_cases hkl : k = l
      · simp [hkl]
      · simp [hkl]
theorem snL_mono {out : Nat} : ∀ p a t, pSnL out a p = some t → ∀ k, a.testBit k = true → t.testBit k = true := by
  intro p
  induction p with
  | nil =>
    intro a t h k hk
    cases h
    exact hk
  | cons l p ih =>
    intro a t h k hk
    have h2 : (if (a ||| out).testBit l then none else pSnL out (a ||| 2 ^ l) p) = some t := h
    split at h2
    · cases h2
    · exact ih _ _ h2 k (by rw [Nat.testBit_or, hk]; rfl)
theorem snL_lt {out N : Nat} (hN : N ≤ 6) : ∀ p a t, (∀ l ∈ p, l < N) → a < 64 → pSnL out a p = some t → t < 64 := by
  intro p
  induction p with
  | nil =>
    intro a t _ ha h
    cases h
    exact ha
  | cons l p ih =>
    intro a t hl ha h
    have h2 : (if (a ||| out).testBit l then none else pSnL out (a ||| 2 ^ l) p) = some t := h
    have hlN := hl l List.mem_cons_self
    split at h2
    · cases h2
    · exact ih _ _ (fun x hx => hl x (List.mem_cons_of_mem _ hx)) (or_64 a ha _ (two_64 l (by omega))) h2
theorem snL_set {N out : Nat} (hN : N ≤ 6) : ∀ p a set T, (∀ l ∈ p, l < N) → a < 64 → set < 64 → T < 64 → out < 64 → (∀ k, k < 6 → T.testBit k = (a.testBit k || set.testBit k)) → (∀ k, k < 6 → set.testBit k = true → (a ||| out).testBit k = false) → pPop set = p.length → (pSnL out a p = some T ↔ goodL set p = true) := by
  intro p
  induction p with
  | nil =>
    intro a set T _ ha hs hT ho h1 h2 hp
    have h0 : set = 0 := (pop_0 set hs).mp hp
    subst h0
    refine ⟨fun _ => rfl, fun _ => ?_⟩
    show some a = some T
    rw [bits_ext a ha T hT (fun k hk => by rw [h1 k hk, Nat.zero_testBit, Bool.or_false])]
  | cons l p ih =>
    intro a set T hl ha hs hT ho h1 h2 hp
    have hlN := hl l List.mem_cons_self
    show ((if (a ||| out).testBit l then none else pSnL out (a ||| 2 ^ l) p) = some T) ↔ (set.testBit l && goodL (pRem set l) p) = true
    cases hb : set.testBit l with
    | false =>
      rw [Bool.false_and]
      constructor
      · intro h
        split at h
        · cases h
        · next hc =>
          have hTl : T.testBit l = true := snL_mono p _ _ h l (by rw [Nat.testBit_or, bit_2 l (by omega) l (by omega)]; simp)
          rw [h1 l (by omega), hb, Bool.or_false] at hTl
          rw [Nat.testBit_or, hTl] at hc
          exact absurd rfl hc
      · intro h
        cases h
    | true =>
      rw [Bool.true_and, if_neg (by rw [h2 l (by omega) hb]; exact Bool.false_ne_true)]
      have hpop := rem_pop set hs l (by omega) hb
      refine ih _ _ _ (fun x hx => hl x (List.mem_cons_of_mem _ hx)) (or_64 a ha _ (two_64 l (by omega))) (rem_64 set hs l (by omega)) hT ho (fun k hk => ?_) (fun k hk hk2 => ?_) (by rw [List.length_cons] at hp; omega)
      · rw [h1 k hk, Nat.testBit_or, bit_2 l (by omega) k hk, rem_bit set hs l (by omega) k hk]
        by_cases hkl : k = l
        · subst hkl
          simp [hb]
        · simp [hkl]
      · rw [rem_bit set hs l (by omega) k hk, Bool.and_eq_true, decide_eq_true_iff] at hk2
        have h3 := h2 k hk hk2.1
        rw [Nat.testBit_or] at h3 ⊢
        rw [Nat.testBit_or, bit_2 l (by omega) k hk]
        simp only [Bool.or_eq_false_iff] at h3 ⊢
        refine ⟨⟨h3.1, ?_⟩, h3.2⟩
        simpa using hk2.2
