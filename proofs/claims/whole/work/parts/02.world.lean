/-! THE FIXED WORLD: cells in a layout, contents in a memory; the judgement zV over it -/
/-- the words of the tables that stay true as the machine goes on -/
def zT : List Cond := lw_tbl.filter goodWord
theorem zT_of {q : Cond} (h : q ∈ lw_tbl) (hg : goodWord q = true) : q ∈ zT := List.mem_filter.mpr ⟨h, hg⟩
theorem zT_in {q : Cond} (h : q ∈ zT) : q ∈ lw_tbl := (List.mem_filter.mp h).1
abbrev zMem : Type := (Nat → Nat → Int32) × (Nat → Nat → Int64)
/-- the words of the functions: a named value, a check, a call -/
def zl {α β : Type} (a : α) (k : α → β) : β := k a
def zc {ρ : Type} (b : Bool) (k : Option ρ) : Option ρ := match b with
  | true => k
  | false => none
def zb {α ρ : Type} (a : Option (α × zMem)) (k : α → zMem → Option ρ) : Option ρ := match a with
  | some (r, S) => k r S
  | none => none
def zi (i : Int32) (n : Nat) : Bool := !(decide (i < 0) || decide (n ≤ i.toNatClampNeg))
def zbo (x : Int32) : Bool := decide (x = 0) || decide (x = 1)
def zp (S : zMem) (c : Nat) (f : Nat → Int32) : zMem := (fun q => if q = c then f else S.1 q, S.2)
def zq (S : zMem) (c : Nat) (f : Nat → Int64) : zMem := (S.1, fun q => if q = c then f else S.2 q)
theorem zc_e {ρ : Type} {b : Bool} {k : Option ρ} {r : ρ} (h : zc b k = some r) : b = true ∧ k = some r := by
  cases b
  · cases h
  · exact ⟨rfl, h⟩
theorem zb_e {α ρ : Type} {a : Option (α × zMem)} {k : α → zMem → Option ρ} {r : ρ} (h : zb a k = some r) : ∃ x S, a = some (x, S) ∧ k x S = some r := by
  cases a with
  | none => cases h
  | some q => exact ⟨q.1, q.2, rfl, h⟩
theorem zi_in {i : Int32} {n : Nat} (h : zi i n = true) : vp_in i n := by
  simp only [zi, Bool.not_eq_true', Bool.or_eq_false_iff, decide_eq_false_iff_not] at h
  exact fun q => q.elim h.1 h.2
/-- the classes whose objects the worlds hold -/
abbrev zcl : List vw_C := [(RX0, TX0, 1), (RX2, TX2, 9), (RX3, TX3, 7), (RX4, TX4, 12), (RX5, TX5, 1), (RX6, TX6, 8), (RX7, TX7, 2), (RX8, TX8, 15), (RX9, TX9, 27)]
/-- how many fields; what a field is: 0 an int, 1 a long, 2 a reference -/
def znf : Nat → Nat
  | 0 => 1 | 1 => 9 | 2 => 7 | 3 => 12 | 4 => 1 | 5 => 8 | 6 => 2 | 7 => 15 | 8 => 27 | _ => 0
def zfts : Nat → List Nat
  | 0 => [2] | 1 => [2, 2, 0, 0, 0, 0, 1, 1, 1] | 2 => [2, 2, 2, 0, 0, 0, 0] | 3 => [2, 2, 2, 2, 2, 0, 0, 0, 0, 0, 0, 0] | 4 => [2]
  | 5 => [2, 2, 2, 2, 0, 0, 0, 0] | 6 => [2, 0] | 7 => [2, 2, 2, 2, 2, 2, 2, 2, 2, 2, 2, 0, 0, 1, 1]
  | 8 => [2, 0, 0, 2, 2, 2, 2, 2, 2, 2, 0, 1, 1, 0, 2, 0, 0, 0, 0, 0, 0, 2, 0, 2, 2, 2, 2] | _ => []
def zft (ci k : Nat) : Nat := (zfts ci).getD k 0
/-- a layout: how many cells; of which kind (0 ints, 1 Strips, 2 Posts, 3 + ci an object); how long; where a reference goes to -/
abbrev zLay : Type := Nat × (Nat → Nat) × (Nat → Nat) × (Nat → Nat → Nat)
/-- a world's addresses: class numbers and slots, array classes, cells, statics -/
abbrev zWd : Type := va_G × (Nat → ClassId) × (Nat → Nat) × (Nat → Nat)
def zfv (L : zLay) (w : zWd) (S : zMem) (ci c k : Nat) : Value := if zft ci k = 0 then .int (S.1 c k) else if zft ci k = 1 then .long (S.2 c k) else .ref (w.2.2.1 (L.2.2.2 c k))
def zce (L : zLay) (w : zWd) (S : zMem) (c : Nat) : va_E :=
  if L.2.1 c = 0 then .inl (w.2.1 0, L.2.2.1 c, .inl (S.1 c))
  else if L.2.1 c ≤ 2 then .inl (w.2.1 (L.2.1 c), L.2.2.1 c, .inr (.inr (.inr (.inr fun i => some (w.2.2.1 (L.2.2.2 c i))))))
  else .inr (L.2.1 c - 3, (List.range (znf (L.2.1 c - 3))).map (zfv L w S (L.2.1 c - 3) c))
def zcs (L : zLay) (w : zWd) (S : zMem) : va_W := (List.range L.1).map fun c => (w.2.2.1 c, zce L w S c)
abbrev zty (w : zWd) : List (ClassId × FieldType) := [(w.2.1 0, .int), (w.2.1 1, .object RX7), (w.2.1 2, .object RX4)]
def zA (L : zLay) (w : zWd) : Nat → Prop := fun q => ∃ c, c < L.1 ∧ q = w.2.2.1 c
def zinj (L : zLay) (w : zWd) : Prop := ∀ a b, a < L.1 → b < L.1 → w.2.2.1 a = w.2.2.1 b → a = b
def zsig (j : Nat) : Int32 := ([108, 116, 98, 118, 107, 102] : List Int32).getD j 0
def zpar (j : Nat) : Int32 := ([-9, 0, 0, 0, 1, 3] : List Int32).getD j 0
def zst (L : zLay) (w : zWd) (U : State) (H : Heap) : Prop :=
  (va_Z RX1 "SIGNS" "[C" (.ref (w.2.2.2 0)) (zA L w) U H ∧ va_T .char (w.2.2.2 0) 6 (fun j => .int (zsig j)) (zA L w) U H) ∧
  (va_Z RX1 "PARENTS" "[I" (.ref (w.2.2.2 1)) (zA L w) U H ∧ va_T .int (w.2.2.2 1) 6 (fun j => .int (zpar j)) (zA L w) U H)
theorem zst.moved {L : zLay} {w : zWd} {u U : State} {H : Heap} (hvm : u.vm.Alike U.vm) (h : zst L w u H) : zst L w U H := ⟨⟨h.1.1.moved hvm, h.1.2.moved hvm⟩, ⟨h.2.1.moved hvm, h.2.2.moved hvm⟩⟩
theorem zst.kept {L : zLay} {w : zWd} {U : State} {H H1 : Heap} (h : zst L w U H) (hq : ∀ a : Nat, a < H.size → ¬ zA L w a → H1[a]? = H[a]?) : zst L w U H1 := ⟨⟨h.1.1.kept hq, h.1.2.kept hq⟩, ⟨h.2.1.kept hq, h.2.2.kept hq⟩⟩
/-- the world: its cells with the memory's contents, the tables, the statics -/
def zWo (L : zLay) (w : zWd) (S : zMem) (U : State) : Prop := va_P w.1 zcl (zcs L w S) U.heap ∧ va_K w.1 zcl (zty w) U ∧ zinj L w ∧ zst L w U U.heap
theorem zcs_at {L : zLay} {w : zWd} {S : zMem} {c : Nat} (h : c < L.1) : (zcs L w S)[c]? = some (w.2.2.1 c, zce L w S c) := by simp [zcs, h]
theorem zcs_of {L : zLay} {w : zWd} {S : zMem} {k : Nat} {q : Nat × va_E} (h : (zcs L w S)[k]? = some q) : k < L.1 ∧ q = (w.2.2.1 k, zce L w S k) := by
  have hl : k < (zcs L w S).length := (List.getElem?_eq_some_iff.mp h).1
  have hk : k < L.1 := by simpa [zcs] using hl
  rw [zcs_at hk] at h
  exact ⟨hk, (Option.some.inj h).symm⟩
theorem zcs_D {L : zLay} {w : zWd} {S : zMem} (h : zinj L w) : va_D (zA L w) (zcs L w S) := by
  refine ⟨fun i j x y hi hj hxy => ?_, fun k q hk => ?_⟩
  · obtain ⟨h1, rfl⟩ := zcs_of hi
    obtain ⟨h2, rfl⟩ := zcs_of hj
    exact h i j h1 h2 hxy
  · obtain ⟨h1, rfl⟩ := zcs_of hk
    exact ⟨k, h1, rfl⟩
theorem zcs_set {L : zLay} {w : zWd} {S S1 : zMem} {c : Nat} {e : va_E} (h : c < L.1) (he : zce L w S1 c = e) (ho : ∀ q, q ≠ c → zce L w S1 q = zce L w S q) : (zcs L w S).set c (w.2.2.1 c, e) = zcs L w S1 := by
  refine List.ext_getElem? fun k => ?_
  by_cases hk : k = c
  · subst hk
    rw [List.getElem?_set_self (by simpa [zcs] using h), zcs_at h, he]
  · rw [List.getElem?_set_ne (fun q => hk q.symm)]
    by_cases hn : k < L.1
    · rw [zcs_at hn, zcs_at hn, ho k hk]
    · rw [List.getElem?_eq_none (by simp [zcs]; omega), List.getElem?_eq_none (by simp [zcs]; omega)]
theorem zce_i {L : zLay} {w : zWd} {S : zMem} {c : Nat} (h : L.2.1 c = 0) : zce L w S c = .inl (w.2.1 0, L.2.2.1 c, .inl (S.1 c)) := by simp [zce, h]
theorem zce_o {L : zLay} {w : zWd} {S : zMem} {c ci : Nat} (h : L.2.1 c = 3 + ci) : zce L w S c = .inr (ci, (List.range (znf ci)).map (zfv L w S ci c)) := by
  have h1 : ¬ 3 + ci = 0 := by omega
  have h2 : ¬ 3 + ci ≤ 2 := by omega
  have h3 : 3 + ci - 3 = ci := by omega
  simp only [zce, h, h1, h2, h3, if_false]
theorem zce_r {L : zLay} {w : zWd} {S : zMem} {c t : Nat} (h : L.2.1 c = t) (h1 : t = 1 ∨ t = 2) : zce L w S c = .inl (w.2.1 t, L.2.2.1 c, .inr (.inr (.inr (.inr fun i => some (w.2.2.1 (L.2.2.2 c i)))))) := by
  have h2 : ¬ t = 0 := by omega
  have h3 : t ≤ 2 := by omega
  simp only [zce, h, h2, h3, if_false, if_true]
theorem zp_ne {S : zMem} {c q : Nat} {f : Nat → Int32} (h : q ≠ c) : (zp S c f).1 q = S.1 q := by simp [zp, h]
theorem zp_eq {S : zMem} {c : Nat} {f : Nat → Int32} : (zp S c f).1 c = f := by simp [zp]
theorem zp_2 {S : zMem} {c : Nat} {f : Nat → Int32} : (zp S c f).2 = S.2 := rfl
theorem zq_ne {S : zMem} {c q : Nat} {f : Nat → Int64} (h : q ≠ c) : (zq S c f).2 q = S.2 q := by simp [zq, h]
theorem zq_eq {S : zMem} {c : Nat} {f : Nat → Int64} : (zq S c f).2 c = f := by simp [zq]
theorem zq_1 {S : zMem} {c : Nat} {f : Nat → Int64} : (zq S c f).1 = S.1 := rfl
theorem zce_pn {L : zLay} {w : zWd} {S : zMem} {c q : Nat} {f : Nat → Int32} (h : q ≠ c) : zce L w (zp S c f) q = zce L w S q := by
  have e : zfv L w (zp S c f) (L.2.1 q - 3) q = zfv L w S (L.2.1 q - 3) q := by
    funext k
    simp only [zfv, zp_ne h, zp_2]
  simp only [zce, zp_ne h, e]
theorem zce_qn {L : zLay} {w : zWd} {S : zMem} {c q : Nat} {f : Nat → Int64} (h : q ≠ c) : zce L w (zq S c f) q = zce L w S q := by
  have e : zfv L w (zq S c f) (L.2.1 q - 3) q = zfv L w S (L.2.1 q - 3) q := by
    funext k
    simp only [zfv, zq_ne h, zq_1]
  simp only [zce, zq_1, e]
theorem zcs_pi {L : zLay} {w : zWd} {S : zMem} {c : Nat} {f : Nat → Int32} (h : c < L.1) (hk : L.2.1 c = 0) : (zcs L w S).set c (w.2.2.1 c, .inl (w.2.1 0, L.2.2.1 c, .inl f)) = zcs L w (zp S c f) :=
  zcs_set h (by rw [zce_i hk, zp_eq]) (fun q hq => zce_pn hq)
theorem zset_map {N k : Nat} {f g : Nat → Value} {v : Value} (hk : g k = v) (ho : ∀ j, j ≠ k → g j = f j) : ((List.range N).map f).set k v = (List.range N).map g := by
  refine List.ext_getElem? fun j => ?_
  by_cases hj : j = k
  · subst hj
    by_cases hn : j < N
    · rw [List.getElem?_set_self (by simpa using hn)]
      simp [hn, hk]
    · rw [List.getElem?_eq_none (by simp; omega), List.getElem?_eq_none (by simp; omega)]
  · rw [List.getElem?_set_ne (fun q => hj q.symm)]
    by_cases hn : j < N
    · simp [hn, ho j hj]
    · rw [List.getElem?_eq_none (by simp; omega), List.getElem?_eq_none (by simp; omega)]
theorem zcs_po {L : zLay} {w : zWd} {S : zMem} {c ci k : Nat} {v : Int32} (h : c < L.1) (hk : L.2.1 c = 3 + ci) (ht : zft ci k = 0) : (zcs L w S).set c (w.2.2.1 c, .inr (ci, ((List.range (znf ci)).map (zfv L w S ci c)).set k (.int v))) = zcs L w (zp S c (upd (S.1 c) k v)) := by
  refine zcs_set h ?_ (fun q hq => zce_pn hq)
  rw [zce_o hk]
  rw [zset_map (g := zfv L w (zp S c (upd (S.1 c) k v)) ci c)]
  · simp [zfv, ht, zp_eq, upd]
  · intro j hj
    simp [zfv, zp_eq, zp_2, upd, hj]
theorem zcs_ql {L : zLay} {w : zWd} {S : zMem} {c ci k : Nat} {v : Int64} (h : c < L.1) (hk : L.2.1 c = 3 + ci) (ht : zft ci k = 1) : (zcs L w S).set c (w.2.2.1 c, .inr (ci, ((List.range (znf ci)).map (zfv L w S ci c)).set k (.long v))) = zcs L w (zq S c (vp_updL (S.2 c) k v)) := by
  refine zcs_set h ?_ (fun q hq => zce_qn hq)
  rw [zce_o hk]
  rw [zset_map (g := zfv L w (zq S c (vp_updL (S.2 c) k v)) ci c)]
  · simp [zfv, ht, zq_eq, vp_updL]
  · intro j hj
    simp [zfv, zq_eq, zq_1, vp_updL, hj]
theorem zmap_at {N k : Nat} {f : Nat → Value} (h : k < N) : ((List.range N).map f)[k]? = some (f k) := by simp [h]
