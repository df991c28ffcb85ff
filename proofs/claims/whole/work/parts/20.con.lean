/-! CONSTRUCTORS: a block of cells from address b on, the next one new; es i is what the cell b + i holds -/
def zEs (b n : Nat) (es : Nat → va_E) : va_W := (List.range n).map fun i => (b + i, es i)
theorem zEs_at {b n i : Nat} {es : Nat → va_E} (h : i < n) : (zEs b n es)[i]? = some (b + i, es i) := by simp [zEs, h]
theorem zEs_of {b n k : Nat} {es : Nat → va_E} {q : Nat × va_E} (h : (zEs b n es)[k]? = some q) : k < n ∧ q = (b + k, es k) := by
  have hl : k < (zEs b n es).length := (List.getElem?_eq_some_iff.mp h).1
  have hk : k < n := by simpa [zEs] using hl
  rw [zEs_at hk] at h
  exact ⟨hk, (Option.some.inj h).symm⟩
theorem zEs_D {b n : Nat} {es : Nat → va_E} : va_D (fun q => b ≤ q) (zEs b n es) := by
  refine ⟨fun i j x y hi hj hxy => ?_, fun k q hk => ?_⟩
  · obtain ⟨h1, rfl⟩ := zEs_of hi
    obtain ⟨h2, rfl⟩ := zEs_of hj
    dsimp only at hxy
    omega
  · obtain ⟨h1, rfl⟩ := zEs_of hk
    exact Nat.le_add_right b k
theorem zEs_set {b n i : Nat} {es : Nat → va_E} {e : va_E} (h : i < n) : (zEs b n es).set i (b + i, e) = zEs b n (va_up es i e) := by
  refine List.ext_getElem? fun k => ?_
  by_cases hk : k = i
  · subst hk
    rw [List.getElem?_set_self (by simpa [zEs] using h), zEs_at h]
    simp [va_up]
  · rw [List.getElem?_set_ne (fun q => hk q.symm)]
    by_cases hn : k < n
    · rw [zEs_at hn, zEs_at hn]
      simp [va_up, hk]
    · rw [List.getElem?_eq_none (by simp [zEs]; omega), List.getElem?_eq_none (by simp [zEs]; omega)]
theorem zEs_push {D : va_G} {b n : Nat} {es : Nat → va_E} {e : va_E} {H H1 : Heap} (hP : va_P D zcl (zEs b n es) H) (hk : ∀ q, q < H.size → H1[q]? = H[q]?) (he : va_at D zcl (b + n, e) H1) : va_P D zcl (zEs b (n + 1) (va_up es n e)) H1 := by
  intro k q hq
  obtain ⟨h1, rfl⟩ := zEs_of hq
  by_cases hn : k = n
  · subst hn
    simpa [va_up] using he
  · have h2 : k < n := by omega
    have h3 := hP k _ (zEs_at h2)
    have h4 : va_up es n e k = es k := by simp [va_up, hn]
    rw [h4]
    exact h3.kept (hk _ h3.lt)
def zrn (lev k sl : Nat) : Room := { frames := lev, cells := k, slots := sl, locals := 64 * lev }
def zNQ (w : zWd) (b n : Nat) (es : Nat → va_E) : Array Value → State → Outcome → State → Prop := fun _ st oc t => oc = .returned none ∧ t.heap.size = b + n ∧ va_P w.1 zcl (zEs b n es) t.heap ∧ va_F (fun q => b ≤ q) st t
/-- words that are carried beside the tables: constructors of nest mates, arrays of objects -/
def zNw (U : State) : Prop := (va_Nw (.methodLinkNest RX5 11 yX6_init "LetterEnds") U ∧ va_Nw (.methodLinkNest RX8 20 yX6_init "LetterEnds") U ∧ va_Nw (.methodLinkNest RX8 27 yX5_init "LetterEnds") U ∧ va_Nw (.methodLinkNest RX8 64 yX0_init "LetterEnds") U) ∧ va_AO RX7 U ∧ va_AO RX4 U
theorem zNw.warm {s U : State} (hW : s.WarmedH U.vm) (h : zNw s) : zNw U := ⟨⟨h.1.1.warmM hW, h.1.2.1.warmM hW, h.1.2.2.1.warmM hW, h.1.2.2.2.warmM hW⟩, h.2.1.moved hW.alike, h.2.2.moved hW.alike⟩
theorem zNw.same {s U : State} (hW : s.vm = U.vm) (h : zNw s) : zNw U := ⟨⟨h.1.1.same rfl hW, h.1.2.1.same rfl hW, h.1.2.2.1.same rfl hW, h.1.2.2.2.same rfl hW⟩, h.2.1.moved (by rw [hW]; exact Vm.Alike.refl _), h.2.2.moved (by rw [hW]; exact Vm.Alike.refl _)⟩
def zNP (w : zWd) (b n : Nat) (es : Nat → va_E) (U : State) : Prop := U.heap.size = b + n ∧ va_P w.1 zcl (zEs b n es) U.heap ∧ va_K w.1 zcl (zty w) U ∧ zNw U
def zNet (w : zWd) (l : Launch) (y : MethodName) (bytes : ByteArray) (maxL lev k sl b : Nat) (As : List Value) (n : Nat) (es : Nat → va_E) (n1 : Nat) (es1 : Nat → va_E) : Prop :=
  Met l y (.code y bytes maxL none :: zT) (zrn lev k sl) (va_Pc As (zNP w b n es)) (zNQ w b n1 es1) k sl (fun q => b ≤ q)
def zN (w : zWd) (X : zX) (b : Nat) (Q : State → Prop) (n : Nat) (es : Nat → va_E) (k sl pc : Nat) (ls : Array Slot) (st : List Value) : Prop := match X with
  | (p, l, e, R, s, m, args, below, meth, c) => ∀ (H : Heap) (locs : List Loc), va_P w.1 zcl (zEs b n es) H → va_S (fun q => b ≤ q) s.heap H locs → W p l e R s m args below meth c H locs k sl Q (F0 m pc ls st)
def zNC (w : zWd) (X : zX) (b n0 : Nat) (l0 : Launch) (cc : ByteArray) (own : String) (nL : Nat) (R0 : Room) : Prop := match X with
  | (p, l, _, R, s, m, args, _, meth, c) => (l = l0 ∧ p.tables.exec = Jvm.exec ∧ c.code = cc ∧ c.maxLocals = nL ∧ s.vm.findClass own = some m.cls ∧ (∀ q ∈ zT, q.before args s = true)) ∧ (va_K w.1 zcl (zty w) s ∧ s.heap.size = b + n0) ∧ (meth.locks = false ∧ zNw s) ∧ R = R0
section ZNR
variable {w : zWd} {X : zX} {b n0 : Nat} {Q : State → Prop} {n : Nat} {es : Nat → va_E} {k sl : Nat} {ls : Array Slot} {st : List Value} {cc : ByteArray} {own : String} {nL : Nat} {R0 : Room} {lv : List (Nat × Value)} {l0 : Launch}
theorem n_iconst (pc : Nat) (C : zNC w X b n0 l0 cc own nL R0) {i : Int} {v : Int32} (hd : decode cc pc = .ok (.iconst i, 1)) (hv : Int32.ofInt i = v) (kk : zN w X b Q n es k sl (pc + 1) ls (.int v :: st)) : zN w X b Q n es k sl pc ls st := by
  obtain ⟨p, l, e, R, s, m, args, below, meth, c⟩ := X
  intro H locs hP hS
  exact lv_iconst C.1.2.1 C.1.2.2.1 hd hv (kk H locs hP hS)
theorem n_bipush (pc : Nat) (C : zNC w X b n0 l0 cc own nL R0) {i : Int} {v : Int32} (hd : decode cc pc = .ok (.bipush i, 2)) (hv : (Int8.ofInt i).toInt32 = v) (kk : zN w X b Q n es k sl (pc + 2) ls (.int v :: st)) : zN w X b Q n es k sl pc ls st := by
  obtain ⟨p, l, e, R, s, m, args, below, meth, c⟩ := X
  intro H locs hP hS
  exact lv_bipush C.1.2.1 C.1.2.2.1 hd hv (kk H locs hP hS)
theorem n_sipush (pc : Nat) (C : zNC w X b n0 l0 cc own nL R0) {i : Int} {v : Int32} (hd : decode cc pc = .ok (.sipush i, 3)) (hv : (Int16.ofInt i).toInt32 = v) (kk : zN w X b Q n es k sl (pc + 3) ls (.int v :: st)) : zN w X b Q n es k sl pc ls st := by
  obtain ⟨p, l, e, R, s, m, args, below, meth, c⟩ := X
  intro H locs hP hS
  exact lv_sipush C.1.2.1 C.1.2.2.1 hd hv (kk H locs hP hS)
theorem n_lconst (pc : Nat) (C : zNC w X b n0 l0 cc own nL R0) {i : Fin 2} {v : Int64} (hd : decode cc pc = .ok (.lconst i, 1)) (hv : Int64.ofNat (i : Nat) = v) (kk : zN w X b Q n es k sl (pc + 1) ls (.long v :: st)) : zN w X b Q n es k sl pc ls st := by
  obtain ⟨p, l, e, R, s, m, args, below, meth, c⟩ := X
  intro H locs hP hS
  exact lv_lconst C.1.2.1 C.1.2.2.1 hd hv (kk H locs hP hS)
theorem n_iload_n (pc : Nat) (C : zNC w X b n0 l0 cc own nL R0) {j : Fin 4} {i : Nat} {x : Int32} (hd : decode cc pc = .ok (.iload_n j, 1)) (hi : (j : Nat) = i) (hl : ls[i]? = some (.val (.int x))) (kk : zN w X b Q n es k sl (pc + 1) ls (.int x :: st)) : zN w X b Q n es k sl pc ls st := by
  obtain ⟨p, l, e, R, s, m, args, below, meth, c⟩ := X
  intro H locs hP hS
  exact lv_iload_n C.1.2.1 C.1.2.2.1 hd hi hl (kk H locs hP hS)
theorem n_aload_n (pc : Nat) (C : zNC w X b n0 l0 cc own nL R0) {j : Fin 4} {i x : Nat} (hd : decode cc pc = .ok (.aload_n j, 1)) (hi : (j : Nat) = i) (hl : ls[i]? = some (.val (.ref x))) (kk : zN w X b Q n es k sl (pc + 1) ls (.ref x :: st)) : zN w X b Q n es k sl pc ls st := by
  obtain ⟨p, l, e, R, s, m, args, below, meth, c⟩ := X
  intro H locs hP hS
  exact lv_aload_n C.1.2.1 C.1.2.2.1 hd hi hl (kk H locs hP hS)
theorem n_dup (pc : Nat) (C : zNC w X b n0 l0 cc own nL R0) {va : Value} (hd : decode cc pc = .ok (.dup, 1)) (hva : va.category = 1) (kk : zN w X b Q n es k sl (pc + 1) ls (va :: va :: st)) : zN w X b Q n es k sl pc ls (va :: st) := by
  obtain ⟨p, l, e, R, s, m, args, below, meth, c⟩ := X
  intro H locs hP hS
  exact lv_dup C.1.2.1 C.1.2.2.1 hd hva (kk H locs hP hS)
theorem n_imul (pc : Nat) (C : zNC w X b n0 l0 cc own nL R0) {x y z : Int32} (hd : decode cc pc = .ok (.imul, 1)) (hz0 : x * y = z) (kk : zN w X b Q n es k sl (pc + 1) ls (.int z :: st)) : zN w X b Q n es k sl pc ls (.int y :: .int x :: st) := by
  subst hz0
  obtain ⟨p, l, e, R, s, m, args, below, meth, c⟩ := X
  intro H locs hP hS
  exact lv_imul C.1.2.1 C.1.2.2.1 hd (kk H locs hP hS)
theorem n_iadd (pc : Nat) (C : zNC w X b n0 l0 cc own nL R0) {x y z : Int32} (hd : decode cc pc = .ok (.iadd, 1)) (hz0 : x + y = z) (kk : zN w X b Q n es k sl (pc + 1) ls (.int z :: st)) : zN w X b Q n es k sl pc ls (.int y :: .int x :: st) := by
  subst hz0
  obtain ⟨p, l, e, R, s, m, args, below, meth, c⟩ := X
  intro H locs hP hS
  exact lv_iadd C.1.2.1 C.1.2.2.1 hd (kk H locs hP hS)
theorem n_istore_n (pc : Nat) (C : zNC w X b n0 l0 cc own nL R0) {j : Fin 4} {i : Nat} {x : Int32} (lv' : List (Nat × Value)) (hd : decode cc pc = .ok (.istore_n j, 1)) (hi : (j : Nat) = i) (h : lv_has ls nL lv) (hn : i < nL) (hl : (i, Value.int x) :: lv.filter (fun q => !(q.1 == i) && !(q.1 + 1 == i && q.2.category == 2)) = lv') (kk : ∀ ls' : Array Slot, lv_has ls' nL lv' → zN w X b Q n es k sl (pc + 1) ls' st) : zN w X b Q n es k sl pc ls (.int x :: st) := by
  obtain ⟨p, l, e, R, s, m, args, below, meth, c⟩ := X
  intro H locs hP hS
  exact lv_istore_n C.1.2.1 C.1.2.2.1 hd hi h hn hl (fun ls' h' => kk ls' h' H locs hP hS)
theorem n_iinc (pc : Nat) (C : zNC w X b n0 l0 cc own nL R0) {i j : Nat} {a : Int} {x v : Int32} (lv' : List (Nat × Value)) (hd : decode cc pc = .ok (.iinc i a, 3)) (h : lv_has ls nL lv) (hk : lv[j]? = some (i, .int x)) (hv : x + Int32.ofInt a = v) (hn : i < nL) (hl : (i, Value.int v) :: lv.filter (fun q => !(q.1 == i) && !(q.1 + 1 == i && q.2.category == 2)) = lv') (kk : ∀ ls' : Array Slot, lv_has ls' nL lv' → zN w X b Q n es k sl (pc + 3) ls' st) : zN w X b Q n es k sl pc ls st := by
  obtain ⟨p, l, e, R, s, m, args, below, meth, c⟩ := X
  intro H locs hP hS
  exact lv_iinc C.1.2.1 C.1.2.2.1 hd h hk hv hn hl (fun ls' h' => kk ls' h' H locs hP hS)
theorem n_ge_t (pc tgt : Nat) (C : zNC w X b n0 l0 cc own nL R0) {x y : Int32} {off : Int} (hd : decode cc pc = .ok (.if_icmp .ge off, 3)) (ht : (pc : Int) + off = (tgt : Int)) (h : y ≤ x) (kk : zN w X b Q n es k sl tgt ls st) : zN w X b Q n es k sl pc ls (.int y :: .int x :: st) := by
  obtain ⟨p, l, e, R, s, m, args, below, meth, c⟩ := X
  intro H locs hP hS
  exact lv_icmp_ge C.1.2.1 C.1.2.2.1 hd ht (fun _ => kk H locs hP hS) (fun q => absurd h q)
theorem n_ge_f (pc tgt : Nat) (C : zNC w X b n0 l0 cc own nL R0) {x y : Int32} {off : Int} (hd : decode cc pc = .ok (.if_icmp .ge off, 3)) (ht : (pc : Int) + off = (tgt : Int)) (h : ¬ y ≤ x) (kk : zN w X b Q n es k sl (pc + 3) ls st) : zN w X b Q n es k sl pc ls (.int y :: .int x :: st) := by
  obtain ⟨p, l, e, R, s, m, args, below, meth, c⟩ := X
  intro H locs hP hS
  exact lv_icmp_ge C.1.2.1 C.1.2.2.1 hd ht (fun q => absurd q h) (fun _ => kk H locs hP hS)
theorem n_goto (pc tgt : Nat) (C : zNC w X b n0 l0 cc own nL R0) {off : Int} (hd : decode cc pc = .ok (.goto off, 3)) (ht : (pc : Int) + off = (tgt : Int)) (kk : zN w X b Q n es k sl tgt ls st) : zN w X b Q n es k sl pc ls st := by
  obtain ⟨p, l, e, R, s, m, args, below, meth, c⟩ := X
  intro H locs hP hS
  exact lv_goto C.1.2.1 C.1.2.2.1 hd ht (kk H locs hP hS)
theorem n_getr (pc : Nat) (C : zNC w X b n0 l0 cc own nL R0) {idx ci f i : Nat} {fs : List Value} {v : Value} (hd : decode cc pc = .ok (.getfield idx, 3)) (fl : zFL own idx ci f) (hi : i < n) (he : es i = .inr (ci, fs)) (hv : fs[f]? = some v) (kk : zN w X b Q n es k sl (pc + 3) ls (v :: st)) : zN w X b Q n es k sl pc ls (.ref (b + i) :: st) := by
  obtain ⟨p, l, e, R, s, m, args, below, meth, cd⟩ := X
  intro H locs hP hS
  obtain ⟨⟨CN, T, N⟩, h1, h2, h3⟩ := fl
  obtain ⟨g1, g2, -⟩ := zok ci _ h1
  exact va_get (ci := ci) (T := T) (N := N) (C := CN) C.1.2.1 C.1.2.2.1 C.1.2.2.2.2.2 g1 C.1.2.2.2.2.1 C.2.1.1 hP i (by rw [zEs_at hi, he]) h1 f h2 (C.1.2.2.2.2.2 _ h3) (fun _ h9 => h9) hv hd (kk H locs hP hS)
def zFF (own : String) (ci f : Nat) (ty : FieldType) : Prop := ∀ q : vw_C, zcl[ci]? = some q → (q.2.1 f).2.2.2 = true ∧ (q.2.1 f).1 = own ∧ parseFieldDescriptor (q.2.1 f).2.2.1 = some ty
theorem n_putN (pc : Nat) (C : zNC w X b n0 l0 cc own nL R0) {idx ci f i : Nat} {fs : List Value} {v : Value} {ty : FieldType} (hd : decode cc pc = .ok (.putfield idx, 3)) (fl : zFL own idx ci f) (fp : zFP ci f ty) (hi : i < n) (he : es i = .inr (ci, fs)) (hl : f < fs.length) (hna : narrow ty v = v) (hfi : fits ty v = true) {es1 : Nat → va_E} (h1e : va_up es i (.inr (ci, fs.set f v)) = es1) (kk : zN w X b Q n es1 k sl (pc + 3) ls st) : zN w X b Q n es k sl pc ls (v :: .ref (b + i) :: st) := by
  subst h1e
  obtain ⟨p, l, e, R, s, m, args, below, meth, cd⟩ := X
  intro H locs hP hS
  obtain ⟨⟨CN, T, N⟩, h1, h2, h3⟩ := fl
  obtain ⟨g1, g2, ⟨ty0, g3⟩, g4⟩ := zok ci _ h1
  obtain ⟨f1, f2⟩ := fp _ h1
  refine va_put (ci := ci) (T := T) (N := N) (C := CN) (ty := ty) (v := v) C.1.2.1 C.1.2.2.1 C.1.2.2.2.2.2 g1 ty0 g3 g4 C.1.2.2.2.2.1 C.2.1.1 hP zEs_D hS i (by rw [zEs_at hi, he]) h1 f h2 (C.1.2.2.2.2.2 _ h3) (fun _ h9 => h9) f1 f2 hna hfi hl hd (fun H1 locs1 hP1 hD1 hS1 => ?_)
  rw [zEs_set hi] at hP1
  exact kk H1 locs1 hP1 hS1
theorem n_putF (pc : Nat) (C : zNC w X b n0 l0 cc own nL R0) {idx ci f i : Nat} {fs : List Value} {v : Value} {ty : FieldType} (hin : match X with | (_, _, _, _, _, _, _, _, meth, _) => meth.name = "<init>") (hd : decode cc pc = .ok (.putfield idx, 3)) (fl : zFL own idx ci f) (fp : zFF own ci f ty) (hi : i < n) (he : es i = .inr (ci, fs)) (hl : f < fs.length) (hna : narrow ty v = v) (hfi : fits ty v = true) {es1 : Nat → va_E} (h1e : va_up es i (.inr (ci, fs.set f v)) = es1) (kk : zN w X b Q n es1 k sl (pc + 3) ls st) : zN w X b Q n es k sl pc ls (v :: .ref (b + i) :: st) := by
  subst h1e
  obtain ⟨p, l, e, R, s, m, args, below, meth, cd⟩ := X
  intro H locs hP hS
  obtain ⟨⟨CN, T, N⟩, h1, h2, h3⟩ := fl
  obtain ⟨g1, g2, ⟨ty0, g3⟩, g4⟩ := zok ci _ h1
  obtain ⟨f1, f3, f2⟩ := fp _ h1
  refine va_putF (ci := ci) (T := T) (N := N) (C := CN) (ty := ty) (v := v) C.1.2.1 C.1.2.2.1 C.1.2.2.2.2.2 g1 ty0 g3 g4 C.1.2.2.2.2.1 C.2.1.1 hP zEs_D hS i (by rw [zEs_at hi, he]) h1 f h2 (C.1.2.2.2.2.2 _ h3) (fun _ h9 => h9) f1 hin f3 f2 hna hfi hl hd (fun H1 locs1 hP1 hD1 hS1 => ?_)
  rw [zEs_set hi] at hP1
  exact kk H1 locs1 hP1 hS1
theorem zsz {p : Program} {l : Launch} {e : Env} {R : Room} {s : State} {m : MethodId} {args : Array Value} {below : List Frame} {meth : Method} {c : Code} {T : State} {locs : List Loc} {H : Heap} (h0 : s.heap.size = b + n0) (hn : n = n0 + k) (hP : va_P w.1 zcl (zEs b n es) H) (hS : va_S (fun q => b ≤ q) s.heap H locs) (hT : T.heap = H) (ST : Stand p l e R s m args below meth c T locs k sl) : H.size = b + n := by
  have h1 : T.heap.size ≤ s.heap.size + k := ST.heapSize
  rw [hT, h0] at h1
  have h2 : b + n ≤ H.size := by
    by_cases hz : n = 0
    · have := hS.1
      omega
    · have := (hP (n - 1) _ (zEs_at (by omega))).lt
      dsimp only at this
      omega
  omega
theorem zgrow {H0 H H1 : Heap} {locs : List Loc} {a : Nat} (hS : va_S (fun q => b ≤ q) H0 H locs) (hz : H.size = a) (z1 : H1.size = a + 1) (o1 : ∀ q, q < a → H1[q]? = H[q]?) : va_S (fun q => b ≤ q) H0 H1 locs := by
  have h0 := hS.1
  refine ⟨by omega, fun x h1 h2 => ?_, hS.2.2⟩
  rw [o1 x (by omega)]
  exact hS.2.1 x h1 h2
theorem n_new (pc : Nat) (C : zNC w X b n0 l0 cc own nL R0) {idx ci N : Nat} {q : vw_C} (hd : decode cc pc = .ok (.new idx, 3)) (hq : zcl[ci]? = some q) (hN : q.2.2 = N) (hcl : Cond.classLink own idx q.1 ∈ zT) (hins : Cond.instantiable q.1 N ∈ zT) (hini : Cond.initialized q.1 ∈ zT) (ty : Nat → FieldType) (hty : ∀ j, j < N → parseFieldDescriptor (q.2.1 j).2.2.1 = some (ty j)) {fs : List Value} (hfs : ∀ j, j < N → defaultValue (ty j) = vp_V fs j) (hn : n = n0 + k) (hc : k + 1 ≤ R0.cells) (hs : sl + N ≤ R0.slots) {es1 : Nat → va_E} (h1e : va_up es n (.inr (ci, fs)) = es1) (kk : zN w X b Q (n + 1) es1 (k + 1) (sl + N) (pc + 3) ls (.ref (b + n) :: st)) : zN w X b Q n es k sl pc ls st := by
  subst h1e
  subst hN
  obtain ⟨p, l, e, R, s, m, args, below, meth, cd⟩ := X
  intro H locs hP hS
  intro T hT ST
  have hR : R = R0 := C.2.2.2
  subst hR
  have hz := zsz C.2.1.2 hn hP hS hT ST
  obtain ⟨g1, -⟩ := zok ci _ hq
  have hKn := C.2.1.1.1 ci _ hq
  revert T
  show W p l e R s m args below meth cd H locs k sl Q (F0 m pc ls st)
  refine W.newcK C.1.2.1 C.1.2.2.1 C.1.2.2.2.2.1 (C.1.2.2.2.2.2 _ hcl) (C.1.2.2.2.2.2 _ hins) (C.1.2.2.2.2.2 _ hini) rfl hd hc hs hKn.2.1 hz fun H1 kC hkC e1 z1 o1 => ?_
  have hb0 : va_at w.1 zcl (b + n, .inr (ci, fs)) H1 := ⟨_, hq, (u_born ty C.1.2.2.2.2.2 g1 hKn hkC e1 hty).to hfs⟩
  exact kk H1 locs (zEs_push hP (fun x hx => o1 x (hz ▸ hx)) hb0) (zgrow hS hz z1 o1)
theorem n_newi (pc : Nat) (C : zNC w X b n0 l0 cc own nL R0) {a : Int32} {N : Nat} (hd : decode cc pc = .ok (.newarray .int, 2)) (harr : Cond.arrayClass .int ∈ zT) (ha : ¬ a < 0) (hN : a.toNatClampNeg = N) (hN2 : N ≤ 100000) (hn : n = n0 + k) (hc : k + 1 ≤ R0.cells) (hs : sl + N ≤ R0.slots) {es1 : Nat → va_E} (h1e : va_up es n (.inl (w.2.1 0, N, .inl fun _ => 0)) = es1) (kk : zN w X b Q (n + 1) es1 (k + 1) (sl + N) (pc + 2) ls (.ref (b + n) :: st)) : zN w X b Q n es k sl pc ls (.int a :: st) := by
  subst h1e
  obtain ⟨p, l, e, R, s, m, args, below, meth, cd⟩ := X
  intro H locs hP hS
  intro T hT ST
  have hR : R = R0 := C.2.2.2
  subst hR
  have hz := zsz C.2.1.2 hn hP hS hT ST
  revert T
  show W p l e R s m args below meth cd H locs k sl Q (F0 m pc ls (.int a :: st))
  refine va_newaK (atype := .int) C.1.2.1 C.1.2.2.1 (C.1.2.2.2.2.2 _ harr) rfl hd rfl ha hN (by show N * 4 ≤ 536870912; omega) hc hs hz fun H1 cA e1 z1 o1 hAr hNm => ?_
  have hcA : cA = w.2.1 0 := Option.some.inj (hNm.symm.trans (C.2.1.1.2 0 _ rfl).2)
  subst hcA
  have hb0 : va_at w.1 zcl (b + n, .inl (w.2.1 0, N, .inl fun _ => 0)) H1 := e1
  exact kk H1 locs (zEs_push hP (fun x hx => o1 x (hz ▸ hx)) hb0) (zgrow hS hz z1 o1)
theorem n_newq (pc : Nat) (C : zNC w X b n0 l0 cc own nL R0) {idx t N : Nat} {a : Int32} {CE : String} (hd : decode cc pc = .ok (.anewarray idx, 3)) (ht : (zty w)[t]? = some (w.2.1 t, .object CE)) (hcl : Cond.classLink own idx CE ∈ zT) (hov : ∀ U, zNw U → va_AO CE U) (ha : ¬ a < 0) (hN : a.toNatClampNeg = N) (hN2 : N ≤ 100000) (hn : n = n0 + k) (hc : k + 1 ≤ R0.cells) (hs : sl + N ≤ R0.slots) {es1 : Nat → va_E} (h1e : va_up es n (.inl (w.2.1 t, N, .inr (.inr (.inr (.inr fun _ => none))))) = es1) (kk : zN w X b Q (n + 1) es1 (k + 1) (sl + N) (pc + 3) ls (.ref (b + n) :: st)) : zN w X b Q n es k sl pc ls (.int a :: st) := by
  subst h1e
  subst hN
  obtain ⟨p, l, e, R, s, m, args, below, meth, cd⟩ := X
  intro H locs hP hS
  intro T hT ST
  have hR : R = R0 := C.2.2.2
  subst hR
  have hz := zsz C.2.1.2 hn hP hS hT ST
  revert T
  show W p l e R s m args below meth cd H locs k sl Q (F0 m pc ls (.int a :: st))
  refine W.anew C.1.2.1 C.1.2.2.1 C.1.2.2.2.2.1 (C.1.2.2.2.2.2 _ hcl) (va_AO.use (hov _ C.2.2.1.2)) rfl hd rfl ha (by show _ * 4 ≤ 536870912; omega) hc hs fun cA kA comp f1 f2 f3 f4 => ?_
  obtain ⟨kA2, comp2, -, -, -, k4⟩ := (C.2.1.1.2 t _ ht).2
  have hcA : cA = w.2.1 t := Option.some.inj (f1.symm.trans k4)
  subst hcA
  generalize hH1 : H.push ({ cls := w.2.1 t, slots := Array.replicate a.toNatClampNeg .null, vm := .none } : Cell) = H1
  have z1 : H1.size = H.size + 1 := by rw [← hH1, Array.size_push]
  have e1 : H1[H.size]? = some (arrV (w.2.1 t) a.toNatClampNeg (fun _ => .null)) := by rw [← hH1, Array.getElem?_push_size, ← arrV_new]
  have o1 : ∀ q : Nat, q < H.size → H1[q]? = H[q]? := fun q hq => by rw [← hH1, Array.getElem?_push, if_neg (Nat.ne_of_lt hq)]
  have hb0 : va_at w.1 zcl (b + n, .inl (w.2.1 t, a.toNatClampNeg, .inr (.inr (.inr (.inr fun _ => none))))) H1 := by rw [← hz]; exact e1
  have kk1 := kk H1 locs (zEs_push hP o1 hb0) (zgrow hS hz (by rw [z1, hz]) (fun q hq => o1 q (by rw [hz]; exact hq)))
  rw [← hz] at kk1
  exact kk1
theorem n_iast (pc : Nat) (C : zNC w X b n0 l0 cc own nL R0) {i N : Nat} {a x : Int32} {f : Nat → Int32} (hd : decode cc pc = .ok (.iastore, 1)) (hi : i < n) (he : es i = .inl (w.2.1 0, N, .inl f)) (hin : zi a N = true) {es1 : Nat → va_E} (h1e : va_up es i (.inl (w.2.1 0, N, .inl (upd f a.toNatClampNeg x))) = es1) (kk : zN w X b Q n es1 k sl (pc + 1) ls st) : zN w X b Q n es k sl pc ls (.int x :: .int a :: .ref (b + i) :: st) := by
  subst h1e
  obtain ⟨p, l, e, R, s, m, args, below, meth, cd⟩ := X
  intro H locs hP hS
  refine va_iast C.1.2.1 C.1.2.2.1 C.2.1.1 hP zEs_D hS i 0 (by rw [zEs_at hi, he]) rfl (zi_in hin) hd (fun H1 locs1 hP1 hD1 hS1 => ?_)
  rw [zEs_set hi] at hP1
  exact kk H1 locs1 hP1 hS1
theorem n_aast (pc : Nat) (C : zNC w X b n0 l0 cc own nL R0) {i j N t ci : Nat} {a : Int32} {q : vw_C} {vs : List Value} {f : Nat → Option Nat} (hd : decode cc pc = .ok (.aastore, 1)) (hi : i < n) (he : es i = .inl (w.2.1 t, N, .inr (.inr (.inr (.inr f))))) (ht : (zty w)[t]? = some (w.2.1 t, .object q.1)) (hj : j < n) (hv : es j = .inr (ci, vs)) (hq : zcl[ci]? = some q) (hin : zi a N = true) {es1 : Nat → va_E} (h1e : va_up es i (.inl (w.2.1 t, N, .inr (.inr (.inr (.inr (va_up f a.toNatClampNeg (some (b + j)))))))) = es1) (kk : zN w X b Q n es1 k sl (pc + 1) ls st) : zN w X b Q n es k sl pc ls (.ref (b + j) :: .int a :: .ref (b + i) :: st) := by
  subst h1e
  obtain ⟨p, l, e, R, s, m, args, below, meth, cd⟩ := X
  intro H locs hP hS
  refine va_astq C.1.2.1 C.1.2.2.1 C.2.1.1 hP zEs_D hS i t j ci (by rw [zEs_at hi, he]) ht (by rw [zEs_at hj, hv]) hq (zi_in hin) hd (fun H1 locs1 hP1 hD1 hS1 => ?_)
  rw [zEs_set hi] at hP1
  exact kk H1 locs1 hP1 hS1
theorem zNP_blind {As : List Value} : FrameBlind (va_Pc As (zNP w b n es)) := by
  intro a U g mk q
  obtain ⟨q0, q1, q2, q3, q4⟩ := q
  exact ⟨q0, q1, q2, va_K.moved (u := U) (U := U.calling g mk a) (Vm.Alike.refl U.vm) q3, zNw.same (U := U.calling g mk a) rfl q4⟩
theorem zNcall {p : Program} {l : Launch} {e : Env} {R : Room} {s : State} {m : MethodId} {args : Array Value} {below : List Frame} {meth : Method} {c : Code} {H : Heap} {locs : List Loc} {pc : Nat} {rest st0 : List Value} {a : Array Value} {mc ms n1 : Nat} {es1 : Nat → va_E} (hr : va_Run p l e R s m args below meth c H locs k sl mc ms (F0 m pc ls st0) rest (zNQ w b n1 es1 a) (fun q => b ≤ q)) (hS : va_S (fun q => b ≤ q) s.heap H locs)
    (kk : ∀ (H1 : Heap) (locs1 : List Loc), va_P w.1 zcl (zEs b n1 es1) H1 → va_S (fun q => b ≤ q) s.heap H1 locs1 → W p l e R s m args below meth c H1 locs1 (k + mc) (sl + ms) Q (F0 m (pc + 3) ls rest)) : W p l e R s m args below meth c H locs k sl Q (F0 m pc ls st0) := by
  intro T hT X
  obtain ⟨v, st₀, t, T', K, h0, X', hL, e1, e2, ⟨hv, hw, hP, hz, hk⟩, st⟩ := hr T hT X
  cases hv
  rw [h0] at hz hk
  obtain ⟨t2, a1, b1⟩ := kk T'.heap (locs ++ K) (by rw [e1]; exact hP)
    ⟨Nat.le_trans hS.1 (by rw [e1]; exact hz), fun q h1 h2 => by rw [e1, hk q (Nat.lt_of_lt_of_le h1 hS.1) h2]; exact hS.2.1 q h1 h2, fun q hq => by
      rcases List.mem_append.mp hq with h | h
      · exact hS.2.2 q h
      · exact hL q h⟩ T' rfl X'
  exact ⟨t2, st t2 a1, b1⟩
theorem n_ctorI (pc : Nat) (C : zNC w X b n0 l0 cc own nL R0) {idx np maxL lev2 mc ms n1 i : Nat} {y : MethodName} {bytes : ByteArray} {As : List Value} {es1 : Nat → va_E} (st0 : List Value) (hd : decode cc pc = .ok (.invokespecial idx, 3)) (hl : Cond.methodLink own idx y ∈ zT) (hy : zYb y bytes maxL none np ∧ Cond.instanceMethod y ∈ zT) (hnm : y.name = "<init>") (hM : zNet w l0 y bytes maxL lev2 mc ms b (.ref (b + i) :: As) n es n1 es1) (hlev : lev2 + 1 ≤ R0.frames ∧ 8 + (maxL + 11) + 64 * lev2 ≤ R0.locals) (hnp : As.length = np) (hls : ls.size = nL) (hW : (st0.map fun v => v.category).sum ≤ 8) (hst : st = As.reverse ++ .ref (b + i) :: st0) (hn : n = n0 + k) (hf : k + mc ≤ R0.cells ∧ sl + ms ≤ R0.slots) (kk : zN w X b Q n1 es1 (k + mc) (sl + ms) (pc + 3) ls st0) : zN w X b Q n es k sl pc ls st := by
  obtain ⟨p, l, e, R, s, m, args, below, meth, cd⟩ := X
  intro H locs hP hS
  intro T hT ST
  have hR : R = R0 := C.2.2.2
  subst hR
  have hl0 : l = l0 := C.1.1
  subst hl0
  have hz := zsz C.2.1.2 hn hP hS hT ST
  obtain ⟨⟨y1, y2, y3, y4⟩, y5⟩ := hy
  have hB : CallB R s args own idx y bytes maxL none (.code y bytes maxL none :: zT) (zrn lev2 mc ms) mc ms np ∧ y.name = "<init>" ∧ (Cond.instanceMethod y).before args s = true := cwI np C.1.2.2.2.2.2 (lw_goodIn y1) rfl rfl rfl (C.1.2.2.2.2.2 _ y2) (C.1.2.2.2.2.2 _ hl) (C.1.2.2.2.2.2 _ y5) hnm y4 ⟨hlev.1, hlev.2⟩
  exact (zNcall (va_runI (b := b + i) (As := As) (rest := st0) ⟨C.1.2.1, C.1.2.2.1, C.1.2.2.2.1, C.1.2.2.2.2.1, C.1.2.2.2.2.2⟩ hM hB ⟨zNP_blind, fun U hU hW => ⟨rfl, by rw [hU]; exact hz, by rw [hU]; exact hP, va_K.moved hW.alike C.2.1.1, C.2.2.1.2.warm hW⟩⟩ rfl hnp hls hst (lv_room hW) hd hf) hS (fun H1 locs1 hP1 hS1 => kk H1 locs1 hP1 hS1)) T hT ST
theorem n_ctorIN (pc : Nat) (C : zNC w X b n0 l0 cc own nL R0) {idx np maxL lev2 mc ms n1 i : Nat} {host : String} {y : MethodName} {bytes : ByteArray} {As : List Value} {es1 : Nat → va_E} (st0 : List Value) (hd : decode cc pc = .ok (.invokespecial idx, 3)) (hl : ∀ U, zNw U → va_Nw (.methodLinkNest own idx y host) U) (hy : zYb y bytes maxL none np ∧ Cond.instanceMethod y ∈ zT) (hnm : y.name = "<init>") (hM : zNet w l0 y bytes maxL lev2 mc ms b (.ref (b + i) :: As) n es n1 es1) (hlev : lev2 + 1 ≤ R0.frames ∧ 8 + (maxL + 11) + 64 * lev2 ≤ R0.locals) (hnp : As.length = np) (hls : ls.size = nL) (hW : (st0.map fun v => v.category).sum ≤ 8) (hst : st = As.reverse ++ .ref (b + i) :: st0) (hn : n = n0 + k) (hf : k + mc ≤ R0.cells ∧ sl + ms ≤ R0.slots) (kk : zN w X b Q n1 es1 (k + mc) (sl + ms) (pc + 3) ls st0) : zN w X b Q n es k sl pc ls st := by
  obtain ⟨p, l, e, R, s, m, args, below, meth, cd⟩ := X
  intro H locs hP hS
  intro T hT ST
  have hR : R = R0 := C.2.2.2
  subst hR
  have hl0 : l = l0 := C.1.1
  subst hl0
  have hz := zsz C.2.1.2 hn hP hS hT ST
  obtain ⟨⟨y1, y2, y3, y4⟩, y5⟩ := hy
  have hB := And.intro (va_cnB (R := R) (args := args) (rm := zrn lev2 mc ms) (mc := mc) (ms := ms) np C.1.2.2.2.2.2 (lw_goodIn y1) rfl rfl rfl (hl _ C.2.2.1.2) (C.1.2.2.2.2.2 _ y2) y4 ⟨hlev.1, hlev.2⟩) (And.intro hnm (C.1.2.2.2.2.2 _ y5))
  exact (zNcall (va_runIN (b := b + i) (As := As) (rest := st0) ⟨C.1.2.1, C.1.2.2.1, C.1.2.2.2.1, C.1.2.2.2.2.1, C.1.2.2.2.2.2⟩ hM hB ⟨zNP_blind, fun U hU hW => ⟨rfl, by rw [hU]; exact hz, by rw [hU]; exact hP, va_K.moved hW.alike C.2.1.1, C.2.2.1.2.warm hW⟩⟩ rfl hnp hls hst (lv_room hW) hd hf) hS (fun H1 locs1 hP1 hS1 => kk H1 locs1 hP1 hS1)) T hT ST
theorem n_obj (pc : Nat) (C : zNC w X b n0 l0 cc own nL R0) {idx a : Nat} (hd : decode cc pc = .ok (.invokespecial idx, 3)) (hl : Cond.methodLink own idx Lib.objectInit ∈ zT) (hin : Cond.instanceMethod Lib.objectInit ∈ zT) (hco : Cond.code Lib.objectInit ⟨#[0xb1]⟩ 1 none ∈ zT) (hls : ls.size = nL) (hf : 1 ≤ R0.frames) (hlo : (st.map fun v => v.category).sum + 12 ≤ R0.locals) (kk : zN w X b Q n es k sl (pc + 3) ls st) : zN w X b Q n es k sl pc ls (.ref a :: st) := by
  obtain ⟨p, l, e, R, s, m, args, below, meth, cd⟩ := X
  intro H locs hP hS
  have hR : R = R0 := C.2.2.2
  subst hR
  exact W.objInit C.1.2.1 C.1.2.2.1 C.1.2.2.2.2.1 (C.1.2.2.2.2.2 _ hl) (C.1.2.2.2.2.2 _ hin) (C.1.2.2.2.2.2 _ hco) rfl (by rw [C.1.2.2.2.1]; exact hls) rfl hd hf (by show 2 * 0 + _ + 12 ≤ _; omega) (kk H locs hP hS)
end ZNR
section ZNE
variable {w : zWd} {X : zX} {b n0 n1 : Nat} {n : Nat} {es es1 : Nat → va_E} {k sl : Nat} {ls : Array Slot} {cc : ByteArray} {own : String} {nL lev : Nat} {l0 : Launch}
theorem zNet_of {y : MethodName} {maxL : Nat} {As : List Value} (hy : plainName y.cls = true) (hin : y.name = "<init>") (hn : (lg_sl As).length ≤ maxL) (body : ∀ (p : Program) (e : Env) (s : State) (m : MethodId) (below : List Frame) (meth : Method) (c : Code) (ls : Array Slot), meth.name = "<init>" → meth.sig.returnType = none → zNC w (p, l0, e, zrn lev k sl, s, m, As.toArray, below, meth, c) b n0 l0 cc y.cls maxL (zrn lev k sl) → lv_has ls maxL (lv_args 0 As) → zN w (p, l0, e, zrn lev k sl, s, m, As.toArray, below, meth, c) b (MQ below (zNQ w b n1 es1) As.toArray s k sl (fun q => b ≤ q)) n0 es 0 0 0 ls []) : zNet w l0 y cc maxL lev k sl b As n0 es n1 es1 := by
  refine Met.ofW (cc := cc) (maxL := maxL) (ret := none) hy rfl ?_
  intro p e s m args below meth c s₁ B hml hv
  obtain ⟨rfl, hz, hP, hK, hNw⟩ := hv
  have hl := lv_entry As (n := maxL) hn
  rw [lg_entry_eq]
  exact body p e s m below meth c _ ((name_of_methodNamed B.named B.method).1.trans hin) B.returns ⟨⟨rfl, B.exec, B.bytes, hml, findClass_of_methodNamed B.named, fun q hq => atoms_spec (ws := .code y cc maxL none :: zT) B.pre q (List.mem_cons_of_mem _ hq)⟩, ⟨hK, hz⟩, ⟨B.notSynchronized, hNw⟩, rfl⟩ hl s.heap [] hP va_S.rf
theorem n_return (pc : Nat) {p : Program} {e : Env} {R : Room} {s : State} {m : MethodId} {args : Array Value} {below : List Frame} {meth : Method} {c : Code} {R0 : Room} (C : zNC w (p, l0, e, R, s, m, args, below, meth, c) b n0 l0 cc own nL R0) (hr : meth.sig.returnType = none) (hd : decode cc pc = .ok (.return_, 1)) (hn : n = n0 + k) : zN w (p, l0, e, R, s, m, args, below, meth, c) b (MQ below (zNQ w b n es) args s k sl (fun q => b ≤ q)) n es k sl pc ls [] := by
  intro H locs hP hS T hT ST
  have hz := zsz C.2.1.2 hn hP hS hT ST
  exact (W.vret C.1.2.1 C.1.2.2.1 hr (fun t ht hW => ⟨rfl, by rw [ht]; exact hz, by rw [ht]; exact hP, hS.F ht⟩) hS.2.2 hd C.2.2.1.1) T hT ST
end ZNE
section ZNR
end ZNR
