/-! the judgement zV: the machine at a pc, over the world with memory S, comes to its end with the answer r and the memory S1 -/
abbrev zX : Type := Program × Launch × Env × Room × State × MethodId × Array Value × List Frame × Method × Code
def zrm (lev : Nat) : Room := { frames := lev, cells := 0, slots := 0, locals := 64 * lev }
def zQ (L : zLay) (w : zWd) (r : Option Value) (S1 : zMem) : Array Value → State → Outcome → State → Prop := fun _ st oc t => oc = .returned r ∧ zWo L w S1 t ∧ va_F (zA L w) st t
def zMet (L : zLay) (w : zWd) (l : Launch) (y : MethodName) (bytes : ByteArray) (maxL : Nat) (ret : Option FieldType) (lev : Nat) (As : List Value) (S : zMem) (r : Option Value) (S1 : zMem) : Prop :=
  Met l y (.code y bytes maxL ret :: zT) (zrm lev) (va_Pc As (zWo L w S)) (zQ L w r S1) 0 0 (zA L w)
def zV (L : zLay) (w : zWd) (X : zX) (r : Option Value) (S1 S : zMem) (pc : Nat) (ls : Array Slot) (st : List Value) : Prop := match X with
  | (p, l, e, R, s, m, args, below, meth, c) => ∀ (H : Heap) (locs : List Loc), va_P w.1 zcl (zcs L w S) H → va_S (zA L w) s.heap H locs → W p l e R s m args below meth c H locs 0 0 (MQ below (zQ L w r S1) args s 0 0 (zA L w)) (F0 m pc ls st)
def zC (L : zLay) (w : zWd) (X : zX) (l0 : Launch) (cc : ByteArray) (own : String) (nL lev : Nat) (ret : Option FieldType) : Prop := match X with
  | (p, l, _, R, s, m, args, _, meth, c) => (l = l0 ∧ p.tables.exec = Jvm.exec ∧ c.code = cc ∧ c.maxLocals = nL ∧ s.vm.findClass own = some m.cls ∧ (∀ q ∈ zT, q.before args s = true)) ∧ (va_K w.1 zcl (zty w) s ∧ zinj L w ∧ zst L w s s.heap) ∧ meth.locks = false ∧ meth.sig.returnType = ret ∧ R = zrm lev
section ZR
variable {L : zLay} {w : zWd} {X : zX} {r : Option Value} {S1 S : zMem} {ls : Array Slot} {st : List Value} {cc : ByteArray} {own : String} {nL lev : Nat} {ret : Option FieldType} {ρ : Type} {res : ρ} {lv : List (Nat × Value)} {l0 : Launch}
theorem v_iconst (pc : Nat) (C : zC L w X l0 cc own nL lev ret) {n : Int} {v : Int32} (hd : decode cc pc = .ok (.iconst n, 1)) (hv : Int32.ofInt n = v) (k : zV L w X r S1 S (pc + 1) ls (.int v :: st)) : zV L w X r S1 S pc ls st := by
  obtain ⟨p, l, e, R, s, m, args, below, meth, c⟩ := X
  intro H locs hP hS
  exact lv_iconst C.1.2.1 C.1.2.2.1 hd hv (k H locs hP hS)
theorem v_bipush (pc : Nat) (C : zC L w X l0 cc own nL lev ret) {n : Int} {v : Int32} (hd : decode cc pc = .ok (.bipush n, 2)) (hv : (Int8.ofInt n).toInt32 = v) (k : zV L w X r S1 S (pc + 2) ls (.int v :: st)) : zV L w X r S1 S pc ls st := by
  obtain ⟨p, l, e, R, s, m, args, below, meth, c⟩ := X
  intro H locs hP hS
  exact lv_bipush C.1.2.1 C.1.2.2.1 hd hv (k H locs hP hS)
theorem v_sipush (pc : Nat) (C : zC L w X l0 cc own nL lev ret) {n : Int} {v : Int32} (hd : decode cc pc = .ok (.sipush n, 3)) (hv : (Int16.ofInt n).toInt32 = v) (k : zV L w X r S1 S (pc + 3) ls (.int v :: st)) : zV L w X r S1 S pc ls st := by
  obtain ⟨p, l, e, R, s, m, args, below, meth, c⟩ := X
  intro H locs hP hS
  exact lv_sipush C.1.2.1 C.1.2.2.1 hd hv (k H locs hP hS)
theorem v_lconst (pc : Nat) (C : zC L w X l0 cc own nL lev ret) {n : Fin 2} {v : Int64} (hd : decode cc pc = .ok (.lconst n, 1)) (hv : Int64.ofNat (n : Nat) = v) (k : zV L w X r S1 S (pc + 1) ls (.long v :: st)) : zV L w X r S1 S pc ls st := by
  obtain ⟨p, l, e, R, s, m, args, below, meth, c⟩ := X
  intro H locs hP hS
  exact lv_lconst C.1.2.1 C.1.2.2.1 hd hv (k H locs hP hS)
theorem v_ldc (pc : Nat) (C : zC L w X l0 cc own nL lev ret) {idx : Nat} {v : Int32} (hd : decode cc pc = .ok (.ldc idx, 2)) (hw : Cond.constant own idx v ∈ zT) (k : zV L w X r S1 S (pc + 2) ls (.int v :: st)) : zV L w X r S1 S pc ls st := by
  obtain ⟨p, l, e, R, s, m, args, below, meth, c⟩ := X
  intro H locs hP hS
  exact lv_ldc C.1.2.1 C.1.2.2.1 C.1.2.2.2.2.1 (C.1.2.2.2.2.2 _ hw) hd (k H locs hP hS)
theorem v_ldc2 (pc : Nat) (C : zC L w X l0 cc own nL lev ret) {idx : Nat} {v : Int64} (hd : decode cc pc = .ok (.ldc2_w idx, 3)) (hw : Cond.constantLong own idx v ∈ zT) (k : zV L w X r S1 S (pc + 3) ls (.long v :: st)) : zV L w X r S1 S pc ls st := by
  obtain ⟨p, l, e, R, s, m, args, below, meth, c⟩ := X
  intro H locs hP hS
  exact lv_ldc2 C.1.2.1 C.1.2.2.1 C.1.2.2.2.2.1 (C.1.2.2.2.2.2 _ hw) hd (k H locs hP hS)
theorem v_iload_n (pc : Nat) (C : zC L w X l0 cc own nL lev ret) {k : Fin 4} {i : Nat} {x : Int32} (hd : decode cc pc = .ok (.iload_n k, 1)) (hi : (k : Nat) = i) (hl : ls[i]? = some (.val (.int x))) (kk : zV L w X r S1 S (pc + 1) ls (.int x :: st)) : zV L w X r S1 S pc ls st := by
  obtain ⟨p, l, e, R, s, m, args, below, meth, c⟩ := X
  intro H locs hP hS
  exact lv_iload_n C.1.2.1 C.1.2.2.1 hd hi hl (kk H locs hP hS)
theorem v_iload (pc : Nat) (C : zC L w X l0 cc own nL lev ret) {i : Nat} {x : Int32} (hd : decode cc pc = .ok (.iload i, 2)) (hl : ls[i]? = some (.val (.int x))) (kk : zV L w X r S1 S (pc + 2) ls (.int x :: st)) : zV L w X r S1 S pc ls st := by
  obtain ⟨p, l, e, R, s, m, args, below, meth, c⟩ := X
  intro H locs hP hS
  exact lv_iload C.1.2.1 C.1.2.2.1 hd hl (kk H locs hP hS)
theorem v_lload_n (pc : Nat) (C : zC L w X l0 cc own nL lev ret) {k : Fin 4} {i : Nat} {x : Int64} (hd : decode cc pc = .ok (.lload_n k, 1)) (hi : (k : Nat) = i) (hl : ls[i]? = some (.val (.long x))) (kk : zV L w X r S1 S (pc + 1) ls (.long x :: st)) : zV L w X r S1 S pc ls st := by
  obtain ⟨p, l, e, R, s, m, args, below, meth, c⟩ := X
  intro H locs hP hS
  exact lv_lload_n C.1.2.1 C.1.2.2.1 hd hi hl (kk H locs hP hS)
theorem v_lload (pc : Nat) (C : zC L w X l0 cc own nL lev ret) {i : Nat} {x : Int64} (hd : decode cc pc = .ok (.lload i, 2)) (hl : ls[i]? = some (.val (.long x))) (kk : zV L w X r S1 S (pc + 2) ls (.long x :: st)) : zV L w X r S1 S pc ls st := by
  obtain ⟨p, l, e, R, s, m, args, below, meth, c⟩ := X
  intro H locs hP hS
  exact lv_lload C.1.2.1 C.1.2.2.1 hd hl (kk H locs hP hS)
theorem v_aload_n (pc : Nat) (C : zC L w X l0 cc own nL lev ret) {k : Fin 4} {i x : Nat} (hd : decode cc pc = .ok (.aload_n k, 1)) (hi : (k : Nat) = i) (hl : ls[i]? = some (.val (.ref x))) (kk : zV L w X r S1 S (pc + 1) ls (.ref x :: st)) : zV L w X r S1 S pc ls st := by
  obtain ⟨p, l, e, R, s, m, args, below, meth, c⟩ := X
  intro H locs hP hS
  exact lv_aload_n C.1.2.1 C.1.2.2.1 hd hi hl (kk H locs hP hS)
theorem v_aload (pc : Nat) (C : zC L w X l0 cc own nL lev ret) {i x : Nat} (hd : decode cc pc = .ok (.aload i, 2)) (hl : ls[i]? = some (.val (.ref x))) (kk : zV L w X r S1 S (pc + 2) ls (.ref x :: st)) : zV L w X r S1 S pc ls st := by
  obtain ⟨p, l, e, R, s, m, args, below, meth, c⟩ := X
  intro H locs hP hS
  exact lv_aload C.1.2.1 C.1.2.2.1 hd hl (kk H locs hP hS)
theorem v_istore_n (pc : Nat) (C : zC L w X l0 cc own nL lev ret) {k : Fin 4} {i : Nat} {x : Int32} (lv' : List (Nat × Value)) (hd : decode cc pc = .ok (.istore_n k, 1)) (hi : (k : Nat) = i) (h : lv_has ls nL lv) (hn : i < nL) (hl : (i, Value.int x) :: lv.filter (fun q => !(q.1 == i) && !(q.1 + 1 == i && q.2.category == 2)) = lv') (kk : ∀ ls' : Array Slot, lv_has ls' nL lv' → zV L w X r S1 S (pc + 1) ls' st) : zV L w X r S1 S pc ls (.int x :: st) := by
  obtain ⟨p, l, e, R, s, m, args, below, meth, c⟩ := X
  intro H locs hP hS
  exact lv_istore_n C.1.2.1 C.1.2.2.1 hd hi h hn hl (fun ls' h' => kk ls' h' H locs hP hS)
theorem v_istore (pc : Nat) (C : zC L w X l0 cc own nL lev ret) {i : Nat} {x : Int32} (lv' : List (Nat × Value)) (hd : decode cc pc = .ok (.istore i, 2)) (h : lv_has ls nL lv) (hn : i < nL) (hl : (i, Value.int x) :: lv.filter (fun q => !(q.1 == i) && !(q.1 + 1 == i && q.2.category == 2)) = lv') (kk : ∀ ls' : Array Slot, lv_has ls' nL lv' → zV L w X r S1 S (pc + 2) ls' st) : zV L w X r S1 S pc ls (.int x :: st) := by
  obtain ⟨p, l, e, R, s, m, args, below, meth, c⟩ := X
  intro H locs hP hS
  exact lv_istore C.1.2.1 C.1.2.2.1 hd h hn hl (fun ls' h' => kk ls' h' H locs hP hS)
theorem v_lstore_n (pc : Nat) (C : zC L w X l0 cc own nL lev ret) {k : Fin 4} {i : Nat} {x : Int64} (lv' : List (Nat × Value)) (hd : decode cc pc = .ok (.lstore_n k, 1)) (hi : (k : Nat) = i) (h : lv_has ls nL lv) (hn : i + 1 < nL) (hl : (i, Value.long x) :: lv.filter (fun q => !(q.1 == i) && (!(q.1 == i + 1) && !(q.1 + 1 == i && q.2.category == 2))) = lv') (kk : ∀ ls' : Array Slot, lv_has ls' nL lv' → zV L w X r S1 S (pc + 1) ls' st) : zV L w X r S1 S pc ls (.long x :: st) := by
  obtain ⟨p, l, e, R, s, m, args, below, meth, c⟩ := X
  intro H locs hP hS
  exact lv_lstore_n C.1.2.1 C.1.2.2.1 hd hi h hn hl (fun ls' h' => kk ls' h' H locs hP hS)
theorem v_lstore (pc : Nat) (C : zC L w X l0 cc own nL lev ret) {i : Nat} {x : Int64} (lv' : List (Nat × Value)) (hd : decode cc pc = .ok (.lstore i, 2)) (h : lv_has ls nL lv) (hn : i + 1 < nL) (hl : (i, Value.long x) :: lv.filter (fun q => !(q.1 == i) && (!(q.1 == i + 1) && !(q.1 + 1 == i && q.2.category == 2))) = lv') (kk : ∀ ls' : Array Slot, lv_has ls' nL lv' → zV L w X r S1 S (pc + 2) ls' st) : zV L w X r S1 S pc ls (.long x :: st) := by
  obtain ⟨p, l, e, R, s, m, args, below, meth, c⟩ := X
  intro H locs hP hS
  exact lv_lstore C.1.2.1 C.1.2.2.1 hd h hn hl (fun ls' h' => kk ls' h' H locs hP hS)
theorem v_astore_n (pc : Nat) (C : zC L w X l0 cc own nL lev ret) {k : Fin 4} {i x : Nat} (lv' : List (Nat × Value)) (hd : decode cc pc = .ok (.astore_n k, 1)) (hi : (k : Nat) = i) (h : lv_has ls nL lv) (hn : i < nL) (hl : (i, Value.ref x) :: lv.filter (fun q => !(q.1 == i) && !(q.1 + 1 == i && q.2.category == 2)) = lv') (kk : ∀ ls' : Array Slot, lv_has ls' nL lv' → zV L w X r S1 S (pc + 1) ls' st) : zV L w X r S1 S pc ls (.ref x :: st) := by
  obtain ⟨p, l, e, R, s, m, args, below, meth, c⟩ := X
  intro H locs hP hS
  exact lv_astore_n C.1.2.1 C.1.2.2.1 hd hi h hn hl (fun ls' h' => kk ls' h' H locs hP hS)
theorem v_astore (pc : Nat) (C : zC L w X l0 cc own nL lev ret) {i x : Nat} (lv' : List (Nat × Value)) (hd : decode cc pc = .ok (.astore i, 2)) (h : lv_has ls nL lv) (hn : i < nL) (hl : (i, Value.ref x) :: lv.filter (fun q => !(q.1 == i) && !(q.1 + 1 == i && q.2.category == 2)) = lv') (kk : ∀ ls' : Array Slot, lv_has ls' nL lv' → zV L w X r S1 S (pc + 2) ls' st) : zV L w X r S1 S pc ls (.ref x :: st) := by
  obtain ⟨p, l, e, R, s, m, args, below, meth, c⟩ := X
  intro H locs hP hS
  exact lv_astore C.1.2.1 C.1.2.2.1 hd h hn hl (fun ls' h' => kk ls' h' H locs hP hS)
theorem v_iinc (pc : Nat) (C : zC L w X l0 cc own nL lev ret) {i k : Nat} {n : Int} {x nn : Int32} (lv' : Int32 → List (Nat × Value)) (hd : decode cc pc = .ok (.iinc i n, 3)) (h : lv_has ls nL lv) (hk : lv[k]? = some (i, .int x)) (hnn : Int32.ofInt n = nn) (hn : i < nL) (hl : ∀ v, (i, Value.int v) :: lv.filter (fun q => !(q.1 == i) && !(q.1 + 1 == i && q.2.category == 2)) = lv' v) {K : Int32 → Option ρ} (hK : zl (x + nn) K = some res) (kk : ∀ (v : Int32) (ls' : Array Slot), lv_has ls' nL (lv' v) → K v = some res → zV L w X r S1 S (pc + 3) ls' st) : zV L w X r S1 S pc ls st := by
  obtain ⟨p, l, e, R, s, m, args, below, meth, c⟩ := X
  intro H locs hP hS
  exact lv_iinc (v := x + nn) C.1.2.1 C.1.2.2.1 hd h hk (by rw [hnn]) hn (hl _) (fun ls' h' => kk _ ls' h' hK H locs hP hS)
end ZR
