theorem lw_good : zT.all goodWord = true := by decide +kernel
theorem lw_goodIn {y : MethodName} {bytes : ByteArray} {maxL : Nat} {ret : Option FieldType} (h : Cond.code y bytes maxL ret ∈ zT) : GoodIn zT (Cond.code y bytes maxL ret :: zT) := by
  intro q hq
  have hm : q ∈ zT := by
    rcases List.mem_cons.mp hq with rfl | hq
    · exact h
    · exact hq
  exact ⟨hm, good_of_word (List.all_eq_true.mp lw_good q hm)⟩
/-- what the tables say of a method: an instance's, a static one -/
def zYb (y : MethodName) (bytes : ByteArray) (maxL : Nat) (ret : Option FieldType) (n : Nat) : Prop := Cond.code y bytes maxL ret ∈ zT ∧ Cond.initialized y.cls ∈ zT ∧ maxL ≤ 40 ∧ (y.cls ≠ "java/lang/invoke/MethodHandle" ∧ y.cls ≠ "java/lang/invoke/VarHandle" ∧ (parseMethodDescriptor y.desc).map (fun d => d.parameters.length) = some n)
def zYv (y : MethodName) (bytes : ByteArray) (maxL : Nat) (ret : Option FieldType) (n : Nat) : Prop := zYb y bytes maxL ret n ∧ Cond.instanceMethod y ∈ zT ∧ Cond.selects y.cls y y ∈ zT
def zYs (y : MethodName) (bytes : ByteArray) (maxL : Nat) (ret : Option FieldType) (n : Nat) : Prop := zYb y bytes maxL ret n ∧ Cond.static y ∈ zT
theorem zWo_blind {L : zLay} {w : zWd} {S : zMem} {As : List Value} : FrameBlind (va_Pc As (zWo L w S)) := by
  intro a U g mk q
  obtain ⟨q0, q1, q2, q3, q4⟩ := q
  exact ⟨q0, q1, va_K.moved (u := U) (U := U.calling g mk a) (Vm.Alike.refl U.vm) q2, q3, zst.moved (u := U) (U := U.calling g mk a) (Vm.Alike.refl U.vm) q4⟩
section ZCL
variable {p : Program} {l : Launch} {e : Env} {R : Room} {s : State} {m : MethodId} {args : Array Value} {below : List Frame} {meth : Method} {c : Code} {H H0 : Heap} {locs : List Loc} {Q : State → Prop} {pc : Nat} {ls : Array Slot} {rest st0 : List Value} {a : Array Value} {L : zLay} {w : zWd} {S S2 : zMem} {rv : Option Value}
theorem zcall (hr : va_Run p l e R s m args below meth c H locs 0 0 0 0 (F0 m pc ls st0) rest (zQ L w rv S2 a) (zA L w)) (hS : va_S (zA L w) H0 H locs)
    (kk : ∀ (H1 : Heap) (locs1 : List Loc), va_P w.1 zcl (zcs L w S2) H1 → va_S (zA L w) H0 H1 locs1 → W p l e R s m args below meth c H1 locs1 0 0 Q (F0 m (pc + 3) ls (rv.toList ++ rest))) : W p l e R s m args below meth c H locs 0 0 Q (F0 m pc ls st0) := by
  intro T hT X
  obtain ⟨v, st₀, t, T', K, h0, X', hL, e1, e2, ⟨hv, hw, hz, hk⟩, st⟩ := hr T hT X
  cases hv
  rw [h0] at hz hk
  obtain ⟨t2, a1, b1⟩ := kk T'.heap (locs ++ K) (by rw [e1]; exact hw.1)
    ⟨Nat.le_trans hS.1 (by rw [e1]; exact hz), fun q h1 h2 => by rw [e1, hk q (Nat.lt_of_lt_of_le h1 hS.1) h2]; exact hS.2.1 q h1 h2, fun q hq => by
      rcases List.mem_append.mp hq with h | h
      · exact hS.2.2 q h
      · exact hL q h⟩ T' rfl X'
  exact ⟨t2, st t2 a1, b1⟩
theorem zWo_of (hK : va_K w.1 zcl (zty w) s) (hi : zinj L w) (hz : zst L w s s.heap) (hP : va_P w.1 zcl (zcs L w S) H) (hS : va_S (zA L w) s.heap H locs) {U : State} (hU : U.heap = H) (hW : s.WarmedH U.vm) : zWo L w S U :=
  ⟨by rw [hU]; exact hP, va_K.moved hW.alike hK, hi, by rw [hU]; exact (hz.kept hS.2.1).moved hW.alike⟩
end ZCL
section ZU
variable {L : zLay} {w : zWd} {X : zX} {r : Option Value} {S1 S : zMem} {ls : Array Slot} {st : List Value} {cc : ByteArray} {own : String} {nL lev : Nat} {ret : Option FieldType} {ρ : Type} {res : ρ} {l0 : Launch}
theorem v_callV (pc : Nat) (C : zC L w X l0 cc own nL lev ret) {idx n maxL lev2 c ci : Nat} {y : MethodName} {bytes : ByteArray} {rt : Option FieldType} {As : List Value} {S2 : zMem} {rv : Option Value} (st0 : List Value) (hd : decode cc pc = .ok (.invokevirtual idx, 3)) (hl : Cond.methodLink own idx y ∈ zT) (hy : zYv y bytes maxL rt n) (hM : zMet L w l0 y bytes maxL rt lev2 (.ref (w.2.2.1 c) :: As) S rv S2) (hlev : lev2 < lev) (hn : As.length = n) (hls : ls.size = nL)
    (hk : c < L.1 ∧ L.2.1 c = 3 + ci) (hq : (zcl[ci]?).map (fun q => q.1) = some y.cls) (hW : (st0.map fun v => v.category).sum ≤ 8) (hst : st = As.reverse ++ .ref (w.2.2.1 c) :: st0) (kk : zV L w X r S1 S2 (pc + 3) ls (rv.toList ++ st0)) : zV L w X r S1 S pc ls st := by
  obtain ⟨p, l, e, R, s, m, args, below, meth, cd⟩ := X
  intro H locs hP hS
  obtain ⟨⟨rfl, hx, hb, hml, hown, hts⟩, ⟨hK, hi, hz⟩, -, -, rfl⟩ := C
  obtain ⟨⟨y1, y2, y3, y4⟩, y5, y6⟩ := hy
  have hB : CallB (zrm lev) s args own idx y bytes maxL rt (.code y bytes maxL rt :: zT) (zrm lev2) 0 0 n := callB_of n hts (lw_goodIn y1) rfl rfl rfl (hts _ y2) (hts _ hl) y4 ⟨by show lev2 + 1 ≤ lev; omega, by show 8 + (maxL + 11) + 64 * lev2 ≤ 64 * lev; omega⟩
  obtain ⟨q, hq1, hq2⟩ := Option.map_eq_some_iff.mp hq
  have hrec : ∃ cellB : Cell, H[w.2.2.1 c]? = some cellB ∧ cellB.vm.isStatics = false ∧ s.vm.findClass y.cls = some cellB.cls := by
    rw [← hq2]
    exact va_recv hK hP (ci := ci) (q0 := c) hq1 (by rw [zcs_at hk.1, zce_o hk.2])
  exact zcall (va_runV (C := y.cls) (b := w.2.2.1 c) (As := As) (rest := st0) ⟨hx, hb, hml, hown, hts⟩ hM ⟨hB, hts _ y5, hts _ y6⟩ ⟨zWo_blind, hrec, fun U hU hW => ⟨rfl, zWo_of hK hi hz hP hS hU hW⟩⟩ rfl hn hls hst (lv_room hW) hd ⟨Nat.le_refl 0, Nat.le_refl 0⟩) hS (fun H1 locs1 hP1 hS1 => kk H1 locs1 hP1 hS1)
theorem v_callS (pc : Nat) (C : zC L w X l0 cc own nL lev ret) {idx n maxL lev2 : Nat} {y : MethodName} {bytes : ByteArray} {rt : Option FieldType} {As : List Value} {S2 : zMem} {rv : Option Value} (st0 : List Value) (hd : decode cc pc = .ok (.invokestatic idx, 3)) (hl : Cond.methodLink own idx y ∈ zT) (hy : zYs y bytes maxL rt n) (hM : zMet L w l0 y bytes maxL rt lev2 As S rv S2) (hlev : lev2 < lev) (hn : As.length = n) (hls : ls.size = nL)
    (hW : (st0.map fun v => v.category).sum ≤ 8) (hst : st = As.reverse ++ st0) (kk : zV L w X r S1 S2 (pc + 3) ls (rv.toList ++ st0)) : zV L w X r S1 S pc ls st := by
  obtain ⟨p, l, e, R, s, m, args, below, meth, cd⟩ := X
  intro H locs hP hS
  obtain ⟨⟨rfl, hx, hb, hml, hown, hts⟩, ⟨hK, hi, hz⟩, -, -, rfl⟩ := C
  obtain ⟨⟨y1, y2, y3, y4⟩, y5⟩ := hy
  have hB : CallB (zrm lev) s args own idx y bytes maxL rt (.code y bytes maxL rt :: zT) (zrm lev2) 0 0 n := callB_of n hts (lw_goodIn y1) rfl rfl rfl (hts _ y2) (hts _ hl) y4 ⟨by show lev2 + 1 ≤ lev; omega, by show 8 + (maxL + 11) + 64 * lev2 ≤ 64 * lev; omega⟩
  exact zcall (va_runS (As := As) (rest := st0) ⟨hx, hb, hml, hown, hts⟩ hM ⟨hB, hts _ y5⟩ ⟨zWo_blind, fun U hU hW => ⟨rfl, zWo_of hK hi hz hP hS hU hW⟩⟩ rfl hn hls hst (lv_room hW) hd ⟨Nat.le_refl 0, Nat.le_refl 0⟩) hS (fun H1 locs1 hP1 hS1 => kk H1 locs1 hP1 hS1)
theorem v_ireturn (pc : Nat) (C : zC L w X l0 cc own nL lev (some .int)) {x y : Int32} (hd : decode cc pc = .ok (.ireturn, 1)) (h : some (y, S) = some (x, S1)) : zV L w X (some (.int x)) S1 S pc ls [.int y] := by
  cases h
  obtain ⟨p, l, e, R, s, m, args, below, meth, cd⟩ := X
  intro H locs hP hS
  obtain ⟨⟨rfl, hx, hb, hml, hown, hts⟩, ⟨hK, hi, hz⟩, hlk, hr, rfl⟩ := C
  exact W.iret hx hb hr (fun t ht hW => ⟨rfl, zWo_of hK hi hz hP hS ht hW, hS.F ht⟩) hS.2.2 hd hlk
theorem v_zreturn (pc : Nat) (C : zC L w X l0 cc own nL lev (some .boolean)) {x y : Int32} (hd : decode cc pc = .ok (.ireturn, 1)) (h : zc (zbo y) (some (y, S)) = some (x, S1)) : zV L w X (some (.int x)) S1 S pc ls [.int y] := by
  obtain ⟨hb1, h⟩ := zc_e h
  cases h
  have hx1 : x = 0 ∨ x = 1 := by simpa [zbo] using hb1
  obtain ⟨p, l, e, R, s, m, args, below, meth, cd⟩ := X
  intro H locs hP hS
  obtain ⟨⟨rfl, hx, hb, hml, hown, hts⟩, ⟨hK, hi, hz⟩, hlk, hr, rfl⟩ := C
  exact W.zret hx hb hr (by rcases hx1 with rfl | rfl <;> decide) (fun t ht hW => ⟨rfl, zWo_of hK hi hz hP hS ht hW, hS.F ht⟩) hS.2.2 hd hlk
theorem v_lreturn (pc : Nat) (C : zC L w X l0 cc own nL lev (some .long)) {x y : Int64} (hd : decode cc pc = .ok (.lreturn, 1)) (h : some (y, S) = some (x, S1)) : zV L w X (some (.long x)) S1 S pc ls [.long y] := by
  cases h
  obtain ⟨p, l, e, R, s, m, args, below, meth, cd⟩ := X
  intro H locs hP hS
  obtain ⟨⟨rfl, hx, hb, hml, hown, hts⟩, ⟨hK, hi, hz⟩, hlk, hr, rfl⟩ := C
  exact W.lret hx hb hr (fun t ht hW => ⟨rfl, zWo_of hK hi hz hP hS ht hW, hS.F ht⟩) hS.2.2 hd hlk
theorem v_return (pc : Nat) (C : zC L w X l0 cc own nL lev none) {x y : Unit} (hd : decode cc pc = .ok (.return_, 1)) (h : some (y, S) = some (x, S1)) : zV L w X none S1 S pc ls [] := by
  cases h
  obtain ⟨p, l, e, R, s, m, args, below, meth, cd⟩ := X
  intro H locs hP hS
  obtain ⟨⟨rfl, hx, hb, hml, hown, hts⟩, ⟨hK, hi, hz⟩, hlk, hr, rfl⟩ := C
  exact W.vret hx hb hr (fun t ht hW => ⟨rfl, zWo_of hK hi hz hP hS ht hW, hS.F ht⟩) hS.2.2 hd hlk
theorem zMet_of {y : MethodName} {maxL : Nat} {rt : Option FieldType} {As : List Value} (hy : plainName y.cls = true) (hn : (lg_sl As).length ≤ maxL) (body : ∀ (X : zX) (ls : Array Slot), zC L w X l0 cc y.cls maxL lev rt → lv_has ls maxL (lv_args 0 As) → zV L w X r S1 S 0 ls []) : zMet L w l0 y cc maxL rt lev As S r S1 := by
  refine Met.ofW (cc := cc) (maxL := maxL) (ret := rt) hy rfl ?_
  intro p e s m args below meth c s₁ B hml hv
  obtain ⟨rfl, hP, hK, hi, hz⟩ := hv
  have hl := lv_entry As (n := maxL) hn
  rw [lg_entry_eq]
  exact body (p, l0, e, zrm lev, s, m, As.toArray, below, meth, c) _ ⟨⟨rfl, B.exec, B.bytes, hml, findClass_of_methodNamed B.named, fun q hq => atoms_spec (ws := .code y cc maxL rt :: zT) B.pre q (List.mem_cons_of_mem _ hq)⟩, ⟨hK, hi, hz⟩, B.notSynchronized, B.returns, rfl⟩ hl s.heap [] hP va_S.rf
end ZU
