/-! THE CLAIM OUT OF ONE WALK OF THE LAW'S BODY. Your part is whole_start (and what it stands on); all else here is the same for every law, but numbers. -/
def R_law : String := "LetterEndsLaw"
def lw_P (b : Addr) (xs : List Int32) (args : Array Value) (s : State) : Prop := args = #[.ref b] ∧ s.IntsAt b xs ∧ xs.length ≤ 384 ∧ (Jvm.Cond.and given_1 narrow_1).before args s = true
def lw_Q (_ : Array Value) (s : State) (o : Outcome) (t : State) : Prop := o = .returned (some (.int 1)) ∧ Framed s o t [] 600000 7302250
def lw_Z (below : List Frame) (a : Array Value) (s : State) : State → Prop := fun t => ∃ o, t.status = .running ∧ Ended t below o ∧ lw_Q a s o t
/-- the law's own end, with 1 on the stack, nothing written that was there before, its room as the claim has it -/
theorem lw_ret {p : Program} {l : Launch} {e : Env} {s : State} {m : MethodId} {below : List Frame} {meth : Method} {c : Code} {b : Nat} (hx : p.tables.exec = Jvm.exec) (hb : c.code = code) (hr : meth.sig.returnType = ret) (hlocks : meth.locks = false) {pc : Nat} {H : Heap} {ls : Array Slot} (hdg : decode code pc = .ok (.ireturn, 1)) : W p l e room_1 s m #[Value.ref b] below meth c H [] 600000 7302250 (lw_Z below #[Value.ref b] s) (F0 m pc ls [.int 1]) := by
  intro T hT X
  obtain ⟨fs, hret, hrun, hended, hW, hframe⟩ := X.leave (v := some (.int 1)) (hlocks := hlocks) (fun h => by rw [hr] at h; cases h)
  have hmeth' : T.vm.method? m = some meth := X.method'
  refine ⟨T.setFrames fs, ?_, .returned (some (.int 1)), hrun, hended, rfl, ⟨_, rfl⟩, hW, hframe⟩
  jvm_step X.here [X.here.top, hx, hb, hdg, hmeth', hr, ret, narrow_b1]
  (try refine ⟨rfl, ?_⟩); (try refine ⟨rfl, ?_⟩)
  first | (intro acts; rw [hret _ acts rfl rfl rfl]) | rw [hret _ _ rfl rfl rfl]
  exact Steps.refl _
/-- what holds at the law's entry: the machine, the code, the tables' words (any of lw_tbl by 'hts w (by decide +kernel)'), the script of L ints xs at the cell b, what the Statement gives of the start (any of its parts by flat_of_before) -/
def lw_At (p : Program) (s : State) (m : MethodId) (meth : Method) (c : Code) (b L : Nat) (xs : Nat → Int32) : Prop :=
  p.tables.exec = Jvm.exec ∧ c.code = code ∧ meth.sig.returnType = ret ∧ c.maxLocals = 4 ∧ s.vm.findClass R_law = some m.cls ∧ (∀ w ∈ lw_tbl, w.before #[Value.ref b] s = true) ∧ va_X b L xs s s.heap ∧ b < s.heap.size ∧ meth.locks = false ∧ (Jvm.Cond.and given_1 narrow_1).before #[Value.ref b] s = true
/-! THE LAW: both worlds stand in the heap; its 42 cases; its loop -/
abbrev zLX : Type := Program × Launch × Env × State × MethodId × List Frame × Method × Code × Nat
def zL (wc wm : zWd) (X : zLX) (Sc Sm : zMem) (pc : Nat) (ls : Array Slot) (st : List Value) : Prop := match X with
  | (p, l, e, s, m, below, meth, c, bs) => ∀ (H : Heap) (locs : List Loc), va_P wc.1 zcl (zcs LC wc Sc) H → va_P wm.1 zcl (zcs LM wm Sm) H → va_S (fun q => s.heap.size ≤ q) s.heap H locs → W p l e room_1 s m #[Value.ref bs] below meth c H locs 83 4558 (lw_Z below #[Value.ref bs] s) (F0 m pc ls st)
def zLK (wc wm : zWd) (X : zLX) (l0 : Launch) (L : Nat) (xs : Nat → Int32) : Prop := match X with
  | (p, l, _, s, m, _, meth, c, bs) => (l = l0 ∧ p.tables.exec = Jvm.exec ∧ c.code = code ∧ c.maxLocals = 4 ∧ s.vm.findClass RL = some m.cls ∧ (∀ q ∈ zT, q.before #[Value.ref bs] s = true)) ∧ (va_X bs L xs s s.heap ∧ bs < s.heap.size ∧ L ≤ 384) ∧ (va_K wc.1 zcl (zty wc) s ∧ zinj LC wc ∧ zst LC wc s s.heap) ∧ (va_K wm.1 zcl (zty wm) s ∧ zinj LM wm ∧ zst LM wm s s.heap) ∧ (∀ q, zA LC wc q → s.heap.size ≤ q ∧ ¬ zA LM wm q) ∧ (∀ q, zA LM wm q → s.heap.size ≤ q ∧ ¬ zA LC wc q) ∧ meth.locks = false ∧ meth.sig.returnType = ret
section ZLL
variable {wc wm : zWd} {X : zLX} {Sc Sm : zMem} {ls : Array Slot} {st : List Value} {l0 : Launch} {L : Nat} {xs : Nat → Int32}
theorem l_aload (pc : Nat) (C : zLK wc wm X l0 L xs) {j : Fin 4} {i x : Nat} (hd : decode cL_law pc = .ok (.aload_n j, 1)) (hi : (j : Nat) = i) (hl : ls[i]? = some (.val (.ref x))) (kk : zL wc wm X Sc Sm (pc + 1) ls (.ref x :: st)) : zL wc wm X Sc Sm pc ls st := by
  obtain ⟨p, l, e, s, m, below, meth, c, bs⟩ := X
  intro H locs hP hQ hS
  exact lv_aload_n C.1.2.1 C.1.2.2.1 hd hi hl (kk H locs hP hQ hS)
theorem l_arg (pc j : Nat) (C : zLK wc wm X l0 L xs) {i a1 a2 bs0 : Nat} (hbs : match X with | (_, _, _, _, _, _, _, _, bs) => bs = bs0) (hl : lv_has ls 4 [(0, .ref bs0), (1, .ref a1), (2, .ref a2), (3, .int (nI i))]) (d0 : decode cL_law pc = .ok (.aload_n 0, 1)) (d1 : decode cL_law (pc + 1) = .ok (.iload_n 3, 1)) (d2 : decode cL_law (pc + 2) = .ok (.iconst (j : Int), 1)) (d3 : decode cL_law (pc + 3) = .ok (.iadd, 1)) (d4 : decode cL_law (pc + 4) = .ok (.iaload, 1)) (hj : j ≤ 5) (hij : i + 6 ≤ L) (kk : zL wc wm X Sc Sm (pc + 5) ls (.int (xs (i + j)) :: st)) : zL wc wm X Sc Sm pc ls st := by
  obtain ⟨p, l, e, s, m, below, meth, c, bs⟩ := X
  subst hbs
  intro H locs hP hQ hS
  obtain ⟨⟨-, hx, hb, -⟩, ⟨hX, hbl, hL⟩, -⟩ := C
  refine lv_aload_n hx hb d0 rfl (lv_at hl 0 rfl) ?_
  refine lv_iload_n hx hb d1 rfl (lv_at hl 3 rfl) ?_
  refine lv_iconst (v := nI j) hx hb d2 (by rfl) ?_
  refine lv_iadd hx hb d3 ?_
  rw [nI_add]
  refine va_sld hx hb hX hbl (A := fun q => s.heap.size ≤ q) (Nat.not_le.mpr hbl) hS (vp_in_nI (by omega) (by omega)) d4 ?_
  rw [nI_clamp (by omega)]
  exact kk H locs hP hQ hS
theorem l_callC (pc : Nat) (C : zLK wc wm X l0 L xs) {idx n maxL lev2 ci : Nat} {y : MethodName} {bytes : ByteArray} {rt : Option FieldType} {As : List Value} {S2 : zMem} {rv : Option Value} (st0 : List Value) (hd : decode cL_law pc = .ok (.invokevirtual idx, 3)) (hl : Cond.methodLink RL idx y ∈ zT) (hy : zYv y bytes maxL rt n) (hM : zMet LC wc l0 y bytes maxL rt lev2 (.ref (wc.2.2.1 0) :: As) Sc rv S2) (hlev : lev2 + 1 ≤ 2048 ∧ 8 + (maxL + 11) + 64 * lev2 ≤ 84000) (hn : As.length = n) (hls : ls.size = 4) (hci : LC.2.1 0 = 3 + ci) (hq : (zcl[ci]?).map (fun q => q.1) = some y.cls) (hW : (st0.map fun v => v.category).sum ≤ 8) (hst : st = As.reverse ++ .ref (wc.2.2.1 0) :: st0) (kk : zL wc wm X S2 Sm (pc + 3) ls (rv.toList ++ st0)) : zL wc wm X Sc Sm pc ls st := by
  obtain ⟨p, l, e, s, m, below, meth, c, bs⟩ := X
  intro H locs hP hQ hS
  obtain ⟨⟨rfl, hx, hb, hml, hown, hts⟩, -, ⟨hK, hi, hz⟩, -, hdis, -⟩ := C
  obtain ⟨⟨y1, y2, y3, y4⟩, y5, y6⟩ := hy
  have hB : CallB room_1 s #[Value.ref bs] RL idx y bytes maxL rt (.code y bytes maxL rt :: zT) (zrm lev2) 0 0 n := callB_of n hts (lw_goodIn y1) rfl rfl rfl (hts _ y2) (hts _ hl) y4 hlev
  obtain ⟨q, hq1, hq2⟩ := Option.map_eq_some_iff.mp hq
  have hrec : ∃ cellB : Cell, H[wc.2.2.1 0]? = some cellB ∧ cellB.vm.isStatics = false ∧ s.vm.findClass y.cls = some cellB.cls := by
    rw [← hq2]
    exact va_recv hK hP (ci := ci) (q0 := 0) hq1 (by rw [zcs_at (by decide), zce_o hci])
  have hSk : ∀ a : Nat, a < s.heap.size → ¬ zA LC wc a → H[a]? = s.heap[a]? := fun a h1 _ => hS.2.1 a h1 (Nat.not_le.mpr h1)
  have hr := va_runV (R := room_1) (e := e) (below := below) (meth := meth) (locs := locs) (cells := 83) (slots := 4558) (g := F0 m pc ls st) (C := y.cls) (b := wc.2.2.1 0) (As := As) (rest := st0) ⟨hx, hb, hml, hown, hts⟩ hM ⟨hB, hts _ y5, hts _ y6⟩ ⟨zWo_blind, hrec, fun U hU hW => ⟨rfl, by rw [hU]; exact hP, va_K.moved hW.alike hK, hi, by rw [hU]; exact (hz.kept hSk).moved hW.alike⟩⟩ rfl hn hls hst (lv_room hW) hd ⟨Nat.le_of_ble_eq_true rfl, Nat.le_of_ble_eq_true rfl⟩
  intro T hT X
  obtain ⟨v, st₀, t, T', K, h0, X', hL, e1, e2, ⟨hv, hw, hzz, hk⟩, stp⟩ := hr T hT X
  cases hv
  rw [h0] at hzz hk
  have hQ1 : va_P wm.1 zcl (zcs LM wm Sm) T'.heap := hQ.kept fun k q hkq => by
    obtain ⟨g1, rfl⟩ := zcs_of hkq
    rw [e1]
    exact hk _ (hQ k _ hkq).lt (fun z => (hdis _ z).2 ⟨k, g1, rfl⟩)
  obtain ⟨t2, a1, b1⟩ := kk T'.heap (locs ++ K) (by rw [e1]; exact hw.1) hQ1
    ⟨Nat.le_trans hS.1 (by rw [e1]; exact hzz), fun q h1 h2 => by rw [e1, hk q (Nat.lt_of_lt_of_le h1 hS.1) (fun z => h2 (hdis q z).1)]; exact hS.2.1 q h1 h2, fun q hq => by
      rcases List.mem_append.mp hq with h | h
      · exact hS.2.2 q h
      · exact (hdis _ (hL q h)).1⟩ T' rfl X'
  exact ⟨t2, stp t2 a1, b1⟩
theorem l_callM (pc : Nat) (C : zLK wc wm X l0 L xs) {idx n maxL lev2 ci : Nat} {y : MethodName} {bytes : ByteArray} {rt : Option FieldType} {As : List Value} {S2 : zMem} {rv : Option Value} (st0 : List Value) (hd : decode cL_law pc = .ok (.invokevirtual idx, 3)) (hl : Cond.methodLink RL idx y ∈ zT) (hy : zYv y bytes maxL rt n) (hM : zMet LM wm l0 y bytes maxL rt lev2 (.ref (wm.2.2.1 0) :: As) Sm rv S2) (hlev : lev2 + 1 ≤ 2048 ∧ 8 + (maxL + 11) + 64 * lev2 ≤ 84000) (hn : As.length = n) (hls : ls.size = 4) (hci : LM.2.1 0 = 3 + ci) (hq : (zcl[ci]?).map (fun q => q.1) = some y.cls) (hW : (st0.map fun v => v.category).sum ≤ 8) (hst : st = As.reverse ++ .ref (wm.2.2.1 0) :: st0) (kk : zL wc wm X Sc S2 (pc + 3) ls (rv.toList ++ st0)) : zL wc wm X Sc Sm pc ls st := by
  obtain ⟨p, l, e, s, m, below, meth, c, bs⟩ := X
  intro H locs hP hQ hS
  obtain ⟨⟨rfl, hx, hb, hml, hown, hts⟩, -, -, ⟨hK, hi, hz⟩, -, hdis, -⟩ := C
  obtain ⟨⟨y1, y2, y3, y4⟩, y5, y6⟩ := hy
  have hB : CallB room_1 s #[Value.ref bs] RL idx y bytes maxL rt (.code y bytes maxL rt :: zT) (zrm lev2) 0 0 n := callB_of n hts (lw_goodIn y1) rfl rfl rfl (hts _ y2) (hts _ hl) y4 hlev
  obtain ⟨q, hq1, hq2⟩ := Option.map_eq_some_iff.mp hq
  have hrec : ∃ cellB : Cell, H[wm.2.2.1 0]? = some cellB ∧ cellB.vm.isStatics = false ∧ s.vm.findClass y.cls = some cellB.cls := by
    rw [← hq2]
    exact va_recv hK hQ (ci := ci) (q0 := 0) hq1 (by rw [zcs_at (by decide), zce_o hci])
  have hSk : ∀ a : Nat, a < s.heap.size → ¬ zA LM wm a → H[a]? = s.heap[a]? := fun a h1 _ => hS.2.1 a h1 (Nat.not_le.mpr h1)
  have hr := va_runV (R := room_1) (e := e) (below := below) (meth := meth) (locs := locs) (cells := 83) (slots := 4558) (g := F0 m pc ls st) (C := y.cls) (b := wm.2.2.1 0) (As := As) (rest := st0) ⟨hx, hb, hml, hown, hts⟩ hM ⟨hB, hts _ y5, hts _ y6⟩ ⟨zWo_blind, hrec, fun U hU hW => ⟨rfl, by rw [hU]; exact hQ, va_K.moved hW.alike hK, hi, by rw [hU]; exact (hz.kept hSk).moved hW.alike⟩⟩ rfl hn hls hst (lv_room hW) hd ⟨Nat.le_of_ble_eq_true rfl, Nat.le_of_ble_eq_true rfl⟩
  intro T hT X
  obtain ⟨v, st₀, t, T', K, h0, X', hL, e1, e2, ⟨hv, hw, hzz, hk⟩, stp⟩ := hr T hT X
  cases hv
  rw [h0] at hzz hk
  have hP1 : va_P wc.1 zcl (zcs LC wc Sc) T'.heap := hP.kept fun k q hkq => by
    obtain ⟨g1, rfl⟩ := zcs_of hkq
    rw [e1]
    exact hk _ (hP k _ hkq).lt (fun z => (hdis _ z).2 ⟨k, g1, rfl⟩)
  obtain ⟨t2, a1, b1⟩ := kk T'.heap (locs ++ K) hP1 (by rw [e1]; exact hw.1)
    ⟨Nat.le_trans hS.1 (by rw [e1]; exact hzz), fun q h1 h2 => by rw [e1, hk q (Nat.lt_of_lt_of_le h1 hS.1) (fun z => h2 (hdis q z).1)]; exact hS.2.1 q h1 h2, fun q hq => by
      rcases List.mem_append.mp hq with h | h
      · exact hS.2.2 q h
      · exact (hdis _ (hL q h)).1⟩ T' rfl X'
  exact ⟨t2, stp t2 a1, b1⟩
theorem l_eqi (pc : Nat) (C : zLK wc wm X l0 L xs) {x : Int32} {off : Int} (hd : decode cL_law pc = .ok (.if_icmp .eq off, 3)) (ht : (pc : Int) + off = ((1415 : Nat) : Int)) (kk : zL wc wm X Sc Sm 1415 ls st) : zL wc wm X Sc Sm pc ls (.int x :: .int x :: st) := by
  obtain ⟨p, l, e, s, m, below, meth, c, bs⟩ := X
  intro H locs hP hQ hS
  exact lv_icmp_eq C.1.2.1 C.1.2.2.1 hd ht (fun _ => kk H locs hP hQ hS) (fun q => absurd rfl q)
theorem l_eql (pc : Nat) (C : zLK wc wm X l0 L xs) {x : Int64} {off : Int} (hd0 : decode cL_law pc = .ok (.lcmp, 1)) (hd : decode cL_law (pc + 1) = .ok (.ifCond .eq off, 3)) (ht : ((pc + 1 : Nat) : Int) + off = ((1415 : Nat) : Int)) (kk : zL wc wm X Sc Sm 1415 ls st) : zL wc wm X Sc Sm pc ls (.long x :: .long x :: st) := by
  obtain ⟨p, l, e, s, m, below, meth, c, bs⟩ := X
  intro H locs hP hQ hS
  refine W.lcmp C.1.2.1 C.1.2.2.1 hd0 ?_
  exact lv_if_eq C.1.2.1 C.1.2.2.1 hd ht (fun _ => kk H locs hP hQ hS) (fun q => absurd (by simp [lg_cmp]) q)
end ZLL
/-- one call on both sides: the same answer, and the two memories still agree -/
def zIi (Inv : zMem → zMem → Prop) (f g : zMem → Option (Int32 × zMem)) : Prop := ∀ Sc Sm, Inv Sc Sm → ∃ r Sc1 Sm1, f Sc = some (r, Sc1) ∧ g Sm = some (r, Sm1) ∧ Inv Sc1 Sm1
def zIl (Inv : zMem → zMem → Prop) (f g : zMem → Option (Int64 × zMem)) : Prop := ∀ Sc Sm, Inv Sc Sm → ∃ r Sc1 Sm1, f Sc = some (r, Sc1) ∧ g Sm = some (r, Sm1) ∧ Inv Sc1 Sm1
