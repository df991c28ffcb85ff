theorem zF_ex : ∃ n : Nat, 1000000 ≤ n := ⟨1000000, Nat.le_refl _⟩
/-- how far a loop may go: a million or more; no evaluation ever counts it down -/
noncomputable def zF : Nat := Classical.choose zF_ex
theorem zF_gt {n : Nat} (h : n < 1000000) : n < zF := Nat.lt_of_lt_of_le h (Classical.choose_spec zF_ex)
theorem zne {x k : Int32} {a : Int} (h : ¬ x = k) (hk : k.toInt = a) : ¬ x.toInt = a := lv_neT h hk
section ZU2
variable {L : zLay} {w : zWd} {X : zX} {r : Option Value} {S1 S : zMem} {ls : Array Slot} {st : List Value} {cc : ByteArray} {own : String} {nL lev : Nat} {ret : Option FieldType} {l0 : Launch}
theorem v_callVi (pc : Nat) (C : zC L w X l0 cc own nL lev ret) {idx n maxL lev2 c ci : Nat} {y : MethodName} {bytes : ByteArray} {rt : Option FieldType} {As : List Value} {S2 : zMem} {x : Int32} (st0 : List Value) (hd : decode cc pc = .ok (.invokevirtual idx, 3)) (hl : Cond.methodLink own idx y ∈ zT) (hy : zYv y bytes maxL rt n) (hM : zMet L w l0 y bytes maxL rt lev2 (.ref (w.2.2.1 c) :: As) S (some (.int x)) S2) (hlev : lev2 < lev) (hn : As.length = n) (hls : ls.size = nL)
    (hk : c < L.1 ∧ L.2.1 c = 3 + ci) (hq : (zcl[ci]?).map (fun q => q.1) = some y.cls) (hW : (st0.map fun v => v.category).sum ≤ 8) (hst : st = As.reverse ++ .ref (w.2.2.1 c) :: st0) (kk : zV L w X r S1 S2 (pc + 3) ls (.int x :: st0)) : zV L w X r S1 S pc ls st := v_callV pc C st0 hd hl hy hM hlev hn hls hk hq hW hst kk
theorem v_callVl (pc : Nat) (C : zC L w X l0 cc own nL lev ret) {idx n maxL lev2 c ci : Nat} {y : MethodName} {bytes : ByteArray} {rt : Option FieldType} {As : List Value} {S2 : zMem} {x : Int64} (st0 : List Value) (hd : decode cc pc = .ok (.invokevirtual idx, 3)) (hl : Cond.methodLink own idx y ∈ zT) (hy : zYv y bytes maxL rt n) (hM : zMet L w l0 y bytes maxL rt lev2 (.ref (w.2.2.1 c) :: As) S (some (.long x)) S2) (hlev : lev2 < lev) (hn : As.length = n) (hls : ls.size = nL)
    (hk : c < L.1 ∧ L.2.1 c = 3 + ci) (hq : (zcl[ci]?).map (fun q => q.1) = some y.cls) (hW : (st0.map fun v => v.category).sum ≤ 8) (hst : st = As.reverse ++ .ref (w.2.2.1 c) :: st0) (kk : zV L w X r S1 S2 (pc + 3) ls (.long x :: st0)) : zV L w X r S1 S pc ls st := v_callV pc C st0 hd hl hy hM hlev hn hls hk hq hW hst kk
theorem v_callVv (pc : Nat) (C : zC L w X l0 cc own nL lev ret) {idx n maxL lev2 c ci : Nat} {y : MethodName} {bytes : ByteArray} {rt : Option FieldType} {As : List Value} {S2 : zMem} (st0 : List Value) (hd : decode cc pc = .ok (.invokevirtual idx, 3)) (hl : Cond.methodLink own idx y ∈ zT) (hy : zYv y bytes maxL rt n) (hM : zMet L w l0 y bytes maxL rt lev2 (.ref (w.2.2.1 c) :: As) S none S2) (hlev : lev2 < lev) (hn : As.length = n) (hls : ls.size = nL)
    (hk : c < L.1 ∧ L.2.1 c = 3 + ci) (hq : (zcl[ci]?).map (fun q => q.1) = some y.cls) (hW : (st0.map fun v => v.category).sum ≤ 8) (hst : st = As.reverse ++ .ref (w.2.2.1 c) :: st0) (kk : zV L w X r S1 S2 (pc + 3) ls st0) : zV L w X r S1 S pc ls st := v_callV pc C st0 hd hl hy hM hlev hn hls hk hq hW hst kk
theorem v_callSi (pc : Nat) (C : zC L w X l0 cc own nL lev ret) {idx n maxL lev2 : Nat} {y : MethodName} {bytes : ByteArray} {rt : Option FieldType} {As : List Value} {S2 : zMem} {x : Int32} (st0 : List Value) (hd : decode cc pc = .ok (.invokestatic idx, 3)) (hl : Cond.methodLink own idx y ∈ zT) (hy : zYs y bytes maxL rt n) (hM : zMet L w l0 y bytes maxL rt lev2 As S (some (.int x)) S2) (hlev : lev2 < lev) (hn : As.length = n) (hls : ls.size = nL)
    (hW : (st0.map fun v => v.category).sum ≤ 8) (hst : st = As.reverse ++ st0) (kk : zV L w X r S1 S2 (pc + 3) ls (.int x :: st0)) : zV L w X r S1 S pc ls st := v_callS pc C st0 hd hl hy hM hlev hn hls hW hst kk
theorem v_callSl (pc : Nat) (C : zC L w X l0 cc own nL lev ret) {idx n maxL lev2 : Nat} {y : MethodName} {bytes : ByteArray} {rt : Option FieldType} {As : List Value} {S2 : zMem} {x : Int64} (st0 : List Value) (hd : decode cc pc = .ok (.invokestatic idx, 3)) (hl : Cond.methodLink own idx y ∈ zT) (hy : zYs y bytes maxL rt n) (hM : zMet L w l0 y bytes maxL rt lev2 As S (some (.long x)) S2) (hlev : lev2 < lev) (hn : As.length = n) (hls : ls.size = nL)
    (hW : (st0.map fun v => v.category).sum ≤ 8) (hst : st = As.reverse ++ st0) (kk : zV L w X r S1 S2 (pc + 3) ls (.long x :: st0)) : zV L w X r S1 S pc ls st := v_callS pc C st0 hd hl hy hM hlev hn hls hW hst kk
theorem v_callSv (pc : Nat) (C : zC L w X l0 cc own nL lev ret) {idx n maxL lev2 : Nat} {y : MethodName} {bytes : ByteArray} {rt : Option FieldType} {As : List Value} {S2 : zMem} (st0 : List Value) (hd : decode cc pc = .ok (.invokestatic idx, 3)) (hl : Cond.methodLink own idx y ∈ zT) (hy : zYs y bytes maxL rt n) (hM : zMet L w l0 y bytes maxL rt lev2 As S none S2) (hlev : lev2 < lev) (hn : As.length = n) (hls : ls.size = nL)
    (hW : (st0.map fun v => v.category).sum ≤ 8) (hst : st = As.reverse ++ st0) (kk : zV L w X r S1 S2 (pc + 3) ls st0) : zV L w X r S1 S pc ls st := v_callS pc C st0 hd hl hy hM hlev hn hls hW hst kk
end ZU2
theorem zi_lt {i : Int32} {n : Nat} (h : zi i n = true) : i.toNatClampNeg < n := by
  have q := zi_in h
  exact Nat.lt_of_not_le fun z => q (Or.inr z)
theorem kS1 {c : Nat} (h : c < LC.1 ∧ LC.2.1 c = 9) : c + 1 < LC.1 ∧ LC.2.1 (c + 1) = 0 := (by decide +kernel : ∀ c, c < 68 → kdC c = 9 → c + 1 < 68 ∧ kdC (c + 1) = 0) c h.1 h.2
theorem rS1 {c : Nat} (h : c < LC.1 ∧ LC.2.1 c = 9) : LC.2.2.2 c 0 = c + 1 := (by decide +kernel : ∀ c, c < 68 → kdC c = 9 → rfC c 0 = c + 1) c h.1 h.2
theorem rP0 {c : Nat} (h : c < LC.1 ∧ LC.2.1 c = 6) : LC.2.2.2 c 0 = 24 := (by decide +kernel : ∀ c, c < 68 → kdC c = 6 → rfC c 0 = 24) c h.1 h.2
theorem kEl {c : Nat} (h : c < LC.1 ∧ LC.2.1 c = 1) {i : Int32} (hz : zi i (lnC c) = true) : rfC c i.toNatClampNeg < LC.1 ∧ LC.2.1 (rfC c i.toNatClampNeg) = 9 := (by decide +kernel : ∀ c, c < 68 → kdC c = 1 → ∀ j, j < lnC c → rfC c j < 68 ∧ kdC (rfC c j) = 9) c h.1 h.2 _ (zi_lt hz)
theorem kRow {i : Int32} (hz : zi i 6 = true) : 4 + 2 * i.toNatClampNeg < LC.1 ∧ LC.2.1 (4 + 2 * i.toNatClampNeg) = 9 := (by decide +kernel : ∀ j, j < 6 → 4 + 2 * j < 68 ∧ kdC (4 + 2 * j) = 9) _ (zi_lt hz)
theorem kTxt {i : Int32} (hz : zi i 4 = true) : 16 + 2 * i.toNatClampNeg < LC.1 ∧ LC.2.1 (16 + 2 * i.toNatClampNeg) = 9 := (by decide +kernel : ∀ j, j < 4 → 16 + 2 * j < 68 ∧ kdC (16 + 2 * j) = 9) _ (zi_lt hz)
theorem kKpt {i : Int32} (hz : zi i 3 = true) : 45 + 5 * i.toNatClampNeg < LC.1 ∧ LC.2.1 (45 + 5 * i.toNatClampNeg) = 6 := (by decide +kernel : ∀ j, j < 3 → 45 + 5 * j < 68 ∧ kdC (45 + 5 * j) = 6) _ (zi_lt hz)
theorem kP1 {c : Nat} (h : c < LC.1 ∧ LC.2.1 c = 6) : c + 1 < LC.1 ∧ LC.2.1 (c + 1) = 0 := (by decide +kernel : ∀ c, c < 68 → kdC c = 6 → c + 1 < 68 ∧ kdC (c + 1) = 0) c h.1 h.2
theorem rP1 {c : Nat} (h : c < LC.1 ∧ LC.2.1 c = 6) : LC.2.2.2 c 1 = c + 1 := (by decide +kernel : ∀ c, c < 68 → kdC c = 6 → rfC c 1 = c + 1) c h.1 h.2
theorem nP1 {c : Nat} (h : c < LC.1 ∧ LC.2.1 c = 6) : LC.2.2.1 (c + 1) = 6 := (by decide +kernel : ∀ c, c < 68 → kdC c = 6 → lnC (c + 1) = 6) c h.1 h.2
theorem kP2 {c : Nat} (h : c < LC.1 ∧ LC.2.1 c = 6) : c + 2 < LC.1 ∧ LC.2.1 (c + 2) = 0 := (by decide +kernel : ∀ c, c < 68 → kdC c = 6 → c + 2 < 68 ∧ kdC (c + 2) = 0) c h.1 h.2
theorem rP2 {c : Nat} (h : c < LC.1 ∧ LC.2.1 c = 6) : LC.2.2.2 c 2 = c + 2 := (by decide +kernel : ∀ c, c < 68 → kdC c = 6 → rfC c 2 = c + 2) c h.1 h.2
theorem nP2 {c : Nat} (h : c < LC.1 ∧ LC.2.1 c = 6) : LC.2.2.1 (c + 2) = 6 := (by decide +kernel : ∀ c, c < 68 → kdC c = 6 → lnC (c + 2) = 6) c h.1 h.2
theorem kP3 {c : Nat} (h : c < LC.1 ∧ LC.2.1 c = 6) : c + 3 < LC.1 ∧ LC.2.1 (c + 3) = 0 := (by decide +kernel : ∀ c, c < 68 → kdC c = 6 → c + 3 < 68 ∧ kdC (c + 3) = 0) c h.1 h.2
theorem rP3 {c : Nat} (h : c < LC.1 ∧ LC.2.1 c = 6) : LC.2.2.2 c 3 = c + 3 := (by decide +kernel : ∀ c, c < 68 → kdC c = 6 → rfC c 3 = c + 3) c h.1 h.2
theorem nP3 {c : Nat} (h : c < LC.1 ∧ LC.2.1 c = 6) : LC.2.2.1 (c + 3) = 40 := (by decide +kernel : ∀ c, c < 68 → kdC c = 6 → lnC (c + 3) = 40) c h.1 h.2
theorem kP4 {c : Nat} (h : c < LC.1 ∧ LC.2.1 c = 6) : c + 4 < LC.1 ∧ LC.2.1 (c + 4) = 0 := (by decide +kernel : ∀ c, c < 68 → kdC c = 6 → c + 4 < 68 ∧ kdC (c + 4) = 0) c h.1 h.2
theorem rP4 {c : Nat} (h : c < LC.1 ∧ LC.2.1 c = 6) : LC.2.2.2 c 4 = c + 4 := (by decide +kernel : ∀ c, c < 68 → kdC c = 6 → rfC c 4 = c + 4) c h.1 h.2
theorem nP4 {c : Nat} (h : c < LC.1 ∧ LC.2.1 c = 6) : LC.2.2.1 (c + 4) = 40 := (by decide +kernel : ∀ c, c < 68 → kdC c = 6 → lnC (c + 4) = 40) c h.1 h.2
theorem kC_0 : 0 < LC.1 ∧ LC.2.1 0 = 10 := by decide +kernel
theorem kC_1 : 1 < LC.1 ∧ LC.2.1 1 = 1 := by decide +kernel
theorem kC_2 : 2 < LC.1 ∧ LC.2.1 2 = 1 := by decide +kernel
theorem kC_3 : 3 < LC.1 ∧ LC.2.1 3 = 2 := by decide +kernel
theorem kC_4 : 4 < LC.1 ∧ LC.2.1 4 = 9 := by decide +kernel
theorem kC_5 : 5 < LC.1 ∧ LC.2.1 5 = 0 := by decide +kernel
theorem kC_6 : 6 < LC.1 ∧ LC.2.1 6 = 9 := by decide +kernel
theorem kC_7 : 7 < LC.1 ∧ LC.2.1 7 = 0 := by decide +kernel
theorem kC_8 : 8 < LC.1 ∧ LC.2.1 8 = 9 := by decide +kernel
theorem kC_9 : 9 < LC.1 ∧ LC.2.1 9 = 0 := by decide +kernel
theorem kC_10 : 10 < LC.1 ∧ LC.2.1 10 = 9 := by decide +kernel
theorem kC_11 : 11 < LC.1 ∧ LC.2.1 11 = 0 := by decide +kernel
theorem kC_12 : 12 < LC.1 ∧ LC.2.1 12 = 9 := by decide +kernel
theorem kC_13 : 13 < LC.1 ∧ LC.2.1 13 = 0 := by decide +kernel
theorem kC_14 : 14 < LC.1 ∧ LC.2.1 14 = 9 := by decide +kernel
theorem kC_15 : 15 < LC.1 ∧ LC.2.1 15 = 0 := by decide +kernel
theorem kC_16 : 16 < LC.1 ∧ LC.2.1 16 = 9 := by decide +kernel
theorem kC_17 : 17 < LC.1 ∧ LC.2.1 17 = 0 := by decide +kernel
theorem kC_18 : 18 < LC.1 ∧ LC.2.1 18 = 9 := by decide +kernel
theorem kC_19 : 19 < LC.1 ∧ LC.2.1 19 = 0 := by decide +kernel
theorem kC_20 : 20 < LC.1 ∧ LC.2.1 20 = 9 := by decide +kernel
theorem kC_21 : 21 < LC.1 ∧ LC.2.1 21 = 0 := by decide +kernel
theorem kC_22 : 22 < LC.1 ∧ LC.2.1 22 = 9 := by decide +kernel
theorem kC_23 : 23 < LC.1 ∧ LC.2.1 23 = 0 := by decide +kernel
theorem kC_24 : 24 < LC.1 ∧ LC.2.1 24 = 8 := by decide +kernel
theorem kC_25 : 25 < LC.1 ∧ LC.2.1 25 = 0 := by decide +kernel
theorem kC_26 : 26 < LC.1 ∧ LC.2.1 26 = 0 := by decide +kernel
theorem kC_27 : 27 < LC.1 ∧ LC.2.1 27 = 0 := by decide +kernel
theorem kC_28 : 28 < LC.1 ∧ LC.2.1 28 = 0 := by decide +kernel
theorem kC_29 : 29 < LC.1 ∧ LC.2.1 29 = 7 := by decide +kernel
theorem kC_30 : 30 < LC.1 ∧ LC.2.1 30 = 8 := by decide +kernel
theorem kC_31 : 31 < LC.1 ∧ LC.2.1 31 = 0 := by decide +kernel
theorem kC_32 : 32 < LC.1 ∧ LC.2.1 32 = 0 := by decide +kernel
theorem kC_33 : 33 < LC.1 ∧ LC.2.1 33 = 0 := by decide +kernel
theorem kC_34 : 34 < LC.1 ∧ LC.2.1 34 = 0 := by decide +kernel
theorem kC_35 : 35 < LC.1 ∧ LC.2.1 35 = 6 := by decide +kernel
theorem kC_36 : 36 < LC.1 ∧ LC.2.1 36 = 0 := by decide +kernel
theorem kC_37 : 37 < LC.1 ∧ LC.2.1 37 = 0 := by decide +kernel
theorem kC_38 : 38 < LC.1 ∧ LC.2.1 38 = 0 := by decide +kernel
theorem kC_39 : 39 < LC.1 ∧ LC.2.1 39 = 0 := by decide +kernel
theorem kC_40 : 40 < LC.1 ∧ LC.2.1 40 = 6 := by decide +kernel
theorem kC_41 : 41 < LC.1 ∧ LC.2.1 41 = 0 := by decide +kernel
theorem kC_42 : 42 < LC.1 ∧ LC.2.1 42 = 0 := by decide +kernel
theorem kC_43 : 43 < LC.1 ∧ LC.2.1 43 = 0 := by decide +kernel
theorem kC_44 : 44 < LC.1 ∧ LC.2.1 44 = 0 := by decide +kernel
theorem kC_45 : 45 < LC.1 ∧ LC.2.1 45 = 6 := by decide +kernel
theorem kC_46 : 46 < LC.1 ∧ LC.2.1 46 = 0 := by decide +kernel
theorem kC_47 : 47 < LC.1 ∧ LC.2.1 47 = 0 := by decide +kernel
theorem kC_48 : 48 < LC.1 ∧ LC.2.1 48 = 0 := by decide +kernel
theorem kC_49 : 49 < LC.1 ∧ LC.2.1 49 = 0 := by decide +kernel
theorem kC_50 : 50 < LC.1 ∧ LC.2.1 50 = 6 := by decide +kernel
theorem kC_51 : 51 < LC.1 ∧ LC.2.1 51 = 0 := by decide +kernel
theorem kC_52 : 52 < LC.1 ∧ LC.2.1 52 = 0 := by decide +kernel
theorem kC_53 : 53 < LC.1 ∧ LC.2.1 53 = 0 := by decide +kernel
theorem kC_54 : 54 < LC.1 ∧ LC.2.1 54 = 0 := by decide +kernel
theorem kC_55 : 55 < LC.1 ∧ LC.2.1 55 = 6 := by decide +kernel
theorem kC_56 : 56 < LC.1 ∧ LC.2.1 56 = 0 := by decide +kernel
theorem kC_57 : 57 < LC.1 ∧ LC.2.1 57 = 0 := by decide +kernel
theorem kC_58 : 58 < LC.1 ∧ LC.2.1 58 = 0 := by decide +kernel
theorem kC_59 : 59 < LC.1 ∧ LC.2.1 59 = 0 := by decide +kernel
theorem kC_60 : 60 < LC.1 ∧ LC.2.1 60 = 5 := by decide +kernel
theorem kC_61 : 61 < LC.1 ∧ LC.2.1 61 = 0 := by decide +kernel
theorem kC_62 : 62 < LC.1 ∧ LC.2.1 62 = 0 := by decide +kernel
theorem kC_63 : 63 < LC.1 ∧ LC.2.1 63 = 4 := by decide +kernel
theorem kC_64 : 64 < LC.1 ∧ LC.2.1 64 = 0 := by decide +kernel
theorem kC_65 : 65 < LC.1 ∧ LC.2.1 65 = 3 := by decide +kernel
theorem kC_66 : 66 < LC.1 ∧ LC.2.1 66 = 0 := by decide +kernel
theorem kC_67 : 67 < LC.1 ∧ LC.2.1 67 = 0 := by decide +kernel
theorem kM_0 : 0 < LM.1 ∧ LM.2.1 0 = 11 := by decide +kernel
theorem kM_1 : 1 < LM.1 ∧ LM.2.1 1 = 0 := by decide +kernel
theorem kM_2 : 2 < LM.1 ∧ LM.2.1 2 = 0 := by decide +kernel
theorem kM_3 : 3 < LM.1 ∧ LM.2.1 3 = 0 := by decide +kernel
theorem kM_4 : 4 < LM.1 ∧ LM.2.1 4 = 0 := by decide +kernel
theorem kM_5 : 5 < LM.1 ∧ LM.2.1 5 = 0 := by decide +kernel
theorem kM_6 : 6 < LM.1 ∧ LM.2.1 6 = 0 := by decide +kernel
theorem kM_7 : 7 < LM.1 ∧ LM.2.1 7 = 0 := by decide +kernel
theorem kM_8 : 8 < LM.1 ∧ LM.2.1 8 = 0 := by decide +kernel
theorem kM_9 : 9 < LM.1 ∧ LM.2.1 9 = 0 := by decide +kernel
theorem kM_10 : 10 < LM.1 ∧ LM.2.1 10 = 0 := by decide +kernel
theorem kM_11 : 11 < LM.1 ∧ LM.2.1 11 = 0 := by decide +kernel
theorem kM_12 : 12 < LM.1 ∧ LM.2.1 12 = 0 := by decide +kernel
theorem kM_13 : 13 < LM.1 ∧ LM.2.1 13 = 0 := by decide +kernel
theorem kM_14 : 14 < LM.1 ∧ LM.2.1 14 = 0 := by decide +kernel
section ZU3
variable {L : zLay} {w : zWd} {X : zX} {r : Option Value} {S1 S : zMem} {ls : Array Slot} {st : List Value} {cc : ByteArray} {own : String} {nL lev : Nat} {ret : Option FieldType} {l0 : Launch}
theorem v_ldc_w (pc : Nat) (C : zC L w X l0 cc own nL lev ret) {idx : Nat} {v : Int32} (hd : decode cc pc = .ok (.ldc_w idx, 3)) (hw : Cond.constant own idx v ∈ zT) (k : zV L w X r S1 S (pc + 3) ls (.int v :: st)) : zV L w X r S1 S pc ls st := by
  obtain ⟨p, l, e, R, s, m, args, below, meth, c⟩ := X
  intro H locs hP hS
  exact lv_ldcw C.1.2.1 C.1.2.2.1 C.1.2.2.2.2.1 (C.1.2.2.2.2.2 _ hw) hd (k H locs hP hS)
end ZU3
