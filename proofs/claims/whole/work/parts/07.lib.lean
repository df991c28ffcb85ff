theorem zs_max : Cond.static Lib.Math.max.name ∈ zT ∧ Cond.initialized "java/lang/Math" ∈ zT ∧ Cond.code Lib.Math.max.name Lib.Math.max.code 2 (some .int) ∈ zT := by decide +kernel
theorem zs_min : Cond.static Lib.Math.min.name ∈ zT ∧ Cond.initialized "java/lang/Math" ∈ zT ∧ Cond.code Lib.Math.min.name Lib.Math.min.code 2 (some .int) ∈ zT := by decide +kernel
theorem zs_abs : Cond.static Lib.Math.abs.name ∈ zT ∧ Cond.initialized "java/lang/Math" ∈ zT ∧ Cond.code Lib.Math.abs.name Lib.Math.abs.code 1 (some .int) ∈ zT := by decide +kernel
theorem zs_cpy : Cond.native arraycopyName ∈ zT ∧ Cond.static arraycopyName ∈ zT ∧ Cond.initialized "java/lang/System" ∈ zT := by decide +kernel
def zcp (sp dp n : Int32) (n0 n1 : Nat) : Bool := !(decide (sp < 0)) && !(decide (dp < 0)) && !(decide (n < 0)) && decide (sp.toNatClampNeg + n.toNatClampNeg ≤ n0) && decide (dp.toNatClampNeg + n.toNatClampNeg ≤ n1)
section ZLB
variable {L : zLay} {w : zWd} {X : zX} {r : Option Value} {S1 S : zMem} {ls : Array Slot} {st : List Value} {cc : ByteArray} {own : String} {nL lev : Nat} {ret : Option FieldType} {ρ : Type} {res : ρ} {l0 : Launch}
theorem v_mmax (pc : Nat) (C : zC L w X l0 cc own nL lev ret) {idx : Nat} {x y : Int32} (hd : decode cc pc = .ok (.invokestatic idx, 3)) (hl : Cond.methodLink own idx Lib.Math.max.name ∈ zT) (hls : ls.size = nL) (hlev : 0 < lev) (hW : (st.map fun v => v.category).sum ≤ 8) {K : Int32 → Option ρ} (h : zl (if x < y then y else x) K = some res) (kk : ∀ z, K z = some res → zV L w X r S1 S (pc + 3) ls (.int z :: st)) : zV L w X r S1 S pc ls (.int y :: .int x :: st) := by
  obtain ⟨p, l, e, R, s, m, args, below, meth, cd⟩ := X
  intro H locs hP hS
  have hR := C.2.2.2.2
  subst hR
  exact va_mmax C.1.2.1 C.1.2.2.1 (C.1.2.2.2.1.trans hls.symm) C.1.2.2.2.2.1 (C.1.2.2.2.2.2 _ hl) (C.1.2.2.2.2.2 _ zs_max.1) (C.1.2.2.2.2.2 _ zs_max.2.1) (C.1.2.2.2.2.2 _ zs_max.2.2) (by show 1 ≤ lev; omega) (by show _ + 13 ≤ 64 * lev; omega) (Nat.zero_le _) (Nat.zero_le _) hd (kk _ h H locs hP hS)
theorem v_mmin (pc : Nat) (C : zC L w X l0 cc own nL lev ret) {idx : Nat} {x y : Int32} (hd : decode cc pc = .ok (.invokestatic idx, 3)) (hl : Cond.methodLink own idx Lib.Math.min.name ∈ zT) (hls : ls.size = nL) (hlev : 0 < lev) (hW : (st.map fun v => v.category).sum ≤ 8) {K : Int32 → Option ρ} (h : zl (if y < x then y else x) K = some res) (kk : ∀ z, K z = some res → zV L w X r S1 S (pc + 3) ls (.int z :: st)) : zV L w X r S1 S pc ls (.int y :: .int x :: st) := by
  obtain ⟨p, l, e, R, s, m, args, below, meth, cd⟩ := X
  intro H locs hP hS
  have hR := C.2.2.2.2
  subst hR
  exact va_mmin C.1.2.1 C.1.2.2.1 (C.1.2.2.2.1.trans hls.symm) C.1.2.2.2.2.1 (C.1.2.2.2.2.2 _ hl) (C.1.2.2.2.2.2 _ zs_min.1) (C.1.2.2.2.2.2 _ zs_min.2.1) (C.1.2.2.2.2.2 _ zs_min.2.2) (by show 1 ≤ lev; omega) (by show _ + 13 ≤ 64 * lev; omega) (Nat.zero_le _) (Nat.zero_le _) hd (kk _ h H locs hP hS)
theorem v_mabs (pc : Nat) (C : zC L w X l0 cc own nL lev ret) {idx : Nat} {x : Int32} (hd : decode cc pc = .ok (.invokestatic idx, 3)) (hl : Cond.methodLink own idx Lib.Math.abs.name ∈ zT) (hls : ls.size = nL) (hlev : 0 < lev) (hW : (st.map fun v => v.category).sum ≤ 8) {K : Int32 → Option ρ} (h : zl (if 0 ≤ x then x else 0 - x) K = some res) (kk : ∀ z, K z = some res → zV L w X r S1 S (pc + 3) ls (.int z :: st)) : zV L w X r S1 S pc ls (.int x :: st) := by
  obtain ⟨p, l, e, R, s, m, args, below, meth, cd⟩ := X
  intro H locs hP hS
  have hR := C.2.2.2.2
  subst hR
  exact va_mabs C.1.2.1 C.1.2.2.1 (C.1.2.2.2.1.trans hls.symm) C.1.2.2.2.2.1 (C.1.2.2.2.2.2 _ hl) (C.1.2.2.2.2.2 _ zs_abs.1) (C.1.2.2.2.2.2 _ zs_abs.2.1) (C.1.2.2.2.2.2 _ zs_abs.2.2) (by show 1 ≤ lev; omega) (by show _ ≤ 64 * lev; omega) (Nat.zero_le _) (Nat.zero_le _) hd (kk _ h H locs hP hS)
theorem v_copy (pc : Nat) (C : zC L w X l0 cc own nL lev ret) {idx c0 c1 n0 n1 : Nat} {sp dp n : Int32} (hd : decode cc pc = .ok (.invokestatic idx, 3)) (hl : Cond.methodLink own idx arraycopyName ∈ zT) (hls : ls.size = nL) (hlev : 0 < lev) (hW : (st.map fun v => v.category).sum ≤ 8) (hk0 : c0 < L.1 ∧ L.2.1 c0 = 0) (hk1 : c1 < L.1 ∧ L.2.1 c1 = 0) (hn0 : L.2.2.1 c0 = n0) (hn1 : L.2.2.1 c1 = n1) {K : zMem → Option ρ}
    (h : zc (zcp sp dp n n0 n1) (zl (zp S c1 (va_cpy (S.1 c0) (S.1 c1) sp.toNatClampNeg dp.toNatClampNeg n.toNatClampNeg)) K) = some res) (kk : ∀ S, K S = some res → zV L w X r S1 S (pc + 3) ls st) : zV L w X r S1 S pc ls (.int n :: .int dp :: .ref (w.2.2.1 c1) :: .int sp :: .ref (w.2.2.1 c0) :: st) := by
  obtain ⟨p, l, e, R, s, m, args, below, meth, cd⟩ := X
  intro H locs hP hS
  have hR := C.2.2.2.2
  subst hR
  subst hn0
  subst hn1
  obtain ⟨hc, h⟩ := zc_e h
  simp only [zcp, Bool.and_eq_true, Bool.not_eq_true', decide_eq_false_iff_not, decide_eq_true_eq] at hc
  obtain ⟨⟨⟨⟨h1, h2⟩, h3⟩, h4⟩, h5⟩ := hc
  refine va_copyi (ty := .int) C.1.2.1 C.1.2.2.1 (C.1.2.2.2.1.trans hls.symm) C.1.2.2.2.2.1 (C.1.2.2.2.2.2 _ hl) (C.1.2.2.2.2.2 _ zs_cpy.1) (C.1.2.2.2.2.2 _ zs_cpy.2.1) (C.1.2.2.2.2.2 _ zs_cpy.2.2) C.2.1.1 hP (zcs_D C.2.1.2.1) hS c0 c1 0 0 (by rw [zcs_at hk0.1, zce_i hk0.2]) (by rw [zcs_at hk1.1, zce_i hk1.2]) rfl rfl rfl h1 h2 h3 h4 h5 (fun _ _ => rfl) (by show 1 ≤ lev; omega) (by show _ + (7 + 11) ≤ 64 * lev; omega) hd (fun H1 locs1 hP1 hD1 hS1 => ?_)
  rw [zcs_pi hk1.1 hk1.2] at hP1
  exact kk _ h H1 locs1 hP1 hS1
theorem v_gsig (pc : Nat) (C : zC L w X l0 cc own nL lev ret) {idx : Nat} (hd : decode cc pc = .ok (.getstatic idx, 3)) (hl : Cond.fieldLink own idx RX1 "SIGNS" "[C" ∈ zT) (kk : zV L w X r S1 S (pc + 3) ls (.ref (w.2.2.2 0) :: st)) : zV L w X r S1 S pc ls st := by
  obtain ⟨p, l, e, R, s, m, args, below, meth, cd⟩ := X
  intro H locs hP hS
  exact va_gets C.1.2.1 C.1.2.2.1 C.2.1.2.2.1.1 hS C.1.2.2.2.2.1 (C.1.2.2.2.2.2 _ hl) (fun _ h9 => h9) hd (kk H locs hP hS)
theorem v_gpar (pc : Nat) (C : zC L w X l0 cc own nL lev ret) {idx : Nat} (hd : decode cc pc = .ok (.getstatic idx, 3)) (hl : Cond.fieldLink own idx RX1 "PARENTS" "[I" ∈ zT) (kk : zV L w X r S1 S (pc + 3) ls (.ref (w.2.2.2 1) :: st)) : zV L w X r S1 S pc ls st := by
  obtain ⟨p, l, e, R, s, m, args, below, meth, cd⟩ := X
  intro H locs hP hS
  exact va_gets C.1.2.1 C.1.2.2.1 C.2.1.2.2.2.1 hS C.1.2.2.2.2.1 (C.1.2.2.2.2.2 _ hl) (fun _ h9 => h9) hd (kk H locs hP hS)
theorem v_lsig (pc : Nat) (C : zC L w X l0 cc own nL lev ret) {i : Int32} (hd : decode cc pc = .ok (.caload, 1)) {K : Int32 → Option ρ} (h : zc (zi i 6) (zl (zsig i.toNatClampNeg) K) = some res) (kk : ∀ x, K x = some res → zV L w X r S1 S (pc + 1) ls (.int x :: st)) : zV L w X r S1 S pc ls (.int i :: .ref (w.2.2.2 0) :: st) := by
  obtain ⟨p, l, e, R, s, m, args, below, meth, cd⟩ := X
  intro H locs hP hS
  obtain ⟨hi, h⟩ := zc_e h
  exact va_tc C.1.2.1 C.1.2.2.1 C.2.1.2.2.1.2 hS (zi_in hi) rfl hd (kk _ h H locs hP hS)
theorem v_lpar (pc : Nat) (C : zC L w X l0 cc own nL lev ret) {i : Int32} (hd : decode cc pc = .ok (.iaload, 1)) {K : Int32 → Option ρ} (h : zc (zi i 6) (zl (zpar i.toNatClampNeg) K) = some res) (kk : ∀ x, K x = some res → zV L w X r S1 S (pc + 1) ls (.int x :: st)) : zV L w X r S1 S pc ls (.int i :: .ref (w.2.2.2 1) :: st) := by
  obtain ⟨p, l, e, R, s, m, args, below, meth, cd⟩ := X
  intro H locs hP hS
  obtain ⟨hi, h⟩ := zc_e h
  exact va_ti C.1.2.1 C.1.2.2.1 C.2.1.2.2.2.2 hS (zi_in hi) rfl hd (kk _ h H locs hP hS)
end ZLB
/-! the two layouts -/
/-- the class: 0 LetterEnds, 1 rows, 2 texts, 3 kept, 4 + 2 i the Strips (6 ROWS, 4 TEXTS), 24 the Road, 29 the Reader with its draft 30, 35 + 5 j the Posts (now, aside, kept), 60 Orders, 63 Lifts, 65 Clues, 67 found -/
def kdC (c : Nat) : Nat :=
  if c < 24 then (if c = 0 then 10 else if c < 3 then 1 else if c = 3 then 2 else if c % 2 = 0 then 9 else 0)
  else if c < 35 then (if c = 24 then 8 else if c = 29 then 7 else if c = 30 then 8 else 0)
  else if c < 60 then (if c % 5 = 0 then 6 else 0)
  else if c = 60 then 5 else if c = 63 then 4 else if c = 65 then 3 else 0
def lnC (c : Nat) : Nat :=
  if c < 24 then (if c = 1 then 6 else if c = 2 then 4 else if c = 3 then 3 else if c < 16 then 40 else 60)
  else if c < 35 then 6
  else if c < 60 then (if c % 5 < 3 then 6 else 40)
  else if c = 66 then 10 else 6
def rfC (c k : Nat) : Nat :=
  if kdC c = 9 then c + 1
  else if kdC c = 6 then (if k = 0 then 24 else c + k)
  else if kdC c = 8 then c + 1 + k
  else if c = 0 then ([1, 2, 24, 29, 35, 40, 3, 60, 63, 65, 67] : List Nat).getD k 0
  else if c = 1 then 4 + 2 * k
  else if c = 2 then 16 + 2 * k
  else if c = 3 then 45 + 5 * k
  else if c = 29 then 30
  else if c = 60 then (if k = 0 then 24 else 60 + k)
  else if c = 63 then (if k = 0 then 24 else 64)
  else 66
def LC : zLay := (68, kdC, lnC, rfC)
/-- the reference: 0 LetterEndsModel; its arrays as their fields come: 1 row, 2 kinds, 3 to, 4 words, 5 sizes, 6 items, 7 lengths, 8 bytes, 9 findings, 10 readBonds, 11 readLetters, 12 line, 13 bestLine, 14 bests -/
def kdM (c : Nat) : Nat := if c = 0 then 11 else 0
def lnM (c : Nat) : Nat := ([0, 2810, 6, 6, 6, 6, 240, 4, 240, 6, 6, 18, 6, 6, 7] : List Nat).getD c 0
def rfM (_ k : Nat) : Nat := ([1, 0, 0, 2, 3, 4, 5, 6, 7, 8, 0, 0, 0, 0, 9, 0, 0, 0, 0, 0, 0, 10, 0, 11, 12, 13, 14] : List Nat).getD k 0
def LM : zLay := (15, kdM, lnM, rfM)
