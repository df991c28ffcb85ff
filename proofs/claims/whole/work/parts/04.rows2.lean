section ZS
variable {L : zLay} {w : zWd} {X : zX} {r : Option Value} {S1 S : zMem} {ls : Array Slot} {st : List Value} {cc : ByteArray} {own : String} {nL lev : Nat} {ret : Option FieldType} {ρ : Type} {res : ρ} {lv : List (Nat × Value)} {l0 : Launch}
theorem v_iadd (pc : Nat) (C : zC L w X l0 cc own nL lev ret) {x : Int32} {y : Int32} (hd : decode cc pc = .ok (.iadd, 1)) {K : Int32 → Option ρ} (h : zl (x + y) K = some res) (kk : ∀ z, K z = some res → zV L w X r S1 S (pc + 1) ls (.int z :: st)) : zV L w X r S1 S pc ls (.int y :: .int x :: st) := by
  obtain ⟨p, l, e, R, s, m, args, below, meth, c⟩ := X
  intro H locs hP hS
  exact lv_iadd C.1.2.1 C.1.2.2.1 hd (kk _ h H locs hP hS)
theorem v_isub (pc : Nat) (C : zC L w X l0 cc own nL lev ret) {x : Int32} {y : Int32} (hd : decode cc pc = .ok (.isub, 1)) {K : Int32 → Option ρ} (h : zl (x - y) K = some res) (kk : ∀ z, K z = some res → zV L w X r S1 S (pc + 1) ls (.int z :: st)) : zV L w X r S1 S pc ls (.int y :: .int x :: st) := by
  obtain ⟨p, l, e, R, s, m, args, below, meth, c⟩ := X
  intro H locs hP hS
  exact lv_isub C.1.2.1 C.1.2.2.1 hd (kk _ h H locs hP hS)
theorem v_imul (pc : Nat) (C : zC L w X l0 cc own nL lev ret) {x : Int32} {y : Int32} (hd : decode cc pc = .ok (.imul, 1)) {K : Int32 → Option ρ} (h : zl (x * y) K = some res) (kk : ∀ z, K z = some res → zV L w X r S1 S (pc + 1) ls (.int z :: st)) : zV L w X r S1 S pc ls (.int y :: .int x :: st) := by
  obtain ⟨p, l, e, R, s, m, args, below, meth, c⟩ := X
  intro H locs hP hS
  exact lv_imul C.1.2.1 C.1.2.2.1 hd (kk _ h H locs hP hS)
theorem v_iand (pc : Nat) (C : zC L w X l0 cc own nL lev ret) {x : Int32} {y : Int32} (hd : decode cc pc = .ok (.iand, 1)) {K : Int32 → Option ρ} (h : zl (x &&& y) K = some res) (kk : ∀ z, K z = some res → zV L w X r S1 S (pc + 1) ls (.int z :: st)) : zV L w X r S1 S pc ls (.int y :: .int x :: st) := by
  obtain ⟨p, l, e, R, s, m, args, below, meth, c⟩ := X
  intro H locs hP hS
  exact lv_iand C.1.2.1 C.1.2.2.1 hd (kk _ h H locs hP hS)
theorem v_ior (pc : Nat) (C : zC L w X l0 cc own nL lev ret) {x : Int32} {y : Int32} (hd : decode cc pc = .ok (.ior, 1)) {K : Int32 → Option ρ} (h : zl (x ||| y) K = some res) (kk : ∀ z, K z = some res → zV L w X r S1 S (pc + 1) ls (.int z :: st)) : zV L w X r S1 S pc ls (.int y :: .int x :: st) := by
  obtain ⟨p, l, e, R, s, m, args, below, meth, c⟩ := X
  intro H locs hP hS
  exact lv_ior C.1.2.1 C.1.2.2.1 hd (kk _ h H locs hP hS)
theorem v_ixor (pc : Nat) (C : zC L w X l0 cc own nL lev ret) {x : Int32} {y : Int32} (hd : decode cc pc = .ok (.ixor, 1)) {K : Int32 → Option ρ} (h : zl (x ^^^ y) K = some res) (kk : ∀ z, K z = some res → zV L w X r S1 S (pc + 1) ls (.int z :: st)) : zV L w X r S1 S pc ls (.int y :: .int x :: st) := by
  obtain ⟨p, l, e, R, s, m, args, below, meth, c⟩ := X
  intro H locs hP hS
  exact lv_ixor C.1.2.1 C.1.2.2.1 hd (kk _ h H locs hP hS)
theorem v_ishl (pc : Nat) (C : zC L w X l0 cc own nL lev ret) {x : Int32} {y : Int32} (hd : decode cc pc = .ok (.ishl, 1)) {K : Int32 → Option ρ} (h : zl (x <<< (y &&& 31)) K = some res) (kk : ∀ z, K z = some res → zV L w X r S1 S (pc + 1) ls (.int z :: st)) : zV L w X r S1 S pc ls (.int y :: .int x :: st) := by
  obtain ⟨p, l, e, R, s, m, args, below, meth, c⟩ := X
  intro H locs hP hS
  exact lv_ishl C.1.2.1 C.1.2.2.1 hd (kk _ h H locs hP hS)
theorem v_ishr (pc : Nat) (C : zC L w X l0 cc own nL lev ret) {x : Int32} {y : Int32} (hd : decode cc pc = .ok (.ishr, 1)) {K : Int32 → Option ρ} (h : zl (x >>> (y &&& 31)) K = some res) (kk : ∀ z, K z = some res → zV L w X r S1 S (pc + 1) ls (.int z :: st)) : zV L w X r S1 S pc ls (.int y :: .int x :: st) := by
  obtain ⟨p, l, e, R, s, m, args, below, meth, c⟩ := X
  intro H locs hP hS
  exact lv_ishr C.1.2.1 C.1.2.2.1 hd (kk _ h H locs hP hS)
theorem v_iushr (pc : Nat) (C : zC L w X l0 cc own nL lev ret) {x : Int32} {y : Int32} (hd : decode cc pc = .ok (.iushr, 1)) {K : Int32 → Option ρ} (h : zl ((x.toUInt32 >>> (y.toUInt32 &&& Int32.toUInt32 31)).toInt32) K = some res) (kk : ∀ z, K z = some res → zV L w X r S1 S (pc + 1) ls (.int z :: st)) : zV L w X r S1 S pc ls (.int y :: .int x :: st) := by
  obtain ⟨p, l, e, R, s, m, args, below, meth, c⟩ := X
  intro H locs hP hS
  exact lv_iushr C.1.2.1 C.1.2.2.1 hd rfl (kk _ h H locs hP hS)
theorem v_ladd (pc : Nat) (C : zC L w X l0 cc own nL lev ret) {x : Int64} {y : Int64} (hd : decode cc pc = .ok (.ladd, 1)) {K : Int64 → Option ρ} (h : zl (x + y) K = some res) (kk : ∀ z, K z = some res → zV L w X r S1 S (pc + 1) ls (.long z :: st)) : zV L w X r S1 S pc ls (.long y :: .long x :: st) := by
  obtain ⟨p, l, e, R, s, m, args, below, meth, c⟩ := X
  intro H locs hP hS
  exact lv_ladd C.1.2.1 C.1.2.2.1 hd (kk _ h H locs hP hS)
theorem v_lsub (pc : Nat) (C : zC L w X l0 cc own nL lev ret) {x : Int64} {y : Int64} (hd : decode cc pc = .ok (.lsub, 1)) {K : Int64 → Option ρ} (h : zl (x - y) K = some res) (kk : ∀ z, K z = some res → zV L w X r S1 S (pc + 1) ls (.long z :: st)) : zV L w X r S1 S pc ls (.long y :: .long x :: st) := by
  obtain ⟨p, l, e, R, s, m, args, below, meth, c⟩ := X
  intro H locs hP hS
  exact lv_lsub C.1.2.1 C.1.2.2.1 hd (kk _ h H locs hP hS)
theorem v_lmul (pc : Nat) (C : zC L w X l0 cc own nL lev ret) {x : Int64} {y : Int64} (hd : decode cc pc = .ok (.lmul, 1)) {K : Int64 → Option ρ} (h : zl (x * y) K = some res) (kk : ∀ z, K z = some res → zV L w X r S1 S (pc + 1) ls (.long z :: st)) : zV L w X r S1 S pc ls (.long y :: .long x :: st) := by
  obtain ⟨p, l, e, R, s, m, args, below, meth, c⟩ := X
  intro H locs hP hS
  exact lv_lmul C.1.2.1 C.1.2.2.1 hd (kk _ h H locs hP hS)
theorem v_ineg (pc : Nat) (C : zC L w X l0 cc own nL lev ret) {x : Int32} (hd : decode cc pc = .ok (.ineg, 1)) {K : Int32 → Option ρ} (h : zl (-x) K = some res) (kk : ∀ z, K z = some res → zV L w X r S1 S (pc + 1) ls (.int z :: st)) : zV L w X r S1 S pc ls (.int x :: st) := by
  obtain ⟨p, l, e, R, s, m, args, below, meth, c⟩ := X
  intro H locs hP hS
  exact lv_ineg C.1.2.1 C.1.2.2.1 hd (kk _ h H locs hP hS)
theorem v_i2l (pc : Nat) (C : zC L w X l0 cc own nL lev ret) {x : Int32} (hd : decode cc pc = .ok (.i2l, 1)) {K : Int64 → Option ρ} (h : zl (x.toInt64) K = some res) (kk : ∀ z, K z = some res → zV L w X r S1 S (pc + 1) ls (.long z :: st)) : zV L w X r S1 S pc ls (.int x :: st) := by
  obtain ⟨p, l, e, R, s, m, args, below, meth, c⟩ := X
  intro H locs hP hS
  exact lv_i2l C.1.2.1 C.1.2.2.1 hd rfl (kk _ h H locs hP hS)
theorem v_l2i (pc : Nat) (C : zC L w X l0 cc own nL lev ret) {x : Int64} (hd : decode cc pc = .ok (.l2i, 1)) {K : Int32 → Option ρ} (h : zl (x.toInt32) K = some res) (kk : ∀ z, K z = some res → zV L w X r S1 S (pc + 1) ls (.int z :: st)) : zV L w X r S1 S pc ls (.long x :: st) := by
  obtain ⟨p, l, e, R, s, m, args, below, meth, c⟩ := X
  intro H locs hP hS
  exact lv_l2i C.1.2.1 C.1.2.2.1 hd rfl (kk _ h H locs hP hS)
theorem v_i2b (pc : Nat) (C : zC L w X l0 cc own nL lev ret) {x : Int32} (hd : decode cc pc = .ok (.i2b, 1)) {K : Int32 → Option ρ} (h : zl (x.toInt8.toInt32) K = some res) (kk : ∀ z, K z = some res → zV L w X r S1 S (pc + 1) ls (.int z :: st)) : zV L w X r S1 S pc ls (.int x :: st) := by
  obtain ⟨p, l, e, R, s, m, args, below, meth, c⟩ := X
  intro H locs hP hS
  exact lv_i2b C.1.2.1 C.1.2.2.1 hd rfl (kk _ h H locs hP hS)
theorem v_lcmp (pc : Nat) (C : zC L w X l0 cc own nL lev ret) {x : Int64} {y : Int64} (hd : decode cc pc = .ok (.lcmp, 1)) {K : Int32 → Option ρ} (h : zl (lg_cmp x y) K = some res) (kk : ∀ z, K z = some res → zV L w X r S1 S (pc + 1) ls (.int z :: st)) : zV L w X r S1 S pc ls (.long y :: .long x :: st) := by
  obtain ⟨p, l, e, R, s, m, args, below, meth, c⟩ := X
  intro H locs hP hS
  exact W.lcmp C.1.2.1 C.1.2.2.1 hd (kk _ h H locs hP hS)
theorem v_idiv (pc : Nat) (C : zC L w X l0 cc own nL lev ret) {x : Int32} {y : Int32} (hd : decode cc pc = .ok (.idiv, 1)) (hne : ¬ y = 0) {K : Int32 → Option ρ} (h : zl (x / y) K = some res) (kk : ∀ z, K z = some res → zV L w X r S1 S (pc + 1) ls (.int z :: st)) : zV L w X r S1 S pc ls (.int y :: .int x :: st) := by
  obtain ⟨p, l, e, R, s, m, args, below, meth, c⟩ := X
  intro H locs hP hS
  exact lv_idiv C.1.2.1 C.1.2.2.1 hd hne (kk _ h H locs hP hS)
theorem v_idivc (pc : Nat) (C : zC L w X l0 cc own nL lev ret) {x y : Int32} (hd : decode cc pc = .ok (.idiv, 1)) {K : Int32 → Option ρ} (h : zc (decide (¬ y = 0)) (zl (x / y) K) = some res) (kk : ∀ z, K z = some res → zV L w X r S1 S (pc + 1) ls (.int z :: st)) : zV L w X r S1 S pc ls (.int y :: .int x :: st) := v_idiv pc C hd (of_decide_eq_true (zc_e h).1) (zc_e h).2 kk
theorem v_irem (pc : Nat) (C : zC L w X l0 cc own nL lev ret) {x : Int32} {y : Int32} (hd : decode cc pc = .ok (.irem, 1)) (hne : ¬ y = 0) {K : Int32 → Option ρ} (h : zl (x - x / y * y) K = some res) (kk : ∀ z, K z = some res → zV L w X r S1 S (pc + 1) ls (.int z :: st)) : zV L w X r S1 S pc ls (.int y :: .int x :: st) := by
  obtain ⟨p, l, e, R, s, m, args, below, meth, c⟩ := X
  intro H locs hP hS
  exact lv_irem C.1.2.1 C.1.2.2.1 hd hne (kk _ h H locs hP hS)
theorem v_iremc (pc : Nat) (C : zC L w X l0 cc own nL lev ret) {x y : Int32} (hd : decode cc pc = .ok (.irem, 1)) {K : Int32 → Option ρ} (h : zc (decide (¬ y = 0)) (zl (x - x / y * y) K) = some res) (kk : ∀ z, K z = some res → zV L w X r S1 S (pc + 1) ls (.int z :: st)) : zV L w X r S1 S pc ls (.int y :: .int x :: st) := v_irem pc C hd (of_decide_eq_true (zc_e h).1) (zc_e h).2 kk
theorem v_ldiv (pc : Nat) (C : zC L w X l0 cc own nL lev ret) {x : Int64} {y : Int64} (hd : decode cc pc = .ok (.ldiv, 1)) (hne : ¬ y = 0) {K : Int64 → Option ρ} (h : zl (x / y) K = some res) (kk : ∀ z, K z = some res → zV L w X r S1 S (pc + 1) ls (.long z :: st)) : zV L w X r S1 S pc ls (.long y :: .long x :: st) := by
  obtain ⟨p, l, e, R, s, m, args, below, meth, c⟩ := X
  intro H locs hP hS
  exact lv_ldiv C.1.2.1 C.1.2.2.1 hd hne (kk _ h H locs hP hS)
theorem v_ldivc (pc : Nat) (C : zC L w X l0 cc own nL lev ret) {x y : Int64} (hd : decode cc pc = .ok (.ldiv, 1)) {K : Int64 → Option ρ} (h : zc (decide (¬ y = 0)) (zl (x / y) K) = some res) (kk : ∀ z, K z = some res → zV L w X r S1 S (pc + 1) ls (.long z :: st)) : zV L w X r S1 S pc ls (.long y :: .long x :: st) := v_ldiv pc C hd (of_decide_eq_true (zc_e h).1) (zc_e h).2 kk
theorem v_lrem (pc : Nat) (C : zC L w X l0 cc own nL lev ret) {x : Int64} {y : Int64} (hd : decode cc pc = .ok (.lrem, 1)) (hne : ¬ y = 0) {K : Int64 → Option ρ} (h : zl (x - x / y * y) K = some res) (kk : ∀ z, K z = some res → zV L w X r S1 S (pc + 1) ls (.long z :: st)) : zV L w X r S1 S pc ls (.long y :: .long x :: st) := by
  obtain ⟨p, l, e, R, s, m, args, below, meth, c⟩ := X
  intro H locs hP hS
  exact lv_lrem C.1.2.1 C.1.2.2.1 hd hne (kk _ h H locs hP hS)
theorem v_lremc (pc : Nat) (C : zC L w X l0 cc own nL lev ret) {x y : Int64} (hd : decode cc pc = .ok (.lrem, 1)) {K : Int64 → Option ρ} (h : zc (decide (¬ y = 0)) (zl (x - x / y * y) K) = some res) (kk : ∀ z, K z = some res → zV L w X r S1 S (pc + 1) ls (.long z :: st)) : zV L w X r S1 S pc ls (.long y :: .long x :: st) := v_lrem pc C hd (of_decide_eq_true (zc_e h).1) (zc_e h).2 kk
theorem v_if_eq (pc tgt : Nat) (C : zC L w X l0 cc own nL lev ret) {x : Int32} {off : Int} (hd : decode cc pc = .ok (.ifCond .eq off, 3)) (ht : (pc : Int) + off = (tgt : Int)) {A B : Option ρ} {inst : Decidable (x = 0)} (h : (if x = 0 then A else B) = some res) (kt : A = some res → zV L w X r S1 S tgt ls st) (kf : B = some res → zV L w X r S1 S (pc + 3) ls st) : zV L w X r S1 S pc ls (.int x :: st) := by
  obtain ⟨p, l, e, R, s, m, args, below, meth, c⟩ := X
  intro H locs hP hS
  exact lv_if_eq C.1.2.1 C.1.2.2.1 hd ht (fun q => kt (by rw [if_pos q] at h; exact h) H locs hP hS) (fun q => kf (by rw [if_neg q] at h; exact h) H locs hP hS)
theorem v_if_ne (pc tgt : Nat) (C : zC L w X l0 cc own nL lev ret) {x : Int32} {off : Int} (hd : decode cc pc = .ok (.ifCond .ne off, 3)) (ht : (pc : Int) + off = (tgt : Int)) {A B : Option ρ} {inst : Decidable (x = 0)} (h : (if x = 0 then A else B) = some res) (kt : B = some res → zV L w X r S1 S tgt ls st) (kf : A = some res → zV L w X r S1 S (pc + 3) ls st) : zV L w X r S1 S pc ls (.int x :: st) := by
  obtain ⟨p, l, e, R, s, m, args, below, meth, c⟩ := X
  intro H locs hP hS
  exact lv_if_ne C.1.2.1 C.1.2.2.1 hd ht (fun q => kt (by rw [if_neg q] at h; exact h) H locs hP hS) (fun q => kf (by rw [if_pos q] at h; exact h) H locs hP hS)
theorem v_if_lt (pc tgt : Nat) (C : zC L w X l0 cc own nL lev ret) {x : Int32} {off : Int} (hd : decode cc pc = .ok (.ifCond .lt off, 3)) (ht : (pc : Int) + off = (tgt : Int)) {A B : Option ρ} {inst : Decidable (x < 0)} (h : (if x < 0 then A else B) = some res) (kt : A = some res → zV L w X r S1 S tgt ls st) (kf : B = some res → zV L w X r S1 S (pc + 3) ls st) : zV L w X r S1 S pc ls (.int x :: st) := by
  obtain ⟨p, l, e, R, s, m, args, below, meth, c⟩ := X
  intro H locs hP hS
  exact lv_if_lt C.1.2.1 C.1.2.2.1 hd ht (fun q => kt (by rw [if_pos q] at h; exact h) H locs hP hS) (fun q => kf (by rw [if_neg q] at h; exact h) H locs hP hS)
theorem v_if_ge (pc tgt : Nat) (C : zC L w X l0 cc own nL lev ret) {x : Int32} {off : Int} (hd : decode cc pc = .ok (.ifCond .ge off, 3)) (ht : (pc : Int) + off = (tgt : Int)) {A B : Option ρ} {inst : Decidable (0 ≤ x)} (h : (if 0 ≤ x then A else B) = some res) (kt : A = some res → zV L w X r S1 S tgt ls st) (kf : B = some res → zV L w X r S1 S (pc + 3) ls st) : zV L w X r S1 S pc ls (.int x :: st) := by
  obtain ⟨p, l, e, R, s, m, args, below, meth, c⟩ := X
  intro H locs hP hS
  exact lv_if_ge C.1.2.1 C.1.2.2.1 hd ht (fun q => kt (by rw [if_pos q] at h; exact h) H locs hP hS) (fun q => kf (by rw [if_neg q] at h; exact h) H locs hP hS)
theorem v_if_gt (pc tgt : Nat) (C : zC L w X l0 cc own nL lev ret) {x : Int32} {off : Int} (hd : decode cc pc = .ok (.ifCond .gt off, 3)) (ht : (pc : Int) + off = (tgt : Int)) {A B : Option ρ} {inst : Decidable (0 < x)} (h : (if 0 < x then A else B) = some res) (kt : A = some res → zV L w X r S1 S tgt ls st) (kf : B = some res → zV L w X r S1 S (pc + 3) ls st) : zV L w X r S1 S pc ls (.int x :: st) := by
  obtain ⟨p, l, e, R, s, m, args, below, meth, c⟩ := X
  intro H locs hP hS
  exact lv_if_gt C.1.2.1 C.1.2.2.1 hd ht (fun q => kt (by rw [if_pos q] at h; exact h) H locs hP hS) (fun q => kf (by rw [if_neg q] at h; exact h) H locs hP hS)
theorem v_if_le (pc tgt : Nat) (C : zC L w X l0 cc own nL lev ret) {x : Int32} {off : Int} (hd : decode cc pc = .ok (.ifCond .le off, 3)) (ht : (pc : Int) + off = (tgt : Int)) {A B : Option ρ} {inst : Decidable (x ≤ 0)} (h : (if x ≤ 0 then A else B) = some res) (kt : A = some res → zV L w X r S1 S tgt ls st) (kf : B = some res → zV L w X r S1 S (pc + 3) ls st) : zV L w X r S1 S pc ls (.int x :: st) := by
  obtain ⟨p, l, e, R, s, m, args, below, meth, c⟩ := X
  intro H locs hP hS
  exact lv_if_le C.1.2.1 C.1.2.2.1 hd ht (fun q => kt (by rw [if_pos q] at h; exact h) H locs hP hS) (fun q => kf (by rw [if_neg q] at h; exact h) H locs hP hS)
theorem v_icmp_eq (pc tgt : Nat) (C : zC L w X l0 cc own nL lev ret) {x y : Int32} {off : Int} (hd : decode cc pc = .ok (.if_icmp .eq off, 3)) (ht : (pc : Int) + off = (tgt : Int)) {A B : Option ρ} {inst : Decidable (x = y)} (h : (if x = y then A else B) = some res) (kt : A = some res → zV L w X r S1 S tgt ls st) (kf : B = some res → zV L w X r S1 S (pc + 3) ls st) : zV L w X r S1 S pc ls (.int y :: .int x :: st) := by
  obtain ⟨p, l, e, R, s, m, args, below, meth, c⟩ := X
  intro H locs hP hS
  exact lv_icmp_eq C.1.2.1 C.1.2.2.1 hd ht (fun q => kt (by rw [if_pos q] at h; exact h) H locs hP hS) (fun q => kf (by rw [if_neg q] at h; exact h) H locs hP hS)
theorem v_icmp_ne (pc tgt : Nat) (C : zC L w X l0 cc own nL lev ret) {x y : Int32} {off : Int} (hd : decode cc pc = .ok (.if_icmp .ne off, 3)) (ht : (pc : Int) + off = (tgt : Int)) {A B : Option ρ} {inst : Decidable (x = y)} (h : (if x = y then A else B) = some res) (kt : B = some res → zV L w X r S1 S tgt ls st) (kf : A = some res → zV L w X r S1 S (pc + 3) ls st) : zV L w X r S1 S pc ls (.int y :: .int x :: st) := by
  obtain ⟨p, l, e, R, s, m, args, below, meth, c⟩ := X
  intro H locs hP hS
  exact lv_icmp_ne C.1.2.1 C.1.2.2.1 hd ht (fun q => kt (by rw [if_neg q] at h; exact h) H locs hP hS) (fun q => kf (by rw [if_pos q] at h; exact h) H locs hP hS)
theorem v_icmp_lt (pc tgt : Nat) (C : zC L w X l0 cc own nL lev ret) {x y : Int32} {off : Int} (hd : decode cc pc = .ok (.if_icmp .lt off, 3)) (ht : (pc : Int) + off = (tgt : Int)) {A B : Option ρ} {inst : Decidable (x < y)} (h : (if x < y then A else B) = some res) (kt : A = some res → zV L w X r S1 S tgt ls st) (kf : B = some res → zV L w X r S1 S (pc + 3) ls st) : zV L w X r S1 S pc ls (.int y :: .int x :: st) := by
  obtain ⟨p, l, e, R, s, m, args, below, meth, c⟩ := X
  intro H locs hP hS
  exact lv_icmp_lt C.1.2.1 C.1.2.2.1 hd ht (fun q => kt (by rw [if_pos q] at h; exact h) H locs hP hS) (fun q => kf (by rw [if_neg q] at h; exact h) H locs hP hS)
theorem v_icmp_ge (pc tgt : Nat) (C : zC L w X l0 cc own nL lev ret) {x y : Int32} {off : Int} (hd : decode cc pc = .ok (.if_icmp .ge off, 3)) (ht : (pc : Int) + off = (tgt : Int)) {A B : Option ρ} {inst : Decidable (y ≤ x)} (h : (if y ≤ x then A else B) = some res) (kt : A = some res → zV L w X r S1 S tgt ls st) (kf : B = some res → zV L w X r S1 S (pc + 3) ls st) : zV L w X r S1 S pc ls (.int y :: .int x :: st) := by
  obtain ⟨p, l, e, R, s, m, args, below, meth, c⟩ := X
  intro H locs hP hS
  exact lv_icmp_ge C.1.2.1 C.1.2.2.1 hd ht (fun q => kt (by rw [if_pos q] at h; exact h) H locs hP hS) (fun q => kf (by rw [if_neg q] at h; exact h) H locs hP hS)
theorem v_icmp_gt (pc tgt : Nat) (C : zC L w X l0 cc own nL lev ret) {x y : Int32} {off : Int} (hd : decode cc pc = .ok (.if_icmp .gt off, 3)) (ht : (pc : Int) + off = (tgt : Int)) {A B : Option ρ} {inst : Decidable (y < x)} (h : (if y < x then A else B) = some res) (kt : A = some res → zV L w X r S1 S tgt ls st) (kf : B = some res → zV L w X r S1 S (pc + 3) ls st) : zV L w X r S1 S pc ls (.int y :: .int x :: st) := by
  obtain ⟨p, l, e, R, s, m, args, below, meth, c⟩ := X
  intro H locs hP hS
  exact lv_icmp_gt C.1.2.1 C.1.2.2.1 hd ht (fun q => kt (by rw [if_pos q] at h; exact h) H locs hP hS) (fun q => kf (by rw [if_neg q] at h; exact h) H locs hP hS)
theorem v_icmp_le (pc tgt : Nat) (C : zC L w X l0 cc own nL lev ret) {x y : Int32} {off : Int} (hd : decode cc pc = .ok (.if_icmp .le off, 3)) (ht : (pc : Int) + off = (tgt : Int)) {A B : Option ρ} {inst : Decidable (x ≤ y)} (h : (if x ≤ y then A else B) = some res) (kt : A = some res → zV L w X r S1 S tgt ls st) (kf : B = some res → zV L w X r S1 S (pc + 3) ls st) : zV L w X r S1 S pc ls (.int y :: .int x :: st) := by
  obtain ⟨p, l, e, R, s, m, args, below, meth, c⟩ := X
  intro H locs hP hS
  exact lv_icmp_le C.1.2.1 C.1.2.2.1 hd ht (fun q => kt (by rw [if_pos q] at h; exact h) H locs hP hS) (fun q => kf (by rw [if_neg q] at h; exact h) H locs hP hS)
theorem v_goto (pc tgt : Nat) (C : zC L w X l0 cc own nL lev ret) {off : Int} (hd : decode cc pc = .ok (.goto off, 3)) (ht : (pc : Int) + off = (tgt : Int)) (kk : zV L w X r S1 S tgt ls st) : zV L w X r S1 S pc ls st := by
  obtain ⟨p, l, e, R, s, m, args, below, meth, c⟩ := X
  intro H locs hP hS
  exact lv_goto C.1.2.1 C.1.2.2.1 hd ht (kk H locs hP hS)
theorem v_tab (pc tgt : Nat) (C : zC L w X l0 cc own nL lev ret) {dflt lo hi off : Int} {offs : Array Int} {len : Nat} {x : Int32} (hd : decode cc pc = .ok (.tableswitch dflt lo hi offs, len)) (h1 : ¬ x.toInt < lo) (h2 : ¬ hi < x.toInt) (ho : offs[(x.toInt - lo).toNat]? = some off) (ht : (pc : Int) + off = (tgt : Int)) (kk : zV L w X r S1 S tgt ls st) : zV L w X r S1 S pc ls (.int x :: st) := by
  obtain ⟨p, l, e, R, s, m, args, below, meth, c⟩ := X
  intro H locs hP hS
  exact lv_tableIn C.1.2.1 C.1.2.2.1 hd h1 h2 ho ht (kk H locs hP hS)
theorem v_tabo (pc tgt : Nat) (C : zC L w X l0 cc own nL lev ret) {dflt lo hi : Int} {offs : Array Int} {len : Nat} {x : Int32} (hd : decode cc pc = .ok (.tableswitch dflt lo hi offs, len)) (h1 : x.toInt < lo ∨ hi < x.toInt) (ht : (pc : Int) + dflt = (tgt : Int)) (kk : zV L w X r S1 S tgt ls st) : zV L w X r S1 S pc ls (.int x :: st) := by
  obtain ⟨p, l, e, R, s, m, args, below, meth, c⟩ := X
  intro H locs hP hS
  exact lv_tableOut C.1.2.1 C.1.2.2.1 hd h1 ht (kk H locs hP hS)
theorem v_look (pc tgt : Nat) (C : zC L w X l0 cc own nL lev ret) {dflt off : Int} {ps : Array (Int × Int)} {len : Nat} {x : Int32} (hd : decode cc pc = .ok (.lookupswitch dflt ps, len)) (hp : (ps.toList.zip (ps.toList.drop 1)).all (fun (a, next) => a.1 < next.1) = true) (ho : Op.lookupswitch.offset ps.toList dflt x.toInt = off) (ht : (pc : Int) + off = (tgt : Int)) (kk : zV L w X r S1 S tgt ls st) : zV L w X r S1 S pc ls (.int x :: st) := by
  obtain ⟨p, l, e, R, s, m, args, below, meth, c⟩ := X
  intro H locs hP hS
  exact lv_lookup C.1.2.1 C.1.2.2.1 hd hp ho ht (kk H locs hP hS)
theorem v_ite {c : Prop} {inst : Decidable c} {A B : Option ρ} {G : Prop} (h : (if c then A else B) = some res) (kt : c → A = some res → G) (kf : ¬ c → B = some res → G) : G := by
  by_cases q : c
  · rw [if_pos q] at h
    exact kt q h
  · rw [if_neg q] at h
    exact kf q h
theorem v_dup (pc : Nat) (C : zC L w X l0 cc own nL lev ret) {va : Value} (hd : decode cc pc = .ok (.dup, 1)) (hva : va.category = 1) (kk : zV L w X r S1 S (pc + 1) ls (va :: va :: st)) : zV L w X r S1 S pc ls (va :: st) := by
  obtain ⟨p, l, e, R, s, m, args, below, meth, c⟩ := X
  intro H locs hP hS
  exact lv_dup C.1.2.1 C.1.2.2.1 hd hva (kk H locs hP hS)
theorem v_dup2 (pc : Nat) (C : zC L w X l0 cc own nL lev ret) {va vb : Value} (hd : decode cc pc = .ok (.dup2, 1)) (hva : va.category = 1) (hvb : vb.category = 1) (kk : zV L w X r S1 S (pc + 1) ls (va :: vb :: va :: vb :: st)) : zV L w X r S1 S pc ls (va :: vb :: st) := by
  obtain ⟨p, l, e, R, s, m, args, below, meth, c⟩ := X
  intro H locs hP hS
  exact lv_dup2_11 C.1.2.1 C.1.2.2.1 hd hva hvb (kk H locs hP hS)
theorem v_pop (pc : Nat) (C : zC L w X l0 cc own nL lev ret) {va : Value} (hd : decode cc pc = .ok (.pop, 1)) (hva : va.category = 1) (kk : zV L w X r S1 S (pc + 1) ls st) : zV L w X r S1 S pc ls (va :: st) := by
  obtain ⟨p, l, e, R, s, m, args, below, meth, c⟩ := X
  intro H locs hP hS
  exact lv_pop C.1.2.1 C.1.2.2.1 hd hva (kk H locs hP hS)
end ZS
