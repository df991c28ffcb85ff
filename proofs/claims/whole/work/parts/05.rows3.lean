/-! the class tables; rows of the heap, of calls, of the ends -/
theorem zin_0 : ∀ q ∈ u_ws RX0 TX0 1, q ∈ zT := by decide +kernel
theorem zin_1 : ∀ q ∈ u_ws RX2 TX2 9, q ∈ zT := by decide +kernel
theorem zin_2 : ∀ q ∈ u_ws RX3 TX3 7, q ∈ zT := by decide +kernel
theorem zin_3 : ∀ q ∈ u_ws RX4 TX4 12, q ∈ zT := by decide +kernel
theorem zin_4 : ∀ q ∈ u_ws RX5 TX5 1, q ∈ zT := by decide +kernel
theorem zin_5 : ∀ q ∈ u_ws RX6 TX6 8, q ∈ zT := by decide +kernel
theorem zin_6 : ∀ q ∈ u_ws RX7 TX7 2, q ∈ zT := by decide +kernel
theorem zin_7 : ∀ q ∈ u_ws RX8 TX8 15, q ∈ zT := by decide +kernel
theorem zin_8 : ∀ q ∈ u_ws RX9 TX9 27, q ∈ zT := by decide +kernel
def zok1 (q : vw_C) (ci : Nat) : Prop := (∀ x ∈ u_ws q.1 q.2.1 q.2.2, x ∈ zT) ∧ znf ci = q.2.2 ∧ (∃ ty0 : Nat → FieldType, ∀ k, k < q.2.2 → parseFieldDescriptor (q.2.1 k).2.2.1 = some (ty0 k)) ∧ (∀ a, a < q.2.2 → ∀ b, b < q.2.2 → a ≠ b → (q.2.1 a).2.1 ≠ (q.2.1 b).2.1)
theorem zok : ∀ (ci : Nat) (q : vw_C), zcl[ci]? = some q → zok1 q ci := by
  intro ci q h
  match ci, h with
  | 0, h => cases h; exact ⟨zin_0, rfl, ⟨_, tyX0_ok⟩, nmX0⟩
  | 1, h => cases h; exact ⟨zin_1, rfl, ⟨_, tyX2_ok⟩, nmX2⟩
  | 2, h => cases h; exact ⟨zin_2, rfl, ⟨_, tyX3_ok⟩, nmX3⟩
  | 3, h => cases h; exact ⟨zin_3, rfl, ⟨_, tyX4_ok⟩, nmX4⟩
  | 4, h => cases h; exact ⟨zin_4, rfl, ⟨_, tyX5_ok⟩, nmX5⟩
  | 5, h => cases h; exact ⟨zin_5, rfl, ⟨_, tyX6_ok⟩, nmX6⟩
  | 6, h => cases h; exact ⟨zin_6, rfl, ⟨_, tyX7_ok⟩, nmX7⟩
  | 7, h => cases h; exact ⟨zin_7, rfl, ⟨_, tyX8_ok⟩, nmX8⟩
  | 8, h => cases h; exact ⟨zin_8, rfl, ⟨_, tyX9_ok⟩, nmX9⟩
  | n + 9, h => simp [zcl] at h
/-- a place of the tables that links a field; one that may be written -/
def zFL (own : String) (idx ci k : Nat) : Prop := ∃ q : vw_C, zcl[ci]? = some q ∧ k < q.2.2 ∧ Cond.fieldLink own idx (q.2.1 k).1 (q.2.1 k).2.1 (q.2.1 k).2.2.1 ∈ zT
def zFP (ci k : Nat) (ty : FieldType) : Prop := ∀ q : vw_C, zcl[ci]? = some q → (q.2.1 k).2.2.2 = false ∧ parseFieldDescriptor (q.2.1 k).2.2.1 = some ty
section ZT
variable {L : zLay} {w : zWd} {X : zX} {r : Option Value} {S1 S : zMem} {ls : Array Slot} {st : List Value} {cc : ByteArray} {own : String} {nL lev : Nat} {ret : Option FieldType} {ρ : Type} {res : ρ} {l0 : Launch}
theorem v_get (pc : Nat) (C : zC L w X l0 cc own nL lev ret) {idx ci k c : Nat} (hd : decode cc pc = .ok (.getfield idx, 3)) (fl : zFL own idx ci k) (hk : c < L.1 ∧ L.2.1 c = 3 + ci) {v : Value} (hv : zfv L w S ci c k = v) (kk : zV L w X r S1 S (pc + 3) ls (v :: st)) : zV L w X r S1 S pc ls (.ref (w.2.2.1 c) :: st) := by
  obtain ⟨p, l, e, R, s, m, args, below, meth, cd⟩ := X
  intro H locs hP hS
  obtain ⟨⟨CN, T, N⟩, h1, h2, h3⟩ := fl
  obtain ⟨g1, g2, -⟩ := zok ci _ h1
  exact va_get (ci := ci) (T := T) (N := N) (C := CN) C.1.2.1 C.1.2.2.1 C.1.2.2.2.2.2 g1 C.1.2.2.2.2.1 C.2.1.1 hP c (by rw [zcs_at hk.1, zce_o hk.2]) h1 k h2 (C.1.2.2.2.2.2 _ h3) (fun _ h9 => h9) (by rw [g2]; rw [zmap_at h2, hv]) hd (kk H locs hP hS)
theorem v_geti (pc : Nat) (C : zC L w X l0 cc own nL lev ret) {idx ci k c : Nat} (hd : decode cc pc = .ok (.getfield idx, 3)) (fl : zFL own idx ci k) (ht : zft ci k = 0) (hk : c < L.1 ∧ L.2.1 c = 3 + ci) {K : Int32 → Option ρ} (h : zl (S.1 c k) K = some res) (kk : ∀ x, K x = some res → zV L w X r S1 S (pc + 3) ls (.int x :: st)) : zV L w X r S1 S pc ls (.ref (w.2.2.1 c) :: st) :=
  v_get pc C hd fl hk (by simp [zfv, ht]) (kk _ h)
theorem v_getl (pc : Nat) (C : zC L w X l0 cc own nL lev ret) {idx ci k c : Nat} (hd : decode cc pc = .ok (.getfield idx, 3)) (fl : zFL own idx ci k) (ht : zft ci k = 1) (hk : c < L.1 ∧ L.2.1 c = 3 + ci) {K : Int64 → Option ρ} (h : zl (S.2 c k) K = some res) (kk : ∀ x, K x = some res → zV L w X r S1 S (pc + 3) ls (.long x :: st)) : zV L w X r S1 S pc ls (.ref (w.2.2.1 c) :: st) :=
  v_get pc C hd fl hk (by simp [zfv, ht]) (kk _ h)
theorem v_getr (pc c1 : Nat) (C : zC L w X l0 cc own nL lev ret) {idx ci k c : Nat} (hd : decode cc pc = .ok (.getfield idx, 3)) (fl : zFL own idx ci k) (ht : zft ci k = 2) (hk : c < L.1 ∧ L.2.1 c = 3 + ci) (hr : L.2.2.2 c k = c1) (kk : zV L w X r S1 S (pc + 3) ls (.ref (w.2.2.1 c1) :: st)) : zV L w X r S1 S pc ls (.ref (w.2.2.1 c) :: st) :=
  v_get pc C hd fl hk (by simp [zfv, ht, hr]) kk
theorem v_puti (pc : Nat) (C : zC L w X l0 cc own nL lev ret) {idx ci k c : Nat} (hd : decode cc pc = .ok (.putfield idx, 3)) (fl : zFL own idx ci k) (fp : zFP ci k .int) (ht : zft ci k = 0) (hk : c < L.1 ∧ L.2.1 c = 3 + ci) {x : Int32} {K : zMem → Option ρ} (h : zl (zp S c (upd (S.1 c) k x)) K = some res) (kk : ∀ S, K S = some res → zV L w X r S1 S (pc + 3) ls st) : zV L w X r S1 S pc ls (.int x :: .ref (w.2.2.1 c) :: st) := by
  obtain ⟨p, l, e, R, s, m, args, below, meth, cd⟩ := X
  intro H locs hP hS
  obtain ⟨⟨CN, T, N⟩, h1, h2, h3⟩ := fl
  obtain ⟨g1, g2, ⟨ty0, g3⟩, g4⟩ := zok ci _ h1
  obtain ⟨f1, f2⟩ := fp _ h1
  have hat : (zcs L w S)[c]? = some (w.2.2.1 c, .inr (ci, (List.range (znf ci)).map (zfv L w S ci c))) := by rw [zcs_at hk.1, zce_o hk.2]
  refine va_put (ci := ci) (T := T) (N := N) (C := CN) (ty := .int) (v := .int x) C.1.2.1 C.1.2.2.1 C.1.2.2.2.2.2 g1 ty0 g3 g4 C.1.2.2.2.2.1 C.2.1.1 hP (zcs_D C.2.1.2.1) hS c hat h1 k h2 (C.1.2.2.2.2.2 _ h3) (fun _ h9 => h9) f1 f2 rfl rfl (by rw [List.length_map, List.length_range, g2]; exact h2) hd (fun H1 locs1 hP1 hD1 hS1 => ?_)
  rw [zcs_po hk.1 hk.2 ht] at hP1
  exact kk _ h H1 locs1 hP1 hS1
theorem v_putz (pc : Nat) (C : zC L w X l0 cc own nL lev ret) {idx ci k c : Nat} (hd : decode cc pc = .ok (.putfield idx, 3)) (fl : zFL own idx ci k) (fp : zFP ci k .boolean) (ht : zft ci k = 0) (hk : c < L.1 ∧ L.2.1 c = 3 + ci) {x : Int32} {K : zMem → Option ρ} (h : zc (zbo x) (zl (zp S c (upd (S.1 c) k x)) K) = some res) (kk : ∀ S, K S = some res → zV L w X r S1 S (pc + 3) ls st) : zV L w X r S1 S pc ls (.int x :: .ref (w.2.2.1 c) :: st) := by
  obtain ⟨p, l, e, R, s, m, args, below, meth, cd⟩ := X
  intro H locs hP hS
  obtain ⟨⟨CN, T, N⟩, h1, h2, h3⟩ := fl
  obtain ⟨g1, g2, ⟨ty0, g3⟩, g4⟩ := zok ci _ h1
  obtain ⟨f1, f2⟩ := fp _ h1
  obtain ⟨hz, h⟩ := zc_e h
  have hat : (zcs L w S)[c]? = some (w.2.2.1 c, .inr (ci, (List.range (znf ci)).map (zfv L w S ci c))) := by rw [zcs_at hk.1, zce_o hk.2]
  have hx : x = 0 ∨ x = 1 := by simpa [zbo] using hz
  refine va_put (ci := ci) (T := T) (N := N) (C := CN) (ty := .boolean) (v := .int x) C.1.2.1 C.1.2.2.1 C.1.2.2.2.2.2 g1 ty0 g3 g4 C.1.2.2.2.2.1 C.2.1.1 hP (zcs_D C.2.1.2.1) hS c hat h1 k h2 (C.1.2.2.2.2.2 _ h3) (fun _ h9 => h9) f1 f2 (by rcases hx with rfl | rfl <;> decide) (by rcases hx with rfl | rfl <;> decide) (by rw [List.length_map, List.length_range, g2]; exact h2) hd (fun H1 locs1 hP1 hD1 hS1 => ?_)
  rw [zcs_po hk.1 hk.2 ht] at hP1
  exact kk _ h H1 locs1 hP1 hS1
theorem v_putl (pc : Nat) (C : zC L w X l0 cc own nL lev ret) {idx ci k c : Nat} (hd : decode cc pc = .ok (.putfield idx, 3)) (fl : zFL own idx ci k) (fp : zFP ci k .long) (ht : zft ci k = 1) (hk : c < L.1 ∧ L.2.1 c = 3 + ci) {x : Int64} {K : zMem → Option ρ} (h : zl (zq S c (vp_updL (S.2 c) k x)) K = some res) (kk : ∀ S, K S = some res → zV L w X r S1 S (pc + 3) ls st) : zV L w X r S1 S pc ls (.long x :: .ref (w.2.2.1 c) :: st) := by
  obtain ⟨p, l, e, R, s, m, args, below, meth, cd⟩ := X
  intro H locs hP hS
  obtain ⟨⟨CN, T, N⟩, h1, h2, h3⟩ := fl
  obtain ⟨g1, g2, ⟨ty0, g3⟩, g4⟩ := zok ci _ h1
  obtain ⟨f1, f2⟩ := fp _ h1
  have hat : (zcs L w S)[c]? = some (w.2.2.1 c, .inr (ci, (List.range (znf ci)).map (zfv L w S ci c))) := by rw [zcs_at hk.1, zce_o hk.2]
  refine va_put (ci := ci) (T := T) (N := N) (C := CN) (ty := .long) (v := .long x) C.1.2.1 C.1.2.2.1 C.1.2.2.2.2.2 g1 ty0 g3 g4 C.1.2.2.2.2.1 C.2.1.1 hP (zcs_D C.2.1.2.1) hS c hat h1 k h2 (C.1.2.2.2.2.2 _ h3) (fun _ h9 => h9) f1 f2 rfl rfl (by rw [List.length_map, List.length_range, g2]; exact h2) hd (fun H1 locs1 hP1 hD1 hS1 => ?_)
  rw [zcs_ql hk.1 hk.2 ht] at hP1
  exact kk _ h H1 locs1 hP1 hS1
theorem v_iald (pc : Nat) (C : zC L w X l0 cc own nL lev ret) {c n : Nat} {i : Int32} (hd : decode cc pc = .ok (.iaload, 1)) (hk : c < L.1 ∧ L.2.1 c = 0) (hn : L.2.2.1 c = n) {K : Int32 → Option ρ} (h : zc (zi i n) (zl (S.1 c i.toNatClampNeg) K) = some res) (kk : ∀ x, K x = some res → zV L w X r S1 S (pc + 1) ls (.int x :: st)) : zV L w X r S1 S pc ls (.int i :: .ref (w.2.2.1 c) :: st) := by
  obtain ⟨p, l, e, R, s, m, args, below, meth, cd⟩ := X
  intro H locs hP hS
  subst hn
  obtain ⟨hi, h⟩ := zc_e h
  exact va_iald C.1.2.1 C.1.2.2.1 C.2.1.1 hP c 0 (by rw [zcs_at hk.1, zce_i hk.2]) rfl (zi_in hi) hd (kk _ h H locs hP hS)
theorem v_iast (pc : Nat) (C : zC L w X l0 cc own nL lev ret) {c n : Nat} {i x : Int32} (hd : decode cc pc = .ok (.iastore, 1)) (hk : c < L.1 ∧ L.2.1 c = 0) (hn : L.2.2.1 c = n) {K : zMem → Option ρ} (h : zc (zi i n) (zl (zp S c (upd (S.1 c) i.toNatClampNeg x)) K) = some res) (kk : ∀ S, K S = some res → zV L w X r S1 S (pc + 1) ls st) : zV L w X r S1 S pc ls (.int x :: .int i :: .ref (w.2.2.1 c) :: st) := by
  obtain ⟨p, l, e, R, s, m, args, below, meth, cd⟩ := X
  intro H locs hP hS
  subst hn
  obtain ⟨hi, h⟩ := zc_e h
  refine va_iast C.1.2.1 C.1.2.2.1 C.2.1.1 hP (zcs_D C.2.1.2.1) hS c 0 (by rw [zcs_at hk.1, zce_i hk.2]) rfl (zi_in hi) hd (fun H1 locs1 hP1 hD1 hS1 => ?_)
  rw [zcs_pi hk.1 hk.2] at hP1
  exact kk _ h H1 locs1 hP1 hS1
theorem v_ilen (pc : Nat) (C : zC L w X l0 cc own nL lev ret) {c : Nat} {v : Int32} (hd : decode cc pc = .ok (.arraylength, 1)) (hk : c < L.1 ∧ L.2.1 c = 0) (hv : Int32.ofNat (L.2.2.1 c) = v) (kk : zV L w X r S1 S (pc + 1) ls (.int v :: st)) : zV L w X r S1 S pc ls (.ref (w.2.2.1 c) :: st) := by
  obtain ⟨p, l, e, R, s, m, args, below, meth, cd⟩ := X
  intro H locs hP hS
  exact va_alen C.1.2.1 C.1.2.2.1 C.2.1.1 hP c 0 (by rw [zcs_at hk.1, zce_i hk.2]) rfl hv hd (kk H locs hP hS)
theorem v_rlen (pc : Nat) (C : zC L w X l0 cc own nL lev ret) {c t : Nat} {v : Int32} (hd : decode cc pc = .ok (.arraylength, 1)) (hk : c < L.1 ∧ L.2.1 c = t) (ht : t = 1 ∨ t = 2) (hv : Int32.ofNat (L.2.2.1 c) = v) (kk : zV L w X r S1 S (pc + 1) ls (.int v :: st)) : zV L w X r S1 S pc ls (.ref (w.2.2.1 c) :: st) := by
  obtain ⟨p, l, e, R, s, m, args, below, meth, cd⟩ := X
  intro H locs hP hS
  rcases ht with rfl | rfl
  · exact va_alen C.1.2.1 C.1.2.2.1 C.2.1.1 hP c 1 (by rw [zcs_at hk.1, zce_r hk.2 (Or.inl rfl)]) rfl hv hd (kk H locs hP hS)
  · exact va_alen C.1.2.1 C.1.2.2.1 C.2.1.1 hP c 2 (by rw [zcs_at hk.1, zce_r hk.2 (Or.inr rfl)]) rfl hv hd (kk H locs hP hS)
theorem v_aald (pc c1 : Nat) (C : zC L w X l0 cc own nL lev ret) {c t n : Nat} {i : Int32} (hd : decode cc pc = .ok (.aaload, 1)) (hk : c < L.1 ∧ L.2.1 c = t) (ht : t = 1 ∨ t = 2) (hn : L.2.2.1 c = n) (hr : L.2.2.2 c i.toNatClampNeg = c1) {K : Option ρ} (h : zc (zi i n) K = some res) (kk : zi i n = true → K = some res → zV L w X r S1 S (pc + 1) ls (.ref (w.2.2.1 c1) :: st)) : zV L w X r S1 S pc ls (.int i :: .ref (w.2.2.1 c) :: st) := by
  obtain ⟨p, l, e, R, s, m, args, below, meth, cd⟩ := X
  intro H locs hP hS
  subst hn
  subst hr
  obtain ⟨hi, h⟩ := zc_e h
  rcases ht with rfl | rfl
  · exact va_aldq (f := fun i => some (w.2.2.1 (L.2.2.2 c i))) C.1.2.1 C.1.2.2.1 C.2.1.1 hP c 1 (by rw [zcs_at hk.1, zce_r hk.2 (Or.inl rfl)]) rfl (zi_in hi) hd (kk hi h H locs hP hS)
  · exact va_aldq (f := fun i => some (w.2.2.1 (L.2.2.2 c i))) C.1.2.1 C.1.2.2.1 C.2.1.1 hP c 2 (by rw [zcs_at hk.1, zce_r hk.2 (Or.inr rfl)]) rfl (zi_in hi) hd (kk hi h H locs hP hS)
end ZT
