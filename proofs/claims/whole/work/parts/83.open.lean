theorem n_astore_n {w : zWd} {X : zX} {b n0 : Nat} {Q : State → Prop} {n : Nat} {es : Nat → va_E} {k sl : Nat} {ls : Array Slot} {st : List Value} {cc : ByteArray} {own : String} {nL : Nat} {R0 : Room} {lv : List (Nat × Value)} {l0 : Launch} (pc : Nat) (C : zNC w X b n0 l0 cc own nL R0) {j : Fin 4} {i x : Nat} (lv' : List (Nat × Value)) (hd : decode cc pc = .ok (.astore_n j, 1)) (hi : (j : Nat) = i) (h : lv_has ls nL lv) (hn : i < nL) (hl : (i, Value.ref x) :: lv.filter (fun q => !(q.1 == i) && !(q.1 + 1 == i && q.2.category == 2)) = lv') (kk : ∀ ls' : Array Slot, lv_has ls' nL lv' → zN w X b Q n es k sl (pc + 1) ls' st) : zN w X b Q n es k sl pc ls (.ref x :: st) := by
  obtain ⟨p, l, e, R, s, m, args, below, meth, c⟩ := X
  intro H locs hP hS
  exact lv_astore_n C.1.2.1 C.1.2.2.1 hd hi h hn hl (fun ls' h' => kk ls' h' H locs hP hS)
theorem wl_7 : Cond.classLink RL 7 RX8 ∈ zT := by decide +kernel
theorem wl_10 : Cond.classLink RL 10 RX9 ∈ zT := by decide +kernel
theorem wl_i8 : Cond.instantiable RX8 15 ∈ zT := by decide +kernel
theorem wl_i9 : Cond.instantiable RX9 27 ∈ zT := by decide +kernel
theorem wl_t8 : Cond.initialized RX8 ∈ zT := by decide +kernel
theorem wl_t9 : Cond.initialized RX9 ∈ zT := by decide +kernel
theorem wl_m9 : Cond.methodLink RL 9 yX8_init ∈ zT := by decide +kernel
theorem wl_m12 : Cond.methodLink RL 12 yX9_init ∈ zT := by decide +kernel
theorem wl_y8 : zYb yX8_init cX8_init 2 none 0 ∧ Cond.instanceMethod yX8_init ∈ zT := by
  refine ⟨⟨by decide +kernel, by decide +kernel, by decide, by decide +kernel, by decide +kernel, by decide +kernel⟩, by decide +kernel⟩
theorem wl_y9 : zYb yX9_init cX9_init 2 none 0 ∧ Cond.instanceMethod yX9_init ∈ zT := by
  refine ⟨⟨by decide +kernel, by decide +kernel, by decide, by decide +kernel, by decide +kernel, by decide +kernel⟩, by decide +kernel⟩
/-- the tables' nine classes, and the three array classes -/
theorem zK_start {s : State} {a : Array Value} (hts : ∀ q ∈ lw_tbl, q.before a s = true) : ∃ (D : va_G) (ca : Nat → ClassId), ∀ (x y : Nat → Nat), va_K D zcl (zty (D, ca, x, y)) s := by
  obtain ⟨c0, i0, k0⟩ := u_known (C := RX0) (T := TX0) (N := 1) (n := 1) hts (fun q h => zT_in (zin_0 q h)) (hts (.instantiable RX0 1) (by decide +kernel))
  obtain ⟨c1, i1, k1⟩ := u_known (C := RX2) (T := TX2) (N := 9) (n := 9) hts (fun q h => zT_in (zin_1 q h)) (hts (.instantiable RX2 9) (by decide +kernel))
  obtain ⟨c2, i2, k2⟩ := u_known (C := RX3) (T := TX3) (N := 7) (n := 7) hts (fun q h => zT_in (zin_2 q h)) (hts (.instantiable RX3 7) (by decide +kernel))
  obtain ⟨c3, i3, k3⟩ := u_known (C := RX4) (T := TX4) (N := 12) (n := 12) hts (fun q h => zT_in (zin_3 q h)) (hts (.instantiable RX4 12) (by decide +kernel))
  obtain ⟨c4, i4, k4⟩ := u_known (C := RX5) (T := TX5) (N := 1) (n := 1) hts (fun q h => zT_in (zin_4 q h)) (hts (.instantiable RX5 1) (by decide +kernel))
  obtain ⟨c5, i5, k5⟩ := u_known (C := RX6) (T := TX6) (N := 8) (n := 8) hts (fun q h => zT_in (zin_5 q h)) (hts (.instantiable RX6 8) (by decide +kernel))
  obtain ⟨c6, i6, k6⟩ := u_known (C := RX7) (T := TX7) (N := 2) (n := 2) hts (fun q h => zT_in (zin_6 q h)) (hts (.instantiable RX7 2) (by decide +kernel))
  obtain ⟨c7, i7, k7⟩ := u_known (C := RX8) (T := TX8) (N := 15) (n := 15) hts (fun q h => zT_in (zin_7 q h)) (hts (.instantiable RX8 15) (by decide +kernel))
  obtain ⟨c8, i8, k8⟩ := u_known (C := RX9) (T := TX9) (N := 27) (n := 27) hts (fun q h => zT_in (zin_8 q h)) (hts (.instantiable RX9 27) (by decide +kernel))
  obtain ⟨ai, ki, compi, f1, f2, f3⟩ := Cond.arrayClass_spec (hts (.arrayClass .int) (by decide +kernel))
  obtain ⟨comps, as, ks, g1, -, g3, g4, g5⟩ := Cond.arrayOver_spec (hts (.arrayOver (.object RX7)) (by decide +kernel))
  obtain ⟨compp, ap, kp, h1, -, h3, h4, h5⟩ := Cond.arrayOver_spec (hts (.arrayOver (.object RX4)) (by decide +kernel))
  refine ⟨(fun k => [c0, c1, c2, c3, c4, c5, c6, c7, c8].getD k c0, fun k => [i0, i1, i2, i3, i4, i5, i6, i7, i8].getD k i0), fun t => [ai, as, ap].getD t ai, fun x y => ⟨fun k q hq => ?_, fun t q hq => ?_⟩⟩
  · match k, hq with
    | 0, hq => cases hq; exact k0
    | 1, hq => cases hq; exact k1
    | 2, hq => cases hq; exact k2
    | 3, hq => cases hq; exact k3
    | 4, hq => cases hq; exact k4
    | 5, hq => cases hq; exact k5
    | 6, hq => cases hq; exact k6
    | 7, hq => cases hq; exact k7
    | 8, hq => cases hq; exact k8
    | k + 9, hq => simp [zcl] at hq
  · match t, hq with
    | 0, hq => cases hq; exact ⟨fun N z => ⟨(fun k h => by cases h), ki, f2, compi, f3⟩, f1⟩
    | 1, hq => cases hq; exact ⟨fun N z => ⟨(fun k h => by cases h), ks, g3, comps, g4⟩, ks, comps, g3, g4, g1, g5⟩
    | 2, hq => cases hq; exact ⟨fun N z => ⟨(fun k h => by cases h), kp, h3, compp, h4⟩, kp, compp, h3, h4, h1, h5⟩
    | t + 3, hq => simp [zty] at hq
theorem zst_start {s : State} {a : Array Value} (hts : ∀ q ∈ lw_tbl, q.before a s = true) (hgv : (Jvm.Cond.and given_1 narrow_1).before a s = true) : ∃ st : Nat → Nat, ∀ (L : zLay) (D : va_G) (ca : Nat → ClassId) (ad : Nat → Nat), (∀ q, zA L (D, ca, ad, st) q → s.heap.size ≤ q) → zst L (D, ca, ad, st) s s.heap := by
  have hs := flat_of_before _ hgv
  have hl0 : (Cond.laysStatic RX1 "SIGNS" "[C").before a s = true := hts _ (by decide +kernel)
  have hl1 : (Cond.laysStatic RX1 "PARENTS" "[I").before a s = true := hts _ (by decide +kernel)
  have hini : (Cond.initialized RX1).before a s = true := hts _ (by decide +kernel)
  have a0 : (Cond.arrayOf (.static RX1 "SIGNS" "[C") .char).before a s = true := hs _ (by decide +kernel)
  have a1 : (Cond.arrayOf (.static RX1 "PARENTS" "[I") .int).before a s = true := hs _ (by decide +kernel)
  have n0 := va_eqt (hs (.eq (.length (.static RX1 "SIGNS" "[C")) (.int 6)) (by decide +kernel))
  have n1 := va_eqt (hs (.eq (.length (.static RX1 "PARENTS" "[I")) (.int 6)) (by decide +kernel))
  have e0 : ∀ j : Nat, j < 6 → (Term.elem (.static RX1 "SIGNS" "[C") (.int (Int32.ofNat j))).eval a s none [] s = some (.int (zsig j)) := by
    intro j hj
    match j, hj with
    | 0, _ => exact va_eqt (hs (.eq (.elem (.static RX1 "SIGNS" "[C") (.int 0)) (.int 108)) (by decide +kernel))
    | 1, _ => exact va_eqt (hs (.eq (.elem (.static RX1 "SIGNS" "[C") (.int 1)) (.int 116)) (by decide +kernel))
    | 2, _ => exact va_eqt (hs (.eq (.elem (.static RX1 "SIGNS" "[C") (.int 2)) (.int 98)) (by decide +kernel))
    | 3, _ => exact va_eqt (hs (.eq (.elem (.static RX1 "SIGNS" "[C") (.int 3)) (.int 118)) (by decide +kernel))
    | 4, _ => exact va_eqt (hs (.eq (.elem (.static RX1 "SIGNS" "[C") (.int 4)) (.int 107)) (by decide +kernel))
    | 5, _ => exact va_eqt (hs (.eq (.elem (.static RX1 "SIGNS" "[C") (.int 5)) (.int 102)) (by decide +kernel))
  have e1 : ∀ j : Nat, j < 6 → (Term.elem (.static RX1 "PARENTS" "[I") (.int (Int32.ofNat j))).eval a s none [] s = some (.int (zpar j)) := by
    intro j hj
    match j, hj with
    | 0, _ => exact va_eqt (hs (.eq (.elem (.static RX1 "PARENTS" "[I") (.int 0)) (.int (-9))) (by decide +kernel))
    | 1, _ => exact va_eqt (hs (.eq (.elem (.static RX1 "PARENTS" "[I") (.int 1)) (.int 0)) (by decide +kernel))
    | 2, _ => exact va_eqt (hs (.eq (.elem (.static RX1 "PARENTS" "[I") (.int 2)) (.int 0)) (by decide +kernel))
    | 3, _ => exact va_eqt (hs (.eq (.elem (.static RX1 "PARENTS" "[I") (.int 3)) (.int 0)) (by decide +kernel))
    | 4, _ => exact va_eqt (hs (.eq (.elem (.static RX1 "PARENTS" "[I") (.int 4)) (.int 1)) (by decide +kernel))
    | 5, _ => exact va_eqt (hs (.eq (.elem (.static RX1 "PARENTS" "[I") (.int 5)) (.int 3)) (by decide +kernel))
  obtain ⟨t0, v0, -⟩ := va_Tof (A := fun _ => False) (N := 6) (f := fun j => .int (zsig j)) (by decide) a0 n0 e0 (fun _ _ h => h)
  obtain ⟨t1, v1, -⟩ := va_Tof (A := fun _ => False) (N := 6) (f := fun j => .int (zpar j)) (by decide) a1 n1 e1 (fun _ _ h => h)
  refine ⟨fun k => if k = 0 then t0 else t1, fun L D ca ad hd => ?_⟩
  have hA : ∀ q : Nat, q < s.heap.size → ¬ zA L (D, ca, ad, fun k => if k = 0 then t0 else t1) q := fun q h z => absurd (hd q z) (by omega)
  obtain ⟨u0, w0, T0⟩ := va_Tof (A := zA L (D, ca, ad, fun k => if k = 0 then t0 else t1)) (N := 6) (f := fun j => .int (zsig j)) (by decide) a0 n0 e0 hA
  obtain ⟨u1, w1, T1⟩ := va_Tof (A := zA L (D, ca, ad, fun k => if k = 0 then t0 else t1)) (N := 6) (f := fun j => .int (zpar j)) (by decide) a1 n1 e1 hA
  have x0 : u0 = t0 := by
    have := w0.symm.trans v0
    simpa using this
  have x1 : u1 = t1 := by
    have := w1.symm.trans v1
    simpa using this
  subst x0
  subst x1
  exact ⟨⟨va_Zof hl0 hini w0 hA, T0⟩, ⟨va_Zof hl1 hini w1 hA, T1⟩⟩
theorem zNw_start {s : State} {a : Array Value} (hts : ∀ q ∈ lw_tbl, q.before a s = true) : zNw s :=
  ⟨⟨va_Nw.of rfl (hts _ (by decide +kernel)), va_Nw.of rfl (hts _ (by decide +kernel)), va_Nw.of rfl (hts _ (by decide +kernel)), va_Nw.of rfl (hts _ (by decide +kernel))⟩, va_AO.of (hts _ (by decide +kernel)), va_AO.of (hts _ (by decide +kernel))⟩
set_option maxRecDepth 100000 in
set_option maxHeartbeats 4000000 in
theorem whole_open {Inv : zMem → zMem → Prop} (hA : zAgree Inv) {p : Program} {e : Env} {s : State} {m : MethodId} {below : List Frame} {meth : Method} {c : Code} (l : Launch) {b L : Nat} {xs : Nat → Int32} (hL : L ≤ 384) (C0 : lw_At p s m meth c b L xs) : W p l e room_1 s m #[Value.ref b] below meth c s.heap [] 0 0 (lw_Z below #[Value.ref b] s) (entryFrame m ([Value.ref b] : List Value).toArray 4) := by
  obtain ⟨hx, hb, hr, hml, hown, hts, hX, hbl, hlocks, hgv⟩ := C0
  obtain ⟨D, ca, hK⟩ := zK_start hts
  obtain ⟨st, hst⟩ := zst_start hts hgv
  obtain ⟨w, hw⟩ : ∃ w : zWd, w = (D, ca, fun q => q, st) := ⟨_, rfl⟩
  have hKw : va_K w.1 zcl (zty w) s := by rw [hw]; exact hK _ _
  have hzT : ∀ q ∈ zT, q.before #[Value.ref b] s = true := fun q h => hts q (zT_in h)
  have hl := lv_entry ([.ref b]) (n := 4) (Nat.le_of_ble_eq_true rfl)
  rw [lg_entry_eq]
  generalize (lg_sl ([.ref b]) ++ List.replicate (4 - (lg_sl ([.ref b])).length) Slot.unset).toArray = ls at hl ⊢
  have hl : lv_has ls 4 [(0, .ref b)] := hl
  have C : zNC w (p, l, e, room_1, s, m, #[Value.ref b], below, meth, c) s.heap.size 0 l cL_law RL 4 room_1 := ⟨⟨rfl, hx, hb, hml, hown, hzT⟩, ⟨hKw, rfl⟩, ⟨hlocks, zNw_start hts⟩, rfl⟩
  have key : zN w (p, l, e, room_1, s, m, #[Value.ref b], below, meth, c) s.heap.size (lw_Z below #[Value.ref b] s) 0 (fun _ => .inr (0, [])) 0 0 0 ls [] := by
    refine n_new 0 C (ci := 7) (N := 15) dL_law_0 rfl rfl wl_7 wl_i8 wl_t8 tyX8 tyX8_ok fd_X8 rfl (Nat.le_of_ble_eq_true rfl) (Nat.le_of_ble_eq_true rfl) (es1 := zeA s.heap.size w) rfl ?_
    refine n_dup 3 C dL_law_3 rfl ?_
    refine n_ctorI 4 C (i := 0) (es1 := zeB s.heap.size w) [.ref (s.heap.size + 0)] dL_law_4 wl_m9 wl_y8 rfl (ci_X8_init rfl) ⟨Nat.le_of_ble_eq_true rfl, Nat.le_of_ble_eq_true rfl⟩ rfl hl.1 (Nat.le_of_ble_eq_true rfl) rfl rfl ⟨Nat.le_of_ble_eq_true rfl, Nat.le_of_ble_eq_true rfl⟩ ?_
    refine n_astore_n 7 C [(1, .ref (s.heap.size + 0)), (0, .ref b)] dL_law_7 rfl hl (by decide) rfl (fun ls hl => ?_)
    refine n_new 8 C (ci := 8) (N := 27) dL_law_8 rfl rfl wl_10 wl_i9 wl_t9 tyX9 tyX9_ok fd_X9 rfl (Nat.le_of_ble_eq_true rfl) (Nat.le_of_ble_eq_true rfl) (es1 := zeC s.heap.size w) rfl ?_
    refine n_dup 11 C dL_law_11 rfl ?_
    refine n_ctorI 12 C (i := 68) (es1 := zeD s.heap.size w) [.ref (s.heap.size + 68)] dL_law_12 wl_m12 wl_y9 rfl (ci_X9_init (by decide) rfl) ⟨Nat.le_of_ble_eq_true rfl, Nat.le_of_ble_eq_true rfl⟩ rfl hl.1 (Nat.le_of_ble_eq_true rfl) rfl rfl ⟨Nat.le_of_ble_eq_true rfl, Nat.le_of_ble_eq_true rfl⟩ ?_
    refine n_astore_n 15 C [(2, .ref (s.heap.size + 68)), (1, .ref (s.heap.size + 0)), (0, .ref b)] dL_law_15 rfl hl (by decide) rfl (fun ls hl => ?_)
    refine n_iconst 16 C (v := nI 0) dL_law_16 (by decide) ?_
    refine n_istore_n 17 C [(3, .int (nI 0)), (2, .ref (s.heap.size + 68)), (1, .ref (s.heap.size + 0)), (0, .ref b)] dL_law_17 rfl hl (by decide) rfl (fun ls hl => ?_)
    intro H locs hP hS
    have hP : va_P w.1 zcl (zEs s.heap.size 83 (zeD s.heap.size w)) H := hP
    have C2 : zLK (zwc s.heap.size w) (zwm s.heap.size w) (p, l, e, s, m, below, meth, c, b) l L xs := by
      refine ⟨⟨rfl, hx, hb, hml, hown, hzT⟩, ⟨hX, hbl, hL⟩, ⟨hKw, zwc_inj _ _, ?_⟩, ⟨hKw, zwm_inj _ _, ?_⟩, fun q h => zwc_dis _ _ h, fun q h => zwm_dis _ _ h, hlocks, hr⟩
      · subst hw
        exact hst LC D ca _ (fun q h => (zwc_dis s.heap.size (D, ca, fun q => q, st) h).1)
      · subst hw
        exact hst LM D ca _ (fun q h => (zwm_dis s.heap.size (D, ca, fun q => q, st) h).1)
    exact law_loop C2 hA (L + 1) 0 zS0c zS0m ls (by omega) (by omega) hA.1 (lv_sub hl [3, 2, 1, 0] rfl) H locs (zfc_all _ _ hP) (zfm_all _ _ hP) hS
  exact key s.heap [] (fun k q h => by simp [zEs] at h) va_S.rf
