/-- where the class's cells lie in the block that the constructors make -/
def zsg (c : Nat) : Nat := if c < 3 then c else if c = 3 then 24 else if c < 24 then c + 29 else if c < 45 then c - 21 else if c < 60 then c + 8 else c - 35
def zS0c : zMem := (fun c k => if 4 ≤ c ∧ c < 24 ∧ c % 2 = 0 ∧ k = 1 then -1 else 0, fun c k => if c = 0 ∧ k = 14 then 1 else 0)
def zS0m : zMem := (fun c => if c = 1 then upd (upd (upd (fun _ => 0) (Int32.toNatClampNeg 698) (-1)) (Int32.toNatClampNeg 1396) (-1)) (Int32.toNatClampNeg 2094) (-1)
    else if c = 5 then upd (upd (upd (upd (upd (upd (fun _ => 0) (Int32.toNatClampNeg 0) (-1)) (Int32.toNatClampNeg 1) (-1)) (Int32.toNatClampNeg 2) (-1)) (Int32.toNatClampNeg 3) (-1)) (Int32.toNatClampNeg 4) (-1)) (Int32.toNatClampNeg 5) (-1)
    else if c = 7 then upd (upd (upd (upd (fun _ => 0) (Int32.toNatClampNeg 0) (-1)) (Int32.toNatClampNeg 1) (-1)) (Int32.toNatClampNeg 2) (-1)) (Int32.toNatClampNeg 3) (-1)
    else fun _ => 0, fun c k => if c = 0 ∧ k = 12 then 1 else 0)
def zeA (b : Nat) (w : zWd) : Nat → va_E := va_up (fun _ => .inr (0, [])) 0 (.inr (7, [.null, .null, .null, .null, .null, .null, .null, .null, .null, .null, .null, .int 0, .int 0, .long 0, .long 0]))
def zeB (b : Nat) (w : zWd) : Nat → va_E := eX8_init_69 b w (zeA b w)
def zeC (b : Nat) (w : zWd) : Nat → va_E := va_up (zeB b w) 68 (.inr (8, [.null, .int 0, .int 0, .null, .null, .null, .null, .null, .null, .null, .int 0, .long 0, .long 0, .int 0, .null, .int 0, .int 0, .int 0, .int 0, .int 0, .int 0, .null, .int 0, .null, .null, .null, .null]))
def zeD (b : Nat) (w : zWd) : Nat → va_E := eX9_init_42 b 69 68 w (zeC b w)
def zwc (b : Nat) (w : zWd) : zWd := (w.1, w.2.1, fun c => b + zsg c, w.2.2.2)
def zwm (b : Nat) (w : zWd) : zWd := (w.1, w.2.1, fun c => b + (68 + c), w.2.2.2)
set_option maxRecDepth 20000 in
theorem zfc_0 (b : Nat) (w : zWd) : zeD b w (zsg 0) = zce LC (zwc b w) zS0c 0 := by rfl
set_option maxRecDepth 20000 in
theorem zfc_4 (b : Nat) (w : zWd) : zeD b w (zsg 4) = zce LC (zwc b w) zS0c 4 := by rfl
set_option maxRecDepth 20000 in
theorem zfc_5 (b : Nat) (w : zWd) : zeD b w (zsg 5) = zce LC (zwc b w) zS0c 5 := by rfl
set_option maxRecDepth 20000 in
theorem zfc_6 (b : Nat) (w : zWd) : zeD b w (zsg 6) = zce LC (zwc b w) zS0c 6 := by rfl
set_option maxRecDepth 20000 in
theorem zfc_7 (b : Nat) (w : zWd) : zeD b w (zsg 7) = zce LC (zwc b w) zS0c 7 := by rfl
set_option maxRecDepth 20000 in
theorem zfc_8 (b : Nat) (w : zWd) : zeD b w (zsg 8) = zce LC (zwc b w) zS0c 8 := by rfl
set_option maxRecDepth 20000 in
theorem zfc_9 (b : Nat) (w : zWd) : zeD b w (zsg 9) = zce LC (zwc b w) zS0c 9 := by rfl
set_option maxRecDepth 20000 in
theorem zfc_10 (b : Nat) (w : zWd) : zeD b w (zsg 10) = zce LC (zwc b w) zS0c 10 := by rfl
set_option maxRecDepth 20000 in
theorem zfc_11 (b : Nat) (w : zWd) : zeD b w (zsg 11) = zce LC (zwc b w) zS0c 11 := by rfl
set_option maxRecDepth 20000 in
theorem zfc_12 (b : Nat) (w : zWd) : zeD b w (zsg 12) = zce LC (zwc b w) zS0c 12 := by rfl
set_option maxRecDepth 20000 in
theorem zfc_13 (b : Nat) (w : zWd) : zeD b w (zsg 13) = zce LC (zwc b w) zS0c 13 := by rfl
set_option maxRecDepth 20000 in
theorem zfc_14 (b : Nat) (w : zWd) : zeD b w (zsg 14) = zce LC (zwc b w) zS0c 14 := by rfl
set_option maxRecDepth 20000 in
theorem zfc_15 (b : Nat) (w : zWd) : zeD b w (zsg 15) = zce LC (zwc b w) zS0c 15 := by rfl
set_option maxRecDepth 20000 in
theorem zfc_16 (b : Nat) (w : zWd) : zeD b w (zsg 16) = zce LC (zwc b w) zS0c 16 := by rfl
set_option maxRecDepth 20000 in
theorem zfc_17 (b : Nat) (w : zWd) : zeD b w (zsg 17) = zce LC (zwc b w) zS0c 17 := by rfl
set_option maxRecDepth 20000 in
theorem zfc_18 (b : Nat) (w : zWd) : zeD b w (zsg 18) = zce LC (zwc b w) zS0c 18 := by rfl
set_option maxRecDepth 20000 in
theorem zfc_19 (b : Nat) (w : zWd) : zeD b w (zsg 19) = zce LC (zwc b w) zS0c 19 := by rfl
set_option maxRecDepth 20000 in
theorem zfc_20 (b : Nat) (w : zWd) : zeD b w (zsg 20) = zce LC (zwc b w) zS0c 20 := by rfl
set_option maxRecDepth 20000 in
theorem zfc_21 (b : Nat) (w : zWd) : zeD b w (zsg 21) = zce LC (zwc b w) zS0c 21 := by rfl
set_option maxRecDepth 20000 in
theorem zfc_22 (b : Nat) (w : zWd) : zeD b w (zsg 22) = zce LC (zwc b w) zS0c 22 := by rfl
set_option maxRecDepth 20000 in
theorem zfc_23 (b : Nat) (w : zWd) : zeD b w (zsg 23) = zce LC (zwc b w) zS0c 23 := by rfl
set_option maxRecDepth 20000 in
theorem zfc_24 (b : Nat) (w : zWd) : zeD b w (zsg 24) = zce LC (zwc b w) zS0c 24 := by rfl
set_option maxRecDepth 20000 in
theorem zfc_25 (b : Nat) (w : zWd) : zeD b w (zsg 25) = zce LC (zwc b w) zS0c 25 := by rfl
set_option maxRecDepth 20000 in
theorem zfc_26 (b : Nat) (w : zWd) : zeD b w (zsg 26) = zce LC (zwc b w) zS0c 26 := by rfl
set_option maxRecDepth 20000 in
theorem zfc_27 (b : Nat) (w : zWd) : zeD b w (zsg 27) = zce LC (zwc b w) zS0c 27 := by rfl
set_option maxRecDepth 20000 in
theorem zfc_28 (b : Nat) (w : zWd) : zeD b w (zsg 28) = zce LC (zwc b w) zS0c 28 := by rfl
set_option maxRecDepth 20000 in
theorem zfc_29 (b : Nat) (w : zWd) : zeD b w (zsg 29) = zce LC (zwc b w) zS0c 29 := by rfl
set_option maxRecDepth 20000 in
theorem zfc_30 (b : Nat) (w : zWd) : zeD b w (zsg 30) = zce LC (zwc b w) zS0c 30 := by rfl
set_option maxRecDepth 20000 in
theorem zfc_31 (b : Nat) (w : zWd) : zeD b w (zsg 31) = zce LC (zwc b w) zS0c 31 := by rfl
set_option maxRecDepth 20000 in
theorem zfc_32 (b : Nat) (w : zWd) : zeD b w (zsg 32) = zce LC (zwc b w) zS0c 32 := by rfl
set_option maxRecDepth 20000 in
theorem zfc_33 (b : Nat) (w : zWd) : zeD b w (zsg 33) = zce LC (zwc b w) zS0c 33 := by rfl
set_option maxRecDepth 20000 in
theorem zfc_34 (b : Nat) (w : zWd) : zeD b w (zsg 34) = zce LC (zwc b w) zS0c 34 := by rfl
set_option maxRecDepth 20000 in
theorem zfc_35 (b : Nat) (w : zWd) : zeD b w (zsg 35) = zce LC (zwc b w) zS0c 35 := by rfl
set_option maxRecDepth 20000 in
theorem zfc_36 (b : Nat) (w : zWd) : zeD b w (zsg 36) = zce LC (zwc b w) zS0c 36 := by rfl
set_option maxRecDepth 20000 in
theorem zfc_37 (b : Nat) (w : zWd) : zeD b w (zsg 37) = zce LC (zwc b w) zS0c 37 := by rfl
set_option maxRecDepth 20000 in
theorem zfc_38 (b : Nat) (w : zWd) : zeD b w (zsg 38) = zce LC (zwc b w) zS0c 38 := by rfl
set_option maxRecDepth 20000 in
theorem zfc_39 (b : Nat) (w : zWd) : zeD b w (zsg 39) = zce LC (zwc b w) zS0c 39 := by rfl
set_option maxRecDepth 20000 in
theorem zfc_40 (b : Nat) (w : zWd) : zeD b w (zsg 40) = zce LC (zwc b w) zS0c 40 := by rfl
set_option maxRecDepth 20000 in
theorem zfc_41 (b : Nat) (w : zWd) : zeD b w (zsg 41) = zce LC (zwc b w) zS0c 41 := by rfl
set_option maxRecDepth 20000 in
theorem zfc_42 (b : Nat) (w : zWd) : zeD b w (zsg 42) = zce LC (zwc b w) zS0c 42 := by rfl
set_option maxRecDepth 20000 in
theorem zfc_43 (b : Nat) (w : zWd) : zeD b w (zsg 43) = zce LC (zwc b w) zS0c 43 := by rfl
set_option maxRecDepth 20000 in
theorem zfc_44 (b : Nat) (w : zWd) : zeD b w (zsg 44) = zce LC (zwc b w) zS0c 44 := by rfl
set_option maxRecDepth 20000 in
theorem zfc_45 (b : Nat) (w : zWd) : zeD b w (zsg 45) = zce LC (zwc b w) zS0c 45 := by rfl
set_option maxRecDepth 20000 in
theorem zfc_46 (b : Nat) (w : zWd) : zeD b w (zsg 46) = zce LC (zwc b w) zS0c 46 := by rfl
set_option maxRecDepth 20000 in
theorem zfc_47 (b : Nat) (w : zWd) : zeD b w (zsg 47) = zce LC (zwc b w) zS0c 47 := by rfl
set_option maxRecDepth 20000 in
theorem zfc_48 (b : Nat) (w : zWd) : zeD b w (zsg 48) = zce LC (zwc b w) zS0c 48 := by rfl
set_option maxRecDepth 20000 in
theorem zfc_49 (b : Nat) (w : zWd) : zeD b w (zsg 49) = zce LC (zwc b w) zS0c 49 := by rfl
set_option maxRecDepth 20000 in
theorem zfc_50 (b : Nat) (w : zWd) : zeD b w (zsg 50) = zce LC (zwc b w) zS0c 50 := by rfl
set_option maxRecDepth 20000 in
theorem zfc_51 (b : Nat) (w : zWd) : zeD b w (zsg 51) = zce LC (zwc b w) zS0c 51 := by rfl
set_option maxRecDepth 20000 in
theorem zfc_52 (b : Nat) (w : zWd) : zeD b w (zsg 52) = zce LC (zwc b w) zS0c 52 := by rfl
set_option maxRecDepth 20000 in
theorem zfc_53 (b : Nat) (w : zWd) : zeD b w (zsg 53) = zce LC (zwc b w) zS0c 53 := by rfl
set_option maxRecDepth 20000 in
theorem zfc_54 (b : Nat) (w : zWd) : zeD b w (zsg 54) = zce LC (zwc b w) zS0c 54 := by rfl
set_option maxRecDepth 20000 in
theorem zfc_55 (b : Nat) (w : zWd) : zeD b w (zsg 55) = zce LC (zwc b w) zS0c 55 := by rfl
set_option maxRecDepth 20000 in
theorem zfc_56 (b : Nat) (w : zWd) : zeD b w (zsg 56) = zce LC (zwc b w) zS0c 56 := by rfl
set_option maxRecDepth 20000 in
theorem zfc_57 (b : Nat) (w : zWd) : zeD b w (zsg 57) = zce LC (zwc b w) zS0c 57 := by rfl
set_option maxRecDepth 20000 in
theorem zfc_58 (b : Nat) (w : zWd) : zeD b w (zsg 58) = zce LC (zwc b w) zS0c 58 := by rfl
set_option maxRecDepth 20000 in
theorem zfc_59 (b : Nat) (w : zWd) : zeD b w (zsg 59) = zce LC (zwc b w) zS0c 59 := by rfl
set_option maxRecDepth 20000 in
theorem zfc_60 (b : Nat) (w : zWd) : zeD b w (zsg 60) = zce LC (zwc b w) zS0c 60 := by rfl
set_option maxRecDepth 20000 in
theorem zfc_61 (b : Nat) (w : zWd) : zeD b w (zsg 61) = zce LC (zwc b w) zS0c 61 := by rfl
set_option maxRecDepth 20000 in
theorem zfc_62 (b : Nat) (w : zWd) : zeD b w (zsg 62) = zce LC (zwc b w) zS0c 62 := by rfl
set_option maxRecDepth 20000 in
theorem zfc_63 (b : Nat) (w : zWd) : zeD b w (zsg 63) = zce LC (zwc b w) zS0c 63 := by rfl
set_option maxRecDepth 20000 in
theorem zfc_64 (b : Nat) (w : zWd) : zeD b w (zsg 64) = zce LC (zwc b w) zS0c 64 := by rfl
set_option maxRecDepth 20000 in
theorem zfc_65 (b : Nat) (w : zWd) : zeD b w (zsg 65) = zce LC (zwc b w) zS0c 65 := by rfl
set_option maxRecDepth 20000 in
theorem zfc_66 (b : Nat) (w : zWd) : zeD b w (zsg 66) = zce LC (zwc b w) zS0c 66 := by rfl
set_option maxRecDepth 20000 in
theorem zfc_67 (b : Nat) (w : zWd) : zeD b w (zsg 67) = zce LC (zwc b w) zS0c 67 := by rfl
set_option maxRecDepth 20000 in
theorem zfm_0 (b : Nat) (w : zWd) : zeD b w (68 + 0) = zce LM (zwm b w) zS0m 0 := by rfl
set_option maxRecDepth 20000 in
theorem zfm_1 (b : Nat) (w : zWd) : zeD b w (68 + 1) = zce LM (zwm b w) zS0m 1 := by rfl
set_option maxRecDepth 20000 in
theorem zfm_2 (b : Nat) (w : zWd) : zeD b w (68 + 2) = zce LM (zwm b w) zS0m 2 := by rfl
set_option maxRecDepth 20000 in
theorem zfm_3 (b : Nat) (w : zWd) : zeD b w (68 + 3) = zce LM (zwm b w) zS0m 3 := by rfl
set_option maxRecDepth 20000 in
theorem zfm_4 (b : Nat) (w : zWd) : zeD b w (68 + 4) = zce LM (zwm b w) zS0m 4 := by rfl
set_option maxRecDepth 20000 in
theorem zfm_5 (b : Nat) (w : zWd) : zeD b w (68 + 5) = zce LM (zwm b w) zS0m 5 := by rfl
set_option maxRecDepth 20000 in
theorem zfm_6 (b : Nat) (w : zWd) : zeD b w (68 + 6) = zce LM (zwm b w) zS0m 6 := by rfl
set_option maxRecDepth 20000 in
theorem zfm_7 (b : Nat) (w : zWd) : zeD b w (68 + 7) = zce LM (zwm b w) zS0m 7 := by rfl
set_option maxRecDepth 20000 in
theorem zfm_8 (b : Nat) (w : zWd) : zeD b w (68 + 8) = zce LM (zwm b w) zS0m 8 := by rfl
set_option maxRecDepth 20000 in
theorem zfm_9 (b : Nat) (w : zWd) : zeD b w (68 + 9) = zce LM (zwm b w) zS0m 9 := by rfl
set_option maxRecDepth 20000 in
theorem zfm_10 (b : Nat) (w : zWd) : zeD b w (68 + 10) = zce LM (zwm b w) zS0m 10 := by rfl
set_option maxRecDepth 20000 in
theorem zfm_11 (b : Nat) (w : zWd) : zeD b w (68 + 11) = zce LM (zwm b w) zS0m 11 := by rfl
set_option maxRecDepth 20000 in
theorem zfm_12 (b : Nat) (w : zWd) : zeD b w (68 + 12) = zce LM (zwm b w) zS0m 12 := by rfl
set_option maxRecDepth 20000 in
theorem zfm_13 (b : Nat) (w : zWd) : zeD b w (68 + 13) = zce LM (zwm b w) zS0m 13 := by rfl
set_option maxRecDepth 20000 in
theorem zfm_14 (b : Nat) (w : zWd) : zeD b w (68 + 14) = zce LM (zwm b w) zS0m 14 := by rfl
theorem zq_cg {D : va_G} {a N : Nat} {cA : ClassId} {f g : Nat → Option Nat} {H : Heap} (h : ∀ j, j < N → f j = g j) (hp : va_at D zcl (a, .inl (cA, N, .inr (.inr (.inr (.inr f))))) H) : va_at D zcl (a, .inl (cA, N, .inr (.inr (.inr (.inr g))))) H := by
  have e : vp_cell cA (N, .inr (.inr (.inr (.inr f)))) = vp_cell cA (N, .inr (.inr (.inr (.inr g)))) := by
    rw [vp_cell_q, vp_cell_q]
    simp only [arrV]
    congr 2
    funext j
    rw [h j.val j.isLt]
  show H[a]? = some (vp_cell _ _)
  rw [← e]
  exact hp
set_option maxRecDepth 20000 in
theorem zfr_1 (b : Nat) (w : zWd) {H : Heap} {a : Nat} (h : va_at w.1 zcl (a, zeD b w (zsg 1)) H) : va_at w.1 zcl (a, zce LC (zwc b w) zS0c 1) H := by
  have e1 : zeD b w (zsg 1) = .inl (w.2.1 1, 6, .inr (.inr (.inr (.inr (va_up (va_up (va_up (va_up (va_up (va_up (fun _ => none) (Int32.toNatClampNeg (0 : Int32)) (some (b + 33))) (Int32.toNatClampNeg (1 : Int32)) (some (b + 35))) (Int32.toNatClampNeg (2 : Int32)) (some (b + 37))) (Int32.toNatClampNeg (3 : Int32)) (some (b + 39))) (Int32.toNatClampNeg (4 : Int32)) (some (b + 41))) (Int32.toNatClampNeg (5 : Int32)) (some (b + 43))))))) := rfl
  have e2 : zce LC (zwc b w) zS0c 1 = .inl (w.2.1 1, 6, .inr (.inr (.inr (.inr fun i => some ((zwc b w).2.2.1 (rfC 1 i)))))) := rfl
  rw [e1] at h
  rw [e2]
  refine zq_cg (fun j hj => ?_) h
  match j, hj with
  | 0, _ => rfl
  | 1, _ => rfl
  | 2, _ => rfl
  | 3, _ => rfl
  | 4, _ => rfl
  | 5, _ => rfl
set_option maxRecDepth 20000 in
theorem zfr_2 (b : Nat) (w : zWd) {H : Heap} {a : Nat} (h : va_at w.1 zcl (a, zeD b w (zsg 2)) H) : va_at w.1 zcl (a, zce LC (zwc b w) zS0c 2) H := by
  have e1 : zeD b w (zsg 2) = .inl (w.2.1 1, 4, .inr (.inr (.inr (.inr (va_up (va_up (va_up (va_up (fun _ => none) (Int32.toNatClampNeg (0 : Int32)) (some (b + 45))) (Int32.toNatClampNeg (1 : Int32)) (some (b + 47))) (Int32.toNatClampNeg (2 : Int32)) (some (b + 49))) (Int32.toNatClampNeg (3 : Int32)) (some (b + 51))))))) := rfl
  have e2 : zce LC (zwc b w) zS0c 2 = .inl (w.2.1 1, 4, .inr (.inr (.inr (.inr fun i => some ((zwc b w).2.2.1 (rfC 2 i)))))) := rfl
  rw [e1] at h
  rw [e2]
  refine zq_cg (fun j hj => ?_) h
  match j, hj with
  | 0, _ => rfl
  | 1, _ => rfl
  | 2, _ => rfl
  | 3, _ => rfl
set_option maxRecDepth 20000 in
theorem zfr_3 (b : Nat) (w : zWd) {H : Heap} {a : Nat} (h : va_at w.1 zcl (a, zeD b w (zsg 3)) H) : va_at w.1 zcl (a, zce LC (zwc b w) zS0c 3) H := by
  have e1 : zeD b w (zsg 3) = .inl (w.2.1 2, 3, .inr (.inr (.inr (.inr (va_up (va_up (va_up (fun _ => none) (Int32.toNatClampNeg (0 : Int32)) (some (b + 53))) (Int32.toNatClampNeg (1 : Int32)) (some (b + 58))) (Int32.toNatClampNeg (2 : Int32)) (some (b + 63))))))) := rfl
  have e2 : zce LC (zwc b w) zS0c 3 = .inl (w.2.1 2, 3, .inr (.inr (.inr (.inr fun i => some ((zwc b w).2.2.1 (rfC 3 i)))))) := rfl
  rw [e1] at h
  rw [e2]
  refine zq_cg (fun j hj => ?_) h
  match j, hj with
  | 0, _ => rfl
  | 1, _ => rfl
  | 2, _ => rfl
set_option maxRecDepth 100000 in
theorem zfc_all (b : Nat) (w : zWd) {H : Heap} (hP : va_P w.1 zcl (zEs b 83 (zeD b w)) H) : va_P (zwc b w).1 zcl (zcs LC (zwc b w) zS0c) H := by
  have key : ∀ c, c < 68 → zsg c < 83 := by decide +kernel
  intro k q hq
  obtain ⟨hk, rfl⟩ := zcs_of hq
  have h := hP (zsg k) _ (zEs_at (key k hk))
  match k, hk, h with
  | 0, _, h => rw [zfc_0] at h; exact h
  | 1, _, h => exact zfr_1 b w h
  | 2, _, h => exact zfr_2 b w h
  | 3, _, h => exact zfr_3 b w h
  | 4, _, h => rw [zfc_4] at h; exact h
  | 5, _, h => rw [zfc_5] at h; exact h
  | 6, _, h => rw [zfc_6] at h; exact h
  | 7, _, h => rw [zfc_7] at h; exact h
  | 8, _, h => rw [zfc_8] at h; exact h
  | 9, _, h => rw [zfc_9] at h; exact h
  | 10, _, h => rw [zfc_10] at h; exact h
  | 11, _, h => rw [zfc_11] at h; exact h
  | 12, _, h => rw [zfc_12] at h; exact h
  | 13, _, h => rw [zfc_13] at h; exact h
  | 14, _, h => rw [zfc_14] at h; exact h
  | 15, _, h => rw [zfc_15] at h; exact h
  | 16, _, h => rw [zfc_16] at h; exact h
  | 17, _, h => rw [zfc_17] at h; exact h
  | 18, _, h => rw [zfc_18] at h; exact h
  | 19, _, h => rw [zfc_19] at h; exact h
  | 20, _, h => rw [zfc_20] at h; exact h
  | 21, _, h => rw [zfc_21] at h; exact h
  | 22, _, h => rw [zfc_22] at h; exact h
  | 23, _, h => rw [zfc_23] at h; exact h
  | 24, _, h => rw [zfc_24] at h; exact h
  | 25, _, h => rw [zfc_25] at h; exact h
  | 26, _, h => rw [zfc_26] at h; exact h
  | 27, _, h => rw [zfc_27] at h; exact h
  | 28, _, h => rw [zfc_28] at h; exact h
  | 29, _, h => rw [zfc_29] at h; exact h
  | 30, _, h => rw [zfc_30] at h; exact h
  | 31, _, h => rw [zfc_31] at h; exact h
  | 32, _, h => rw [zfc_32] at h; exact h
  | 33, _, h => rw [zfc_33] at h; exact h
  | 34, _, h => rw [zfc_34] at h; exact h
  | 35, _, h => rw [zfc_35] at h; exact h
  | 36, _, h => rw [zfc_36] at h; exact h
  | 37, _, h => rw [zfc_37] at h; exact h
  | 38, _, h => rw [zfc_38] at h; exact h
  | 39, _, h => rw [zfc_39] at h; exact h
  | 40, _, h => rw [zfc_40] at h; exact h
  | 41, _, h => rw [zfc_41] at h; exact h
  | 42, _, h => rw [zfc_42] at h; exact h
  | 43, _, h => rw [zfc_43] at h; exact h
  | 44, _, h => rw [zfc_44] at h; exact h
  | 45, _, h => rw [zfc_45] at h; exact h
  | 46, _, h => rw [zfc_46] at h; exact h
  | 47, _, h => rw [zfc_47] at h; exact h
  | 48, _, h => rw [zfc_48] at h; exact h
  | 49, _, h => rw [zfc_49] at h; exact h
  | 50, _, h => rw [zfc_50] at h; exact h
  | 51, _, h => rw [zfc_51] at h; exact h
  | 52, _, h => rw [zfc_52] at h; exact h
  | 53, _, h => rw [zfc_53] at h; exact h
  | 54, _, h => rw [zfc_54] at h; exact h
  | 55, _, h => rw [zfc_55] at h; exact h
  | 56, _, h => rw [zfc_56] at h; exact h
  | 57, _, h => rw [zfc_57] at h; exact h
  | 58, _, h => rw [zfc_58] at h; exact h
  | 59, _, h => rw [zfc_59] at h; exact h
  | 60, _, h => rw [zfc_60] at h; exact h
  | 61, _, h => rw [zfc_61] at h; exact h
  | 62, _, h => rw [zfc_62] at h; exact h
  | 63, _, h => rw [zfc_63] at h; exact h
  | 64, _, h => rw [zfc_64] at h; exact h
  | 65, _, h => rw [zfc_65] at h; exact h
  | 66, _, h => rw [zfc_66] at h; exact h
  | 67, _, h => rw [zfc_67] at h; exact h
theorem zfm_all (b : Nat) (w : zWd) {H : Heap} (hP : va_P w.1 zcl (zEs b 83 (zeD b w)) H) : va_P (zwm b w).1 zcl (zcs LM (zwm b w) zS0m) H := by
  intro k q hq
  obtain ⟨hk, rfl⟩ := zcs_of hq
  have hk2 : k < 15 := hk
  have h := hP (68 + k) _ (zEs_at (by omega))
  match k, hk2, h with
  | 0, _, h => rw [zfm_0] at h; exact h
  | 1, _, h => rw [zfm_1] at h; exact h
  | 2, _, h => rw [zfm_2] at h; exact h
  | 3, _, h => rw [zfm_3] at h; exact h
  | 4, _, h => rw [zfm_4] at h; exact h
  | 5, _, h => rw [zfm_5] at h; exact h
  | 6, _, h => rw [zfm_6] at h; exact h
  | 7, _, h => rw [zfm_7] at h; exact h
  | 8, _, h => rw [zfm_8] at h; exact h
  | 9, _, h => rw [zfm_9] at h; exact h
  | 10, _, h => rw [zfm_10] at h; exact h
  | 11, _, h => rw [zfm_11] at h; exact h
  | 12, _, h => rw [zfm_12] at h; exact h
  | 13, _, h => rw [zfm_13] at h; exact h
  | 14, _, h => rw [zfm_14] at h; exact h
theorem zwc_inj (b : Nat) (w : zWd) : zinj LC (zwc b w) := by
  intro x y hx hy h
  have h2 : b + zsg x = b + zsg y := h
  exact (by decide +kernel : ∀ x, x < 68 → ∀ y, y < 68 → zsg x = zsg y → x = y) x hx y hy (by omega)
theorem zwm_inj (b : Nat) (w : zWd) : zinj LM (zwm b w) := by
  intro x y hx hy h
  have h2 : b + (68 + x) = b + (68 + y) := h
  omega
theorem zwc_dis (b : Nat) (w : zWd) {q : Nat} (h : zA LC (zwc b w) q) : b ≤ q ∧ ¬ zA LM (zwm b w) q := by
  obtain ⟨x, hx, rfl⟩ := h
  have h1 : zsg x < 68 := (by decide +kernel : ∀ x, x < 68 → zsg x < 68) x hx
  refine ⟨Nat.le_add_right _ _, ?_⟩
  rintro ⟨y, hy, e⟩
  have e2 : b + zsg x = b + (68 + y) := e
  omega
theorem zwm_dis (b : Nat) (w : zWd) {q : Nat} (h : zA LM (zwm b w) q) : b ≤ q ∧ ¬ zA LC (zwc b w) q := by
  obtain ⟨y, hy, rfl⟩ := h
  refine ⟨Nat.le_add_right _ _, ?_⟩
  rintro ⟨x, hx, e⟩
  have h1 : zsg x < 68 := (by decide +kernel : ∀ x, x < 68 → zsg x < 68) x hx
  have e2 : b + (68 + y) = b + zsg x := e
  omega
/-- what is asked of the two: every call agrees, and they begin alike -/
def zAgree (Inv : zMem → zMem → Prop) : Prop :=
  Inv zS0c zS0m ∧
  (∀ a b2 : Int32, zIi Inv (f_X8_row a b2) (f_X9_row a b2)) ∧
  (∀ a b2 c3 : Int32, zIi Inv (f_X8_lay a b2 c3) (f_X9_lay a b2 c3)) ∧
  (∀ a b2 : Int32, zIi Inv (f_X8_at a b2) (f_X9_at a b2)) ∧
  (∀ a : Int32, zIi Inv (f_X8_tear a) (f_X9_tear a)) ∧
  (∀ a b2 c3 d4 e5 : Int32, zIi Inv (f_X8_copy a b2 c3 d4 e5) (f_X9_copy a b2 c3 d4 e5)) ∧
  (∀ a : Int32, zIi Inv (f_X8_mean a) (f_X9_mean a)) ∧
  (∀ a b2 : Int32, zIi Inv (f_X8_text a b2) (f_X9_text a b2)) ∧
  (∀ a b2 c3 : Int32, zIi Inv (f_X8_put a b2 c3) (f_X9_put a b2 c3)) ∧
  (∀ a : Int32, zIi Inv (f_X8_fault a) (f_X9_fault a)) ∧
  (∀ a : Int32, zIi Inv (f_X8_post a) (f_X9_post a)) ∧
  (∀ a b2 : Int32, zIi Inv (f_X8_house a b2) (f_X9_house a b2)) ∧
  (∀ a b2 : Int32, zIi Inv (f_X8_letter a b2) (f_X9_letter a b2)) ∧
  (∀ a b2 : Int32, zIi Inv (f_X8_mark a b2) (f_X9_mark a b2)) ∧
  (∀ a : Int32, zIi Inv (f_X8_carry a) (f_X9_carry a)) ∧
  (∀ a : Int32, zIi Inv (f_X8_bribe a) (f_X9_bribe a)) ∧
  (∀ a : Int32, zIi Inv (f_X8_weather a) (f_X9_weather a)) ∧
  (zIi Inv (f_X8_day) (f_X9_day)) ∧
  (∀ a : Int32, zIi Inv (f_X8_undo a) (f_X9_undo a)) ∧
  (∀ a : Int32, zIi Inv (f_X8_keep a) (f_X9_keep a)) ∧
  (∀ a : Int32, zIi Inv (f_X8_on a) (f_X9_on a)) ∧
  (∀ a b2 c3 : Int32, zIi Inv (f_X8_ends a b2 c3) (f_X9_ends a b2 c3)) ∧
  (∀ a : Int32, zIi Inv (f_X8_bond a) (f_X9_bond a)) ∧
  (∀ a b2 : Int32, zIi Inv (f_X8_least a b2) (f_X9_least a b2)) ∧
  (∀ a b2 : Int32, zIi Inv (f_X8_round a b2) (f_X9_round a b2)) ∧
  (∀ a b2 c3 : Int32, zIi Inv (f_X8_plan a b2 c3) (f_X9_plan a b2 c3)) ∧
  (∀ a b2 c3 : Int32, zIi Inv (f_X8_rest a b2 c3) (f_X9_rest a b2 c3)) ∧
  (∀ a b2 : Int32, zIi Inv (f_X8_meant a b2) (f_X9_meant a b2)) ∧
  (∀ a b2 : Int32, zIi Inv (f_X8_kinds a b2) (f_X9_kinds a b2)) ∧
  (∀ a b2 : Int32, zIi Inv (f_X8_test a b2) (f_X9_test a b2)) ∧
  (∀ a : Int32, zIi Inv (f_X8_sets a) (f_X9_sets a)) ∧
  (∀ a : Int32, zIi Inv (f_X8_sure a) (f_X9_sure a)) ∧
  (∀ a : Int32, zIi Inv (f_X8_duel a) (f_X9_duel a)) ∧
  (∀ a b2 c3 : Int32, zIi Inv (f_X8_odds a b2 c3) (f_X9_odds a b2 c3)) ∧
  (∀ a b2 : Int32, zIi Inv (f_X8_mid a b2) (f_X9_mid a b2)) ∧
  (∀ a b2 : Int32, zIi Inv (f_X8_lots a b2) (f_X9_lots a b2)) ∧
  (zIi Inv (f_X8_asked) (f_X9_asked)) ∧
  (zIl Inv (f_X8_upper) (f_X9_upper)) ∧
  (zIl Inv (f_X8_lower) (f_X9_lower)) ∧
  (∀ a : Int32, zIi Inv (f_X8_count a) (f_X9_count a)) ∧
  (zIi Inv (f_X8_finding) (f_X9_finding)) ∧
  (∀ a : Int32, zIi Inv (f_X8_findings a) (f_X9_findings a)) ∧
  (zIl Inv (f_X8_digest) (f_X9_digest))
theorem law_gt {i L : Nat} (hi : i ≤ 390) (hL : L ≤ 384) (h : L < i + 6) : nI L - nI 6 < nI i := by
  have e1 : (nI L - nI 6).toInt = (L : Int) - 6 := pk_sub_toInt (by omega) (by omega)
  have e2 : (nI i).toInt = (i : Int) := nI_toInt (by omega)
  rw [Int32.lt_iff_toInt_lt, e1, e2]
  omega
theorem law_end {wc wm : zWd} {p : Program} {l : Launch} {e : Env} {s : State} {m : MethodId} {below : List Frame} {meth : Method} {c : Code} {bs : Nat} {l0 : Launch} {L : Nat} {xs : Nat → Int32} (C : zLK wc wm (p, l, e, s, m, below, meth, c, bs) l0 L xs) {H : Heap} {locs : List Loc} {ls : Array Slot} (hS : va_S (fun q => s.heap.size ≤ q) s.heap H locs) : W p l e room_1 s m #[Value.ref bs] below meth c H locs 83 4558 (lw_Z below #[Value.ref bs] s) (F0 m 1421 ls []) := by
  obtain ⟨⟨-, hx, hb, hml, hown, hts⟩, -, -, -, -, -, hlk, hr⟩ := C
  refine lv_iconst (v := 1) hx hb dL_law_1421 (by decide) ?_
  refine va_forget (fun q hq => hS.2.2 q hq) ?_
  refine W.widen (k := 600000) (n := 7302250) (Nat.le_of_ble_eq_true rfl) (Nat.le_of_ble_eq_true rfl) ?_
  exact lw_ret hx hb hr hlk dL_law_1422
set_option maxRecDepth 100000 in
set_option maxHeartbeats 4000000 in
theorem law_loop {wc wm : zWd} {p : Program} {l : Launch} {e : Env} {s : State} {m : MethodId} {below : List Frame} {meth : Method} {c : Code} {bs : Nat} {l0 : Launch} {L : Nat} {xs : Nat → Int32} {Inv : zMem → zMem → Prop} (C : zLK wc wm (p, l, e, s, m, below, meth, c, bs) l0 L xs) (hA : zAgree Inv) : ∀ (n i : Nat) (Sc Sm : zMem) (ls : Array Slot), L < i + 6 * n → i ≤ 390 → Inv Sc Sm → lv_has ls 4 [(0, .ref bs), (1, .ref (wc.2.2.1 0)), (2, .ref (wm.2.2.1 0)), (3, .int (nI i))] → zL wc wm (p, l, e, s, m, below, meth, c, bs) Sc Sm 18 ls [] := by
  obtain ⟨⟨-, hx, hb, hml, hown, hts⟩, ⟨hX, hbl, hL⟩, -, -, -, -, hlk, hr⟩ := id C
  intro n
  induction n with
  | zero =>
    intro i Sc Sm ls h1 h2 hI hl H locs hP hQ hS
    refine lv_iload_n hx hb dL_law_18 rfl (lv_at hl 3 rfl) ?_
    refine lv_aload_n hx hb dL_law_19 rfl (lv_at hl 0 rfl) ?_
    refine va_slen hx hb hX hbl (Nat.not_le.mpr hbl) hS dL_law_20 ?_
    refine lv_bipush (v := nI 6) hx hb dL_law_21 (by decide) ?_
    refine lv_isub hx hb dL_law_23 ?_
    refine lv_icmp_gt (tgt := 1421) hx hb dL_law_24 (by decide) (fun _ => ?_) (fun q => ?_)
    · exact law_end C hS
    · exact absurd (law_gt (by omega) (by omega) (by omega)) q
  | succ n ih =>
    intro i Sc Sm ls h1 h2 hI hl H locs hP hQ hS
    refine lv_iload_n hx hb dL_law_18 rfl (lv_at hl 3 rfl) ?_
    refine lv_aload_n hx hb dL_law_19 rfl (lv_at hl 0 rfl) ?_
    refine va_slen hx hb hX hbl (Nat.not_le.mpr hbl) hS dL_law_20 ?_
    refine lv_bipush (v := nI 6) hx hb dL_law_21 (by decide) ?_
    refine lv_isub hx hb dL_law_23 ?_
    refine lv_icmp_gt (tgt := 1421) hx hb dL_law_24 (by decide) (fun _ => ?_) (fun q => ?_)
    · exact law_end C hS
    · have hij : i + 6 ≤ L := by
        rcases Nat.lt_or_ge L (i + 6) with z | z
        · exact absurd (law_gt (by omega) (by omega) z) q
        · exact z
      refine lv_aload_n hx hb dL_law_27 rfl (lv_at hl 0 rfl) ?_
      refine lv_iload_n hx hb dL_law_28 rfl (lv_at hl 3 rfl) ?_
      refine va_sld hx hb hX hbl (A := fun q => s.heap.size ≤ q) (Nat.not_le.mpr hbl) hS (vp_in_nI (by omega) (by omega)) dL_law_29 ?_
      refine lv_bipush (v := 63) hx hb dL_law_30 (by decide) ?_
      refine lv_iand hx hb dL_law_32 ?_
      refine lv_topi (fun v _ => ?_)
      have kk : ∀ Sc Sm, Inv Sc Sm → zL wc wm (p, l, e, s, m, below, meth, c, bs) Sc Sm 1415 ls [] := by
        intro Sc Sm hI H locs hP hQ hS
        refine lv_iinc (v := nI (i + 6)) (lv' := [(3, .int (nI (i + 6))), (0, .ref bs), (1, .ref (wc.2.2.1 0)), (2, .ref (wm.2.2.1 0))]) hx hb dL_law_1415 hl (k := 3) rfl (by rw [← nI_add]; rfl) (by decide) rfl (fun ls hl => ?_)
        refine lv_goto (tgt := 18) hx hb dL_law_1418 (by decide) ?_
        exact ih (i + 6) Sc Sm ls (by omega) (by omega) hI (lv_sub hl [1, 2, 3, 0] rfl) H locs hP hQ hS
      by_cases h0 : v = 0
      · refine lv_tableIn (tgt := 216) (off := 183) hx hb dL_law_33 (by rw [h0]; decide) (by rw [h0]; decide) (by rw [h0]; rfl) (by decide) ?_
        exact case_0 C rfl hl hij hI (hA.2.1) kk H locs hP hQ hS
      by_cases h1 : v = 1
      · refine lv_tableIn (tgt := 249) (off := 216) hx hb dL_law_33 (by rw [h1]; decide) (by rw [h1]; decide) (by rw [h1]; rfl) (by decide) ?_
        exact case_1 C rfl hl hij hI (hA.2.2.1) kk H locs hP hQ hS
      by_cases h2 : v = 2
      · refine lv_tableIn (tgt := 292) (off := 259) hx hb dL_law_33 (by rw [h2]; decide) (by rw [h2]; decide) (by rw [h2]; rfl) (by decide) ?_
        exact case_2 C rfl hl hij hI (hA.2.2.2.1) kk H locs hP hQ hS
      by_cases h3 : v = 3
      · refine lv_tableIn (tgt := 325) (off := 292) hx hb dL_law_33 (by rw [h3]; decide) (by rw [h3]; decide) (by rw [h3]; rfl) (by decide) ?_
        exact case_3 C rfl hl hij hI (hA.2.2.2.2.1) kk H locs hP hQ hS
      by_cases h4 : v = 4
      · refine lv_tableIn (tgt := 348) (off := 315) hx hb dL_law_33 (by rw [h4]; decide) (by rw [h4]; decide) (by rw [h4]; rfl) (by decide) ?_
        exact case_4 C rfl hl hij hI (hA.2.2.2.2.2.1) kk H locs hP hQ hS
      by_cases h5 : v = 5
      · refine lv_tableIn (tgt := 411) (off := 378) hx hb dL_law_33 (by rw [h5]; decide) (by rw [h5]; decide) (by rw [h5]; rfl) (by decide) ?_
        exact case_5 C rfl hl hij hI (hA.2.2.2.2.2.2.1) kk H locs hP hQ hS
      by_cases h6 : v = 6
      · refine lv_tableIn (tgt := 434) (off := 401) hx hb dL_law_33 (by rw [h6]; decide) (by rw [h6]; decide) (by rw [h6]; rfl) (by decide) ?_
        exact case_6 C rfl hl hij hI (hA.2.2.2.2.2.2.2.1) kk H locs hP hQ hS
      by_cases h7 : v = 7
      · refine lv_tableIn (tgt := 467) (off := 434) hx hb dL_law_33 (by rw [h7]; decide) (by rw [h7]; decide) (by rw [h7]; rfl) (by decide) ?_
        exact case_7 C rfl hl hij hI (hA.2.2.2.2.2.2.2.2.1) kk H locs hP hQ hS
      by_cases h8 : v = 8
      · refine lv_tableIn (tgt := 510) (off := 477) hx hb dL_law_33 (by rw [h8]; decide) (by rw [h8]; decide) (by rw [h8]; rfl) (by decide) ?_
        exact case_8 C rfl hl hij hI (hA.2.2.2.2.2.2.2.2.2.1) kk H locs hP hQ hS
      by_cases h9 : v = 9
      · refine lv_tableIn (tgt := 533) (off := 500) hx hb dL_law_33 (by rw [h9]; decide) (by rw [h9]; decide) (by rw [h9]; rfl) (by decide) ?_
        exact case_9 C rfl hl hij hI (hA.2.2.2.2.2.2.2.2.2.2.1) kk H locs hP hQ hS
      by_cases h10 : v = 10
      · refine lv_tableIn (tgt := 556) (off := 523) hx hb dL_law_33 (by rw [h10]; decide) (by rw [h10]; decide) (by rw [h10]; rfl) (by decide) ?_
        exact case_10 C rfl hl hij hI (hA.2.2.2.2.2.2.2.2.2.2.2.1) kk H locs hP hQ hS
      by_cases h11 : v = 11
      · refine lv_tableIn (tgt := 589) (off := 556) hx hb dL_law_33 (by rw [h11]; decide) (by rw [h11]; decide) (by rw [h11]; rfl) (by decide) ?_
        exact case_11 C rfl hl hij hI (hA.2.2.2.2.2.2.2.2.2.2.2.2.1) kk H locs hP hQ hS
      by_cases h12 : v = 12
      · refine lv_tableIn (tgt := 622) (off := 589) hx hb dL_law_33 (by rw [h12]; decide) (by rw [h12]; decide) (by rw [h12]; rfl) (by decide) ?_
        exact case_12 C rfl hl hij hI (hA.2.2.2.2.2.2.2.2.2.2.2.2.2.1) kk H locs hP hQ hS
      by_cases h13 : v = 13
      · refine lv_tableIn (tgt := 655) (off := 622) hx hb dL_law_33 (by rw [h13]; decide) (by rw [h13]; decide) (by rw [h13]; rfl) (by decide) ?_
        exact case_13 C rfl hl hij hI (hA.2.2.2.2.2.2.2.2.2.2.2.2.2.2.1) kk H locs hP hQ hS
      by_cases h14 : v = 14
      · refine lv_tableIn (tgt := 678) (off := 645) hx hb dL_law_33 (by rw [h14]; decide) (by rw [h14]; decide) (by rw [h14]; rfl) (by decide) ?_
        exact case_14 C rfl hl hij hI (hA.2.2.2.2.2.2.2.2.2.2.2.2.2.2.2.1) kk H locs hP hQ hS
      by_cases h15 : v = 15
      · refine lv_tableIn (tgt := 701) (off := 668) hx hb dL_law_33 (by rw [h15]; decide) (by rw [h15]; decide) (by rw [h15]; rfl) (by decide) ?_
        exact case_15 C rfl hl hij hI (hA.2.2.2.2.2.2.2.2.2.2.2.2.2.2.2.2.1) kk H locs hP hQ hS
      by_cases h16 : v = 16
      · refine lv_tableIn (tgt := 724) (off := 691) hx hb dL_law_33 (by rw [h16]; decide) (by rw [h16]; decide) (by rw [h16]; rfl) (by decide) ?_
        exact case_16 C rfl hl hij hI (hA.2.2.2.2.2.2.2.2.2.2.2.2.2.2.2.2.2.1) kk H locs hP hQ hS
      by_cases h17 : v = 17
      · refine lv_tableIn (tgt := 737) (off := 704) hx hb dL_law_33 (by rw [h17]; decide) (by rw [h17]; decide) (by rw [h17]; rfl) (by decide) ?_
        exact case_17 C rfl hl hij hI (hA.2.2.2.2.2.2.2.2.2.2.2.2.2.2.2.2.2.2.1) kk H locs hP hQ hS
      by_cases h18 : v = 18
      · refine lv_tableIn (tgt := 760) (off := 727) hx hb dL_law_33 (by rw [h18]; decide) (by rw [h18]; decide) (by rw [h18]; rfl) (by decide) ?_
        exact case_18 C rfl hl hij hI (hA.2.2.2.2.2.2.2.2.2.2.2.2.2.2.2.2.2.2.2.1) kk H locs hP hQ hS
      by_cases h19 : v = 19
      · refine lv_tableIn (tgt := 783) (off := 750) hx hb dL_law_33 (by rw [h19]; decide) (by rw [h19]; decide) (by rw [h19]; rfl) (by decide) ?_
        exact case_19 C rfl hl hij hI (hA.2.2.2.2.2.2.2.2.2.2.2.2.2.2.2.2.2.2.2.2.1) kk H locs hP hQ hS
      by_cases h20 : v = 20
      · refine lv_tableIn (tgt := 806) (off := 773) hx hb dL_law_33 (by rw [h20]; decide) (by rw [h20]; decide) (by rw [h20]; rfl) (by decide) ?_
        exact case_20 C rfl hl hij hI (hA.2.2.2.2.2.2.2.2.2.2.2.2.2.2.2.2.2.2.2.2.2.1) kk H locs hP hQ hS
      by_cases h21 : v = 21
      · refine lv_tableIn (tgt := 849) (off := 816) hx hb dL_law_33 (by rw [h21]; decide) (by rw [h21]; decide) (by rw [h21]; rfl) (by decide) ?_
        exact case_21 C rfl hl hij hI (hA.2.2.2.2.2.2.2.2.2.2.2.2.2.2.2.2.2.2.2.2.2.2.1) kk H locs hP hQ hS
      by_cases h22 : v = 22
      · refine lv_tableIn (tgt := 872) (off := 839) hx hb dL_law_33 (by rw [h22]; decide) (by rw [h22]; decide) (by rw [h22]; rfl) (by decide) ?_
        exact case_22 C rfl hl hij hI (hA.2.2.2.2.2.2.2.2.2.2.2.2.2.2.2.2.2.2.2.2.2.2.2.1) kk H locs hP hQ hS
      by_cases h23 : v = 23
      · refine lv_tableIn (tgt := 905) (off := 872) hx hb dL_law_33 (by rw [h23]; decide) (by rw [h23]; decide) (by rw [h23]; rfl) (by decide) ?_
        exact case_23 C rfl hl hij hI (hA.2.2.2.2.2.2.2.2.2.2.2.2.2.2.2.2.2.2.2.2.2.2.2.2.1) kk H locs hP hQ hS
      by_cases h24 : v = 24
      · refine lv_tableIn (tgt := 938) (off := 905) hx hb dL_law_33 (by rw [h24]; decide) (by rw [h24]; decide) (by rw [h24]; rfl) (by decide) ?_
        exact case_24 C rfl hl hij hI (hA.2.2.2.2.2.2.2.2.2.2.2.2.2.2.2.2.2.2.2.2.2.2.2.2.2.1) kk H locs hP hQ hS
      by_cases h25 : v = 25
      · refine lv_tableIn (tgt := 981) (off := 948) hx hb dL_law_33 (by rw [h25]; decide) (by rw [h25]; decide) (by rw [h25]; rfl) (by decide) ?_
        exact case_25 C rfl hl hij hI (hA.2.2.2.2.2.2.2.2.2.2.2.2.2.2.2.2.2.2.2.2.2.2.2.2.2.2.1) kk H locs hP hQ hS
      by_cases h26 : v = 26
      · refine lv_tableIn (tgt := 1024) (off := 991) hx hb dL_law_33 (by rw [h26]; decide) (by rw [h26]; decide) (by rw [h26]; rfl) (by decide) ?_
        exact case_26 C rfl hl hij hI (hA.2.2.2.2.2.2.2.2.2.2.2.2.2.2.2.2.2.2.2.2.2.2.2.2.2.2.2.1) kk H locs hP hQ hS
      by_cases h27 : v = 27
      · refine lv_tableIn (tgt := 1057) (off := 1024) hx hb dL_law_33 (by rw [h27]; decide) (by rw [h27]; decide) (by rw [h27]; rfl) (by decide) ?_
        exact case_27 C rfl hl hij hI (hA.2.2.2.2.2.2.2.2.2.2.2.2.2.2.2.2.2.2.2.2.2.2.2.2.2.2.2.2.1) kk H locs hP hQ hS
      by_cases h28 : v = 28
      · refine lv_tableIn (tgt := 1090) (off := 1057) hx hb dL_law_33 (by rw [h28]; decide) (by rw [h28]; decide) (by rw [h28]; rfl) (by decide) ?_
        exact case_28 C rfl hl hij hI (hA.2.2.2.2.2.2.2.2.2.2.2.2.2.2.2.2.2.2.2.2.2.2.2.2.2.2.2.2.2.1) kk H locs hP hQ hS
      by_cases h29 : v = 29
      · refine lv_tableIn (tgt := 1123) (off := 1090) hx hb dL_law_33 (by rw [h29]; decide) (by rw [h29]; decide) (by rw [h29]; rfl) (by decide) ?_
        exact case_29 C rfl hl hij hI (hA.2.2.2.2.2.2.2.2.2.2.2.2.2.2.2.2.2.2.2.2.2.2.2.2.2.2.2.2.2.2.1) kk H locs hP hQ hS
      by_cases h30 : v = 30
      · refine lv_tableIn (tgt := 1146) (off := 1113) hx hb dL_law_33 (by rw [h30]; decide) (by rw [h30]; decide) (by rw [h30]; rfl) (by decide) ?_
        exact case_30 C rfl hl hij hI (hA.2.2.2.2.2.2.2.2.2.2.2.2.2.2.2.2.2.2.2.2.2.2.2.2.2.2.2.2.2.2.2.1) kk H locs hP hQ hS
      by_cases h31 : v = 31
      · refine lv_tableIn (tgt := 1169) (off := 1136) hx hb dL_law_33 (by rw [h31]; decide) (by rw [h31]; decide) (by rw [h31]; rfl) (by decide) ?_
        exact case_31 C rfl hl hij hI (hA.2.2.2.2.2.2.2.2.2.2.2.2.2.2.2.2.2.2.2.2.2.2.2.2.2.2.2.2.2.2.2.2.1) kk H locs hP hQ hS
      by_cases h32 : v = 32
      · refine lv_tableIn (tgt := 1192) (off := 1159) hx hb dL_law_33 (by rw [h32]; decide) (by rw [h32]; decide) (by rw [h32]; rfl) (by decide) ?_
        exact case_32 C rfl hl hij hI (hA.2.2.2.2.2.2.2.2.2.2.2.2.2.2.2.2.2.2.2.2.2.2.2.2.2.2.2.2.2.2.2.2.2.1) kk H locs hP hQ hS
      by_cases h33 : v = 33
      · refine lv_tableIn (tgt := 1235) (off := 1202) hx hb dL_law_33 (by rw [h33]; decide) (by rw [h33]; decide) (by rw [h33]; rfl) (by decide) ?_
        exact case_33 C rfl hl hij hI (hA.2.2.2.2.2.2.2.2.2.2.2.2.2.2.2.2.2.2.2.2.2.2.2.2.2.2.2.2.2.2.2.2.2.2.1) kk H locs hP hQ hS
      by_cases h34 : v = 34
      · refine lv_tableIn (tgt := 1268) (off := 1235) hx hb dL_law_33 (by rw [h34]; decide) (by rw [h34]; decide) (by rw [h34]; rfl) (by decide) ?_
        exact case_34 C rfl hl hij hI (hA.2.2.2.2.2.2.2.2.2.2.2.2.2.2.2.2.2.2.2.2.2.2.2.2.2.2.2.2.2.2.2.2.2.2.2.1) kk H locs hP hQ hS
      by_cases h35 : v = 35
      · refine lv_tableIn (tgt := 1301) (off := 1268) hx hb dL_law_33 (by rw [h35]; decide) (by rw [h35]; decide) (by rw [h35]; rfl) (by decide) ?_
        exact case_35 C rfl hl hij hI (hA.2.2.2.2.2.2.2.2.2.2.2.2.2.2.2.2.2.2.2.2.2.2.2.2.2.2.2.2.2.2.2.2.2.2.2.2.1) kk H locs hP hQ hS
      by_cases h36 : v = 36
      · refine lv_tableIn (tgt := 1314) (off := 1281) hx hb dL_law_33 (by rw [h36]; decide) (by rw [h36]; decide) (by rw [h36]; rfl) (by decide) ?_
        exact case_36 C rfl hl hij hI (hA.2.2.2.2.2.2.2.2.2.2.2.2.2.2.2.2.2.2.2.2.2.2.2.2.2.2.2.2.2.2.2.2.2.2.2.2.2.1) kk H locs hP hQ hS
      by_cases h37 : v = 37
      · refine lv_tableIn (tgt := 1328) (off := 1295) hx hb dL_law_33 (by rw [h37]; decide) (by rw [h37]; decide) (by rw [h37]; rfl) (by decide) ?_
        exact case_37 C rfl hl hij hI (hA.2.2.2.2.2.2.2.2.2.2.2.2.2.2.2.2.2.2.2.2.2.2.2.2.2.2.2.2.2.2.2.2.2.2.2.2.2.2.1) kk H locs hP hQ hS
      by_cases h38 : v = 38
      · refine lv_tableIn (tgt := 1342) (off := 1309) hx hb dL_law_33 (by rw [h38]; decide) (by rw [h38]; decide) (by rw [h38]; rfl) (by decide) ?_
        exact case_38 C rfl hl hij hI (hA.2.2.2.2.2.2.2.2.2.2.2.2.2.2.2.2.2.2.2.2.2.2.2.2.2.2.2.2.2.2.2.2.2.2.2.2.2.2.2.1) kk H locs hP hQ hS
      by_cases h39 : v = 39
      · refine lv_tableIn (tgt := 1365) (off := 1332) hx hb dL_law_33 (by rw [h39]; decide) (by rw [h39]; decide) (by rw [h39]; rfl) (by decide) ?_
        exact case_39 C rfl hl hij hI (hA.2.2.2.2.2.2.2.2.2.2.2.2.2.2.2.2.2.2.2.2.2.2.2.2.2.2.2.2.2.2.2.2.2.2.2.2.2.2.2.2.1) kk H locs hP hQ hS
      by_cases h40 : v = 40
      · refine lv_tableIn (tgt := 1378) (off := 1345) hx hb dL_law_33 (by rw [h40]; decide) (by rw [h40]; decide) (by rw [h40]; rfl) (by decide) ?_
        exact case_40 C rfl hl hij hI (hA.2.2.2.2.2.2.2.2.2.2.2.2.2.2.2.2.2.2.2.2.2.2.2.2.2.2.2.2.2.2.2.2.2.2.2.2.2.2.2.2.2.1) kk H locs hP hQ hS
      by_cases h41 : v = 41
      · refine lv_tableIn (tgt := 1401) (off := 1368) hx hb dL_law_33 (by rw [h41]; decide) (by rw [h41]; decide) (by rw [h41]; rfl) (by decide) ?_
        exact case_41 C rfl hl hij hI (hA.2.2.2.2.2.2.2.2.2.2.2.2.2.2.2.2.2.2.2.2.2.2.2.2.2.2.2.2.2.2.2.2.2.2.2.2.2.2.2.2.2.2) kk H locs hP hQ hS
      refine lv_tableOut (tgt := 1415) hx hb dL_law_33 (by
        have z0 := zne h0 (show ((0 : Int32)).toInt = 0 by decide)
        have z1 := zne h1 (show ((1 : Int32)).toInt = 1 by decide)
        have z2 := zne h2 (show ((2 : Int32)).toInt = 2 by decide)
        have z3 := zne h3 (show ((3 : Int32)).toInt = 3 by decide)
        have z4 := zne h4 (show ((4 : Int32)).toInt = 4 by decide)
        have z5 := zne h5 (show ((5 : Int32)).toInt = 5 by decide)
        have z6 := zne h6 (show ((6 : Int32)).toInt = 6 by decide)
        have z7 := zne h7 (show ((7 : Int32)).toInt = 7 by decide)
        have z8 := zne h8 (show ((8 : Int32)).toInt = 8 by decide)
        have z9 := zne h9 (show ((9 : Int32)).toInt = 9 by decide)
        have z10 := zne h10 (show ((10 : Int32)).toInt = 10 by decide)
        have z11 := zne h11 (show ((11 : Int32)).toInt = 11 by decide)
        have z12 := zne h12 (show ((12 : Int32)).toInt = 12 by decide)
        have z13 := zne h13 (show ((13 : Int32)).toInt = 13 by decide)
        have z14 := zne h14 (show ((14 : Int32)).toInt = 14 by decide)
        have z15 := zne h15 (show ((15 : Int32)).toInt = 15 by decide)
        have z16 := zne h16 (show ((16 : Int32)).toInt = 16 by decide)
        have z17 := zne h17 (show ((17 : Int32)).toInt = 17 by decide)
        have z18 := zne h18 (show ((18 : Int32)).toInt = 18 by decide)
        have z19 := zne h19 (show ((19 : Int32)).toInt = 19 by decide)
        have z20 := zne h20 (show ((20 : Int32)).toInt = 20 by decide)
        have z21 := zne h21 (show ((21 : Int32)).toInt = 21 by decide)
        have z22 := zne h22 (show ((22 : Int32)).toInt = 22 by decide)
        have z23 := zne h23 (show ((23 : Int32)).toInt = 23 by decide)
        have z24 := zne h24 (show ((24 : Int32)).toInt = 24 by decide)
        have z25 := zne h25 (show ((25 : Int32)).toInt = 25 by decide)
        have z26 := zne h26 (show ((26 : Int32)).toInt = 26 by decide)
        have z27 := zne h27 (show ((27 : Int32)).toInt = 27 by decide)
        have z28 := zne h28 (show ((28 : Int32)).toInt = 28 by decide)
        have z29 := zne h29 (show ((29 : Int32)).toInt = 29 by decide)
        have z30 := zne h30 (show ((30 : Int32)).toInt = 30 by decide)
        have z31 := zne h31 (show ((31 : Int32)).toInt = 31 by decide)
        have z32 := zne h32 (show ((32 : Int32)).toInt = 32 by decide)
        have z33 := zne h33 (show ((33 : Int32)).toInt = 33 by decide)
        have z34 := zne h34 (show ((34 : Int32)).toInt = 34 by decide)
        have z35 := zne h35 (show ((35 : Int32)).toInt = 35 by decide)
        have z36 := zne h36 (show ((36 : Int32)).toInt = 36 by decide)
        have z37 := zne h37 (show ((37 : Int32)).toInt = 37 by decide)
        have z38 := zne h38 (show ((38 : Int32)).toInt = 38 by decide)
        have z39 := zne h39 (show ((39 : Int32)).toInt = 39 by decide)
        have z40 := zne h40 (show ((40 : Int32)).toInt = 40 by decide)
        have z41 := zne h41 (show ((41 : Int32)).toInt = 41 by decide)
        omega) (by decide) ?_
      exact kk Sc Sm hI H locs hP hQ hS
