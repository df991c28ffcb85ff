/-! PURE PART. Numbers: iI z is the int of an integer z; the functions' words -/
def iI (z : Int) : Int32 := Int32.ofInt z
def iJ (z : Int) : Int64 := Int64.ofInt z
theorem iI_toInt {z : Int} (h1 : -2147483648 ≤ z) (h2 : z < 2147483648) : (iI z).toInt = z := Int32.toInt_ofInt_of_le h1 h2
theorem iI_of (x : Int32) : x = iI x.toInt := (Int32.ofInt_toInt x).symm
theorem iI_add (a b : Int) : iI a + iI b = iI (a + b) := (Int32.ofInt_add a b).symm
theorem iI_mul (a b : Int) : iI a * iI b = iI (a * b) := (Int32.ofInt_mul a b).symm
theorem iI_sub (a b : Int) : iI a - iI b = iI (a - b) := (Int32.ofInt_sub a b).symm
theorem iI_neg (a : Int) : -iI a = iI (-a) := (Int32.ofInt_neg a).symm
theorem iI_lt {a b : Int} (h1 : -2147483648 ≤ a) (h2 : a < 2147483648) (h3 : -2147483648 ≤ b) (h4 : b < 2147483648) : iI a < iI b ↔ a < b := by
  rw [Int32.lt_iff_toInt_lt, iI_toInt h1 h2, iI_toInt h3 h4]
theorem iI_le {a b : Int} (h1 : -2147483648 ≤ a) (h2 : a < 2147483648) (h3 : -2147483648 ≤ b) (h4 : b < 2147483648) : iI a ≤ iI b ↔ a ≤ b := by
  rw [Int32.le_iff_toInt_le, iI_toInt h1 h2, iI_toInt h3 h4]
theorem iI_eq {a b : Int} (h1 : -2147483648 ≤ a) (h2 : a < 2147483648) (h3 : -2147483648 ≤ b) (h4 : b < 2147483648) : iI a = iI b ↔ a = b := by
  rw [← Int32.toInt_inj, iI_toInt h1 h2, iI_toInt h3 h4]
theorem iI_nat (n : Nat) : nI n = iI n := by
  unfold nI iI
  exact (Int32.ofInt_eq_ofNat).symm
theorem iI_cl {a : Int} (h1 : -2147483648 ≤ a) (h2 : a < 2147483648) : (iI a).toNatClampNeg = a.toNat := by
  have e : (iI a).toNatClampNeg = (iI a).toInt.toNat := rfl
  rw [e, iI_toInt h1 h2]
theorem iI_cln {a : Nat} (h2 : a < 2147483648) : (iI (a : Int)).toNatClampNeg = a := by
  rw [iI_cl (by omega) (by omega)]
  omega
theorem iI_div {a b : Int} (h1 : 0 ≤ a) (h2 : a < 2147483648) (h3 : 0 < b) (h4 : b < 2147483648) : iI a / iI b = iI (a / b) := by
  obtain ⟨n, rfl⟩ := Int.eq_ofNat_of_zero_le h1
  obtain ⟨d, rfl⟩ := Int.eq_ofNat_of_zero_le (Int.le_of_lt h3)
  rw [← iI_nat, ← iI_nat, pk_div (by omega) (by omega) (by omega), iI_nat]
  congr 1
theorem iI_rem {a b : Int} (h1 : 0 ≤ a) (h2 : a < 2147483648) (h3 : 0 < b) (h4 : b < 2147483648) : iI a - iI a / iI b * iI b = iI (a % b) := by
  rw [iI_div h1 h2 h3 h4, iI_mul, iI_sub]
  congr 1
  have := Int.emod_def a b
  rw [Int.mul_comm] at this
  omega
theorem zi_I {a : Int} {n : Nat} (h1 : 0 ≤ a) (h2 : a < n) (h3 : n < 2147483648) : zi (iI a) n = true := by
  obtain ⟨j, rfl⟩ := Int.eq_ofNat_of_zero_le h1
  have h4 : ¬ (iI (j : Int) < 0) := by
    have e0 : (0 : Int32) = iI 0 := rfl
    rw [e0, iI_lt (by omega) (by omega) (by omega) (by omega)]
    omega
  have h5 : ¬ (n ≤ (iI (j : Int)).toNatClampNeg) := by
    rw [iI_cln (by omega)]
    omega
  simp [zi, h4, h5]
theorem zl_e {α β : Type} (a : α) (k : α → β) : zl a k = k a := by rw [zl]
theorem zc_true {ρ : Type} (k : Option ρ) : zc true k = k := by rw [zc]
theorem zb_some {α ρ : Type} (r : α) (S : zMem) (k : α → zMem → Option ρ) : zb (some (r, S)) k = k r S := by rw [zb]
theorem zbo_0 : zbo 0 = true := rfl
theorem zbo_1 : zbo 1 = true := rfl
/-- 1 or 0 -/
def b01 (p : Prop) [Decidable p] : Int32 := if p then 1 else 0
theorem b01_0 (p : Prop) [Decidable p] : (b01 p = 0) ↔ ¬ p := by
  unfold b01
  split <;> simp_all
theorem b01_bo (p : Prop) [Decidable p] : zbo (b01 p) = true := by
  unfold b01
  split <;> rfl
/-- memory: what a write leaves -/
theorem zp_at (S : zMem) (c q : Nat) (f : Nat → Int32) : (zp S c f).1 q = if q = c then f else S.1 q := rfl
theorem zp_2e (S : zMem) (c : Nat) (f : Nat → Int32) : (zp S c f).2 = S.2 := rfl
theorem zq_at (S : zMem) (c q : Nat) (f : Nat → Int64) : (zq S c f).2 q = if q = c then f else S.2 q := rfl
theorem zq_1e (S : zMem) (c : Nat) (f : Nat → Int64) : (zq S c f).1 = S.1 := rfl
theorem upd_at (f : Nat → Int32) (k j : Nat) (x : Int32) : upd f k x j = if j = k then x else f j := rfl
theorem updL_at (f : Nat → Int64) (k j : Nat) (x : Int64) : vp_updL f k x j = if j = k then x else f j := rfl
/-- a number of a call as an index below n -/
def pIn (x : Int32) (n : Nat) : Option Nat := if 0 ≤ x.toInt ∧ x.toInt < n then some x.toInt.toNat else none
theorem pIn_some {x : Int32} {n j : Nat} (h : pIn x n = some j) : x = iI j ∧ j < n := by
  unfold pIn at h
  split at h
  · next hc =>
    cases h
    refine ⟨?_, by omega⟩
    have e := iI_of x
    rw [show ((x.toInt.toNat : Nat) : Int) = x.toInt by omega]
    exact e
  · cases h
theorem pIn_none {x : Int32} {n : Nat} (h : pIn x n = none) : ¬ (0 ≤ x.toInt ∧ x.toInt < n) := by
  unfold pIn at h
  split at h
  · cases h
  · assumption
theorem pIn_iI {n j : Nat} (h : j < n) (hn : n < 2147483648) : pIn (iI j) n = some j := by
  unfold pIn
  rw [iI_toInt (by omega) (by omega), if_pos (by omega)]
  simp
theorem lit_0 : (0 : Int32) = iI 0 := rfl
theorem lit_1 : (1 : Int32) = iI 1 := rfl
theorem lit_2 : (2 : Int32) = iI 2 := rfl
theorem lit_3 : (3 : Int32) = iI 3 := rfl
theorem lit_4 : (4 : Int32) = iI 4 := rfl
theorem lit_5 : (5 : Int32) = iI 5 := rfl
theorem lit_6 : (6 : Int32) = iI 6 := rfl
theorem lit_7 : (7 : Int32) = iI 7 := rfl
theorem lit_8 : (8 : Int32) = iI 8 := rfl
theorem lit_9 : (9 : Int32) = iI 9 := rfl
theorem lit_10 : (10 : Int32) = iI 10 := rfl
theorem lit_11 : (11 : Int32) = iI 11 := rfl
theorem lit_12 : (12 : Int32) = iI 12 := rfl
theorem lit_13 : (13 : Int32) = iI 13 := rfl
theorem lit_14 : (14 : Int32) = iI 14 := rfl
theorem lit_15 : (15 : Int32) = iI 15 := rfl
theorem lit_16 : (16 : Int32) = iI 16 := rfl
theorem lit_17 : (17 : Int32) = iI 17 := rfl
theorem lit_18 : (18 : Int32) = iI 18 := rfl
theorem lit_19 : (19 : Int32) = iI 19 := rfl
theorem lit_20 : (20 : Int32) = iI 20 := rfl
theorem lit_21 : (21 : Int32) = iI 21 := rfl
theorem lit_22 : (22 : Int32) = iI 22 := rfl
theorem lit_23 : (23 : Int32) = iI 23 := rfl
theorem lit_24 : (24 : Int32) = iI 24 := rfl
theorem lit_25 : (25 : Int32) = iI 25 := rfl
theorem lit_26 : (26 : Int32) = iI 26 := rfl
theorem lit_27 : (27 : Int32) = iI 27 := rfl
theorem lit_28 : (28 : Int32) = iI 28 := rfl
theorem lit_29 : (29 : Int32) = iI 29 := rfl
theorem lit_30 : (30 : Int32) = iI 30 := rfl
theorem lit_31 : (31 : Int32) = iI 31 := rfl
theorem lit_32 : (32 : Int32) = iI 32 := rfl
theorem lit_33 : (33 : Int32) = iI 33 := rfl
theorem lit_34 : (34 : Int32) = iI 34 := rfl
theorem lit_35 : (35 : Int32) = iI 35 := rfl
theorem lit_36 : (36 : Int32) = iI 36 := rfl
theorem lit_37 : (37 : Int32) = iI 37 := rfl
theorem lit_38 : (38 : Int32) = iI 38 := rfl
theorem lit_39 : (39 : Int32) = iI 39 := rfl
theorem lit_40 : (40 : Int32) = iI 40 := rfl
theorem lit_41 : (41 : Int32) = iI 41 := rfl
theorem lit_42 : (42 : Int32) = iI 42 := rfl
theorem lit_43 : (43 : Int32) = iI 43 := rfl
theorem lit_44 : (44 : Int32) = iI 44 := rfl
theorem lit_45 : (45 : Int32) = iI 45 := rfl
theorem lit_46 : (46 : Int32) = iI 46 := rfl
theorem lit_47 : (47 : Int32) = iI 47 := rfl
theorem lit_48 : (48 : Int32) = iI 48 := rfl
theorem lit_49 : (49 : Int32) = iI 49 := rfl
theorem lit_50 : (50 : Int32) = iI 50 := rfl
theorem lit_51 : (51 : Int32) = iI 51 := rfl
theorem lit_52 : (52 : Int32) = iI 52 := rfl
theorem lit_53 : (53 : Int32) = iI 53 := rfl
theorem lit_54 : (54 : Int32) = iI 54 := rfl
theorem lit_55 : (55 : Int32) = iI 55 := rfl
theorem lit_56 : (56 : Int32) = iI 56 := rfl
theorem lit_57 : (57 : Int32) = iI 57 := rfl
theorem lit_58 : (58 : Int32) = iI 58 := rfl
theorem lit_59 : (59 : Int32) = iI 59 := rfl
theorem lit_60 : (60 : Int32) = iI 60 := rfl
theorem lit_61 : (61 : Int32) = iI 61 := rfl
theorem lit_62 : (62 : Int32) = iI 62 := rfl
theorem lit_63 : (63 : Int32) = iI 63 := rfl
theorem lit_64 : (64 : Int32) = iI 64 := rfl
theorem lit_98 : (98 : Int32) = iI 98 := rfl
theorem lit_102 : (102 : Int32) = iI 102 := rfl
theorem lit_104 : (104 : Int32) = iI 104 := rfl
theorem lit_107 : (107 : Int32) = iI 107 := rfl
theorem lit_108 : (108 : Int32) = iI 108 := rfl
theorem lit_112 : (112 : Int32) = iI 112 := rfl
theorem lit_116 : (116 : Int32) = iI 116 := rfl
theorem lit_118 : (118 : Int32) = iI 118 := rfl
theorem lit_240 : (240 : Int32) = iI 240 := rfl
theorem lit_698 : (698 : Int32) = iI 698 := rfl
theorem lit_1000 : (1000 : Int32) = iI 1000 := rfl
theorem lit_2792 : (2792 : Int32) = iI 2792 := rfl
theorem lit_2794 : (2794 : Int32) = iI 2794 := rfl
theorem lit_2795 : (2795 : Int32) = iI 2795 := rfl
theorem lit_2796 : (2796 : Int32) = iI 2796 := rfl
theorem lit_2797 : (2797 : Int32) = iI 2797 := rfl
theorem lit_2798 : (2798 : Int32) = iI 2798 := rfl
theorem lit_2799 : (2799 : Int32) = iI 2799 := rfl
theorem lit_2804 : (2804 : Int32) = iI 2804 := rfl
theorem lit_99999 : (99999 : Int32) = iI 99999 := rfl
theorem litm_1 : (-1 : Int32) = iI (-1) := rfl
theorem litm_2 : (-2 : Int32) = iI (-2) := rfl
theorem litm_3 : (-3 : Int32) = iI (-3) := rfl
theorem litm_4 : (-4 : Int32) = iI (-4) := rfl
theorem litm_6 : (-6 : Int32) = iI (-6) := rfl
theorem litm_9 : (-9 : Int32) = iI (-9) := rfl
