/-! rows, texts, what is told: helpers -/
theorem within_t {j m : Nat} (h : j ≤ m) (hm : m < 1000000) (S : zMem) : f_X8_within (iI j) (iI m) S = some (1, S) := by
  rw [X8_within_eq, iI_toInt (by omega) (by omega), iI_toInt (by omega) (by omega)]
  unfold b01
  rw [if_pos (by omega)]
theorem within_f {x : Int32} {m : Nat} (h : pIn x (m + 1) = none) (hm : m < 1000000) (S : zMem) : f_X8_within x (iI m) S = some (0, S) := by
  have h1 := pIn_none h
  rw [X8_within_eq, iI_toInt (z := (m : Int)) (by omega) (by omega)]
  unfold b01
  rw [if_neg (by omega)]
theorem within_n {x : Int32} {z : Int} (h : z < 0) (h2 : -100 ≤ z) (S : zMem) : f_X8_within x (iI z) S = some (0, S) := by
  rw [X8_within_eq, iI_toInt (z := z) (by omega) (by omega)]
  unfold b01
  rw [if_neg (by omega)]
theorem in_t {j m : Nat} (h : j ≤ m) (hm : m < 1000000) (S : zMem) : f_X9_in (iI j).toInt64 (iI 0).toInt64 (iI m).toInt64 S = some (1, S) := by
  rw [X9_in_eq, iI_toInt (by omega) (by omega), iI_toInt (by omega) (by omega), iI_toInt (by omega) (by omega)]
  unfold b01
  rw [if_pos (by omega)]
theorem in_f {x : Int32} {m : Nat} (h : pIn x (m + 1) = none) (hm : m < 1000000) (S : zMem) : f_X9_in x.toInt64 (iI 0).toInt64 (iI m).toInt64 S = some (0, S) := by
  have h1 := pIn_none h
  rw [X9_in_eq, iI_toInt (z := (m : Int)) (by omega) (by omega), iI_toInt (z := 0) (by omega) (by omega)]
  unfold b01
  rw [if_neg (by omega)]
theorem in_n {x : Int32} {z : Int} (h : z < 0) (h2 : -100 ≤ z) (S : zMem) : f_X9_in x.toInt64 (iI 0).toInt64 (iI z).toInt64 S = some (0, S) := by
  rw [X9_in_eq, iI_toInt (z := z) (by omega) (by omega), iI_toInt (z := 0) (by omega) (by omega)]
  unfold b01
  rw [if_neg (by omega)]
theorem lo_0 : (0 : Int64) = (iI 0).toInt64 := rfl
theorem isRow_t {j : Nat} (h : j < 6) (S : zMem) : f_X8_isRow (iI j) S = some (1, S) := by
  simp only [X8_isRow_b0, f_X8_isRow, lit_5, within_t (show j ≤ 5 by omega) (by omega), zb_some, zbo_1, zc_true]
  rw [show iI 5 = iI ((5 : Nat) : Int) from rfl, within_t (show j ≤ 5 by omega) (by omega)]
  rfl
theorem isRow_f {x : Int32} (h : pIn x 6 = none) (S : zMem) : f_X8_isRow x S = some (0, S) := by
  simp only [X8_isRow_b0, f_X8_isRow]
  rw [show (5 : Int32) = iI ((5 : Nat) : Int) from rfl, within_f h (by omega)]
  rfl
theorem isText_t {j : Nat} (h : j < 4) (S : zMem) : f_X8_isText (iI j) S = some (1, S) := by
  simp only [X8_isText_b0, f_X8_isText]
  rw [show (3 : Int32) = iI ((3 : Nat) : Int) from rfl, within_t (show j ≤ 3 by omega) (by omega)]
  rfl
theorem isText_f {x : Int32} (h : pIn x 4 = none) (S : zMem) : f_X8_isText x S = some (0, S) := by
  simp only [X8_isText_b0, f_X8_isText]
  rw [show (3 : Int32) = iI ((3 : Nat) : Int) from rfl, within_f h (by omega)]
  rfl
theorem misRow_t {j : Nat} (h : j < 6) (S : zMem) : f_X9_isRow (iI j) S = some (1, S) := by
  simp only [X9_isRow_b0, f_X9_isRow, zl_e]
  rw [lo_0, show (5 : Int64) = (iI ((5 : Nat) : Int)).toInt64 from rfl, in_t (show j ≤ 5 by omega) (by omega)]
  rfl
theorem misRow_f {x : Int32} (h : pIn x 6 = none) (S : zMem) : f_X9_isRow x S = some (0, S) := by
  simp only [X9_isRow_b0, f_X9_isRow, zl_e]
  rw [lo_0, show (5 : Int64) = (iI ((5 : Nat) : Int)).toInt64 from rfl, in_f h (by omega)]
  rfl
theorem misText_t {j : Nat} (h : j < 4) (S : zMem) : f_X9_isText (iI j) S = some (1, S) := by
  simp only [X9_isText_b0, f_X9_isText, zl_e]
  rw [lo_0, show (3 : Int64) = (iI ((3 : Nat) : Int)).toInt64 from rfl, in_t (show j ≤ 3 by omega) (by omega)]
  rfl
theorem misText_f {x : Int32} (h : pIn x 4 = none) (S : zMem) : f_X9_isText x S = some (0, S) := by
  simp only [X9_isText_b0, f_X9_isText, zl_e]
  rw [lo_0, show (3 : Int64) = (iI ((3 : Nat) : Int)).toInt64 from rfl, in_f h (by omega)]
  rfl
/-! what changes what is told alone -/
theorem RC.told {S S1 : zMem} {g : pSig} {t : pTl} (h : RC S g) (ht : tC S1 t) (hc : ∀ c, 4 ≤ c → c < 60 → S1.1 c = S.1 c) : RC S1 (t, g.2) := by
  obtain ⟨h1, h2, h3, h4, h5, h6, h7⟩ := h
  exact ⟨ht, h2.cg (fun c a b => hc c (by omega) (by omega)), h3.cg (fun c a b => hc c (by omega) (by omega)), h4.cg (fun c a b => hc c (by omega) (by omega)), h5.cg (fun c a b => hc c (by omega) (by omega)), fun q => by rw [hc 35 (by omega) (by omega)]; exact h6 q, h7.cg (fun c a b => hc c (by omega) (by omega))⟩
theorem pWf.kl {g : pSig} (h : pWf g) : ∀ k, k < 3 → ∀ d, gK g k = some d → d.length ≤ 40 := fun k hk d hd => (h.2.2.2.2 k hk d hd).1.1
theorem RM.told {S S1 : zMem} {g : pSig} {t : pTl} (h : RM S g) (ht : tM S1 t) (ha : S1.1 0 1 = S.1 0 1) (hb : S1.1 0 2 = S.1 0 2) (hc : ∀ c, 1 ≤ c → c < 9 → S1.1 c = S.1 c) : RM S1 (t, g.2) := by
  obtain ⟨h1, h2, h3, h4, h5, h6⟩ := h
  refine ⟨ht, h2.cg (hc 5 (by omega) (by omega)) (hc 6 (by omega) (by omega)), h3.cg (hc 7 (by omega) (by omega)) (hc 8 (by omega) (by omega)), h4.cg ha hb (hc 2 (by omega) (by omega)) (hc 3 (by omega) (by omega)) (hc 4 (by omega) (by omega)), ?_, ?_⟩
  · have e := hc 1 (by omega) (by omega)
    unfold nM sMo at *
    rw [e]
    exact h5
  · have e := hc 1 (by omega) (by omega)
    unfold kM nM sMo at *
    rw [e]
    exact h6
def qTell (v : Int32) (g : pSig) : Int32 × pSig := (1, ((v, (gT g).2), g.2))
def qRef (f : Nat) (g : pSig) : Int32 × pSig := (-3, (((gT g).1, (gT g).2.1, (gT g).2.2.1, iI f, upd (gT g).2.2.2.2 f ((gT g).2.2.2.2 f + 1)), g.2))
theorem tell_C {S : zMem} {g : pSig} (v : Int32) (h : RC S g) : ∃ S1, f_X8_tell v S = some (1, S1) ∧ RC S1 (qTell v g).2 ∧ ∀ c, c ≠ 0 → S1.1 c = S.1 c := by
  refine ⟨_, rfl, h.told ?_ (fun c a b => by rw [zp_at, if_neg (by omega)]), fun c a => by rw [zp_at, if_neg a]⟩
  obtain ⟨a1, a2, a3, a4, a5⟩ := h.1
  exact ⟨by simp [zp_at, upd_at], a2, a3, by simpa [zp_at, upd_at] using a4, fun k hk => by simpa [zp_at] using a5 k hk⟩
theorem tell_M {S : zMem} {g : pSig} (v : Int32) (h : RM S g) : ∃ S1, f_X9_tell v S = some (1, S1) ∧ RM S1 (qTell v g).2 := by
  refine ⟨_, rfl, h.told ?_ (by simp [zp_at, upd_at]) (by simp [zp_at, upd_at]) (fun c a b => by rw [zp_at, if_neg (by omega)])⟩
  obtain ⟨a1, a2, a3, a4, a5⟩ := h.1
  exact ⟨by simp [zp_at, upd_at], a2, a3, by simpa [zp_at, upd_at] using a4, fun k hk => by simpa [zp_at] using a5 k hk⟩
theorem ref_C {S : zMem} {g : pSig} {f : Nat} (hf : f < 6) (h : RC S g) : ∃ S1, f_X8_refuse (iI f) S = some (-3, S1) ∧ RC S1 (qRef f g).2 := by
  obtain ⟨a1, a2, a3, a4, a5⟩ := h.1
  simp only [X8_refuse_b0, f_X8_refuse, zl_e, zi_I (show (0 : Int) ≤ f by omega) (show (f : Int) < (6 : Nat) by omega) (by omega), zc_true, iI_cln (show f < 2147483648 by omega)]
  refine ⟨_, rfl, h.told ?_ (fun c a b => by simp only [zp_at]; rw [if_neg (by omega), if_neg (by omega)])⟩
  refine ⟨by simpa [zp_at, upd_at] using a1, a2, a3, by simp [zp_at, upd_at], fun k hk => ?_⟩
  have := a5 k hk
  have e2 := a5 f hf
  by_cases hkf : k = f
  · subst hkf
    simp [zp_at, upd_at, e2]
  · simp [zp_at, upd_at, hkf, this]
theorem ref_M {S : zMem} {g : pSig} {f : Nat} (hf : f < 6) (h : RM S g) : ∃ S1, f_X9_find (iI f) S = some (-3, S1) ∧ RM S1 (qRef f g).2 := by
  obtain ⟨a1, a2, a3, a4, a5⟩ := h.1
  simp only [X9_find_b0, f_X9_find, zl_e, zi_I (show (0 : Int) ≤ f by omega) (show (f : Int) < (6 : Nat) by omega) (by omega), zc_true, iI_cln (show f < 2147483648 by omega)]
  refine ⟨_, rfl, h.told ?_ (by simp [zp_at, upd_at]) (by simp [zp_at, upd_at]) (fun c a b => by simp only [zp_at]; rw [if_neg (by omega), if_neg (by omega)])⟩
  refine ⟨by simpa [zp_at, upd_at] using a1, a2, a3, by simp [zp_at, upd_at], fun k hk => ?_⟩
  have := a5 k hk
  have e2 := a5 f hf
  by_cases hkf : k = f
  · subst hkf
    simp [zp_at, upd_at, e2]
  · simp [zp_at, upd_at, hkf, this]
theorem wf_told {g : pSig} (t : pTl) (h : pWf g) : pWf (t, g.2) := h
