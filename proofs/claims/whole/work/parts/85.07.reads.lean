/-! asked, upper, lower, finding, findings -/
theorem id_wf {α : Type} (f : pSig → α) : ∀ g, pWf g → pWf ((fun g => (f g, g)) g).2 := fun _ h => h
theorem asked_C : okC f_X8_asked (fun g => ((gT g).1, g)) := by
  intro S g hg h
  refine ⟨S, ?_, h⟩
  simp only [X8_asked_b0, f_X8_asked, zl_e, h.1.1]
theorem asked_M : okM f_X9_asked (fun g => ((gT g).1, g)) := by
  intro S g hg h
  refine ⟨S, ?_, h⟩
  simp only [X9_asked_b0, f_X9_asked, zl_e, h.1.1]
theorem upper_C : okC f_X8_upper (fun g => ((gT g).2.1, g)) := by
  intro S g hg h
  refine ⟨S, ?_, h⟩
  simp only [X8_upper_b0, f_X8_upper, zl_e, h.1.2.1]
theorem upper_M : okM f_X9_upper (fun g => ((gT g).2.1, g)) := by
  intro S g hg h
  refine ⟨S, ?_, h⟩
  simp only [X9_upper_b0, f_X9_upper, zl_e, h.1.2.1]
theorem lower_C : okC f_X8_lower (fun g => ((gT g).2.2.1, g)) := by
  intro S g hg h
  refine ⟨S, ?_, h⟩
  simp only [X8_lower_b0, f_X8_lower, zl_e, h.1.2.2.1]
theorem lower_M : okM f_X9_lower (fun g => ((gT g).2.2.1, g)) := by
  intro S g hg h
  refine ⟨S, ?_, h⟩
  simp only [X9_lower_b0, f_X9_lower, zl_e, h.1.2.2.1]
theorem finding_C : okC f_X8_finding (fun g => ((gT g).2.2.2.1, g)) := by
  intro S g hg h
  refine ⟨S, ?_, h⟩
  simp only [X8_finding_b0, f_X8_finding, zl_e, h.1.2.2.2.1]
theorem finding_M : okM f_X9_finding (fun g => ((gT g).2.2.2.1, g)) := by
  intro S g hg h
  refine ⟨S, ?_, h⟩
  simp only [X9_finding_b0, f_X9_finding, zl_e, h.1.2.2.2.1]
def qFindings (x : Int32) (g : pSig) : Int32 × pSig := (if 1 ≤ x.toInt ∧ x.toInt ≤ 5 then (gT g).2.2.2.2 x.toInt.toNat else -1, g)
theorem findings_C (x : Int32) : okC (f_X8_findings x) (qFindings x) := by
  intro S g hg h
  refine ⟨S, ?_, h⟩
  obtain ⟨z, h1, h2, rfl⟩ := int_of x
  simp only [qFindings, iI_toInt h1 h2]
  simp (disch := omega) only [X8_findings_b10, X8_findings_b0, f_X8_findings, lit_1, lit_5, iI_lt, iI_le]
  by_cases hz : 1 ≤ z ∧ z ≤ 5
  · rw [if_neg (by omega), if_pos (by omega), if_pos hz]
    simp (disch := omega) only [zi_I, zc_true, zl_e, iI_cl]
    rw [h.1.2.2.2.2 z.toNat (by omega)]
  · rw [if_neg hz]
    by_cases h3 : z < 1
    · rw [if_pos h3]
    · rw [if_neg h3, if_neg (by omega)]
theorem findings_M (x : Int32) : okM (f_X9_findings x) (qFindings x) := by
  intro S g hg h
  refine ⟨S, ?_, h⟩
  obtain ⟨z, h1, h2, rfl⟩ := int_of x
  simp only [qFindings, iI_toInt h1 h2]
  simp only [X9_findings_b22, X9_findings_b0, f_X9_findings, zl_e]
  rw [show (1 : Int64) = (iI 1).toInt64 from rfl, show (5 : Int64) = (iI 5).toInt64 from rfl, X9_in_eq, iI_toInt h1 h2, iI_toInt (z := 1) (by omega) (by omega), iI_toInt (z := 5) (by omega) (by omega)]
  simp only [zb_some, b01_0]
  by_cases hz : 1 ≤ z ∧ z ≤ 5
  · rw [if_neg (fun q => q hz), if_pos hz]
    simp (disch := omega) only [zi_I, zc_true, zl_e, iI_cl]
    rw [h.1.2.2.2.2 z.toNat (by omega)]
  · rw [if_pos hz, if_neg hz]
