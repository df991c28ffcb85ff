/-! they begin alike, and every call agrees -/
def g0 : pSig := ((0, 0, 1, 0, fun _ => 0), fun _ => (-1, fun _ => 0), fun _ => (-1, fun _ => 0), pO0, [], fun _ => none)
theorem g0_wf : pWf g0 := by
  refine ⟨fun r _ => ⟨Int.le_refl _, by show (-1 : Int) ≤ 40; omega⟩, fun r _ => ⟨Int.le_refl _, by show (-1 : Int) ≤ 60; omega⟩, pO0_ok, ⟨Nat.zero_le _, fun d hd => by cases hd⟩, fun k _ d hd => by cases hd⟩
theorem s0c_0 {c k : Nat} (h : ¬ (4 ≤ c ∧ c < 24)) : zS0c.1 c k = 0 := by
  show (if 4 ≤ c ∧ c < 24 ∧ c % 2 = 0 ∧ k = 1 then (-1 : Int32) else 0) = 0
  rw [if_neg (by omega)]
theorem s0c_1 {c : Nat} (h : 4 ≤ c ∧ c < 24 ∧ c % 2 = 0) : zS0c.1 c 1 = -1 := by
  show (if 4 ≤ c ∧ c < 24 ∧ c % 2 = 0 ∧ (1 : Nat) = 1 then (-1 : Int32) else 0) = -1
  rw [if_pos (by omega)]
theorem i0_0 : (0 : Int32) = iI ((0 : Nat) : Int) := rfl
theorem start_C : RC zS0c g0 := by
  refine ⟨⟨s0c_0 (by omega), rfl, rfl, s0c_0 (by omega), fun k _ => s0c_0 (by omega)⟩, fun r hr => ⟨s0c_1 (by omega), fun k hk => ?_⟩, fun r hr => ⟨s0c_1 (by omega), fun k hk => ?_⟩, ⟨s0c_0 (by omega), s0c_0 (by omega), s0c_0 (by omega), s0c_0 (by omega), fun h hh => absurd hh (Nat.not_lt_zero h), fun h hh => absurd hh (Nat.not_lt_zero h)⟩, ⟨⟨s0c_0 (by omega), s0c_0 (by omega), s0c_0 (by omega), s0c_0 (by omega), s0c_0 (by omega), fun h hh => absurd hh (Nat.not_lt_zero h), fun h hh => absurd hh (Nat.not_lt_zero h)⟩, s0c_0 (by omega), fun i d hd => (by have hd2 : ([] : pDs)[i]? = some d := hd; simp at hd2)⟩, fun hh => absurd hh (Nat.not_lt_zero 0), fun k hk => s0c_0 (by omega)⟩
  · have : (k : Int) < -1 := hk
    omega
  · have : (k : Int) < -1 := hk
    omega
theorem s0m_5 : ∀ r, r < 6 → zS0m.1 5 r = -1 := by decide +kernel
theorem s0m_7 : ∀ r, r < 4 → zS0m.1 7 r = -1 := by decide +kernel
theorem s0m_1 : ∀ q, q < 6 → zS0m.1 1 q = 0 := by decide +kernel
theorem s0m_k : ∀ k, k < 3 → zS0m.1 1 (698 * (1 + k)) = -1 := by decide +kernel
theorem start_M : RM zS0m g0 := by
  refine ⟨⟨rfl, rfl, rfl, rfl, fun k _ => rfl⟩, fun r hr => ⟨s0m_5 r hr, fun k hk => ?_⟩, fun r hr => ⟨s0m_7 r hr, fun k hk => ?_⟩, ⟨rfl, rfl, fun h hh => absurd hh (Nat.not_lt_zero h)⟩, ⟨s0m_1 0 (by omega), ⟨s0m_1 1 (by omega), s0m_1 2 (by omega), s0m_1 3 (by omega), s0m_1 4 (by omega), s0m_1 5 (by omega), fun h hh => absurd hh (Nat.not_lt_zero h), fun h hh => absurd hh (Nat.not_lt_zero h)⟩, fun i hi => absurd hi (Nat.not_lt_zero i)⟩, fun k hk => s0m_k k hk⟩
  · have : (k : Int) < -1 := hk
    omega
  · have : (k : Int) < -1 := hk
    omega
theorem findings_wf (x : Int32) : ∀ g, pWf g → pWf (qFindings x g).2 := by
  intro g h
  unfold qFindings
  split
  · exact h
  · exact h
theorem agree : zAgree zInv := ⟨⟨g0, g0_wf, start_C, start_M⟩,
  fun a b => ok_i (qRow a b) (row_wf a b) (row_C a b) (row_M a b),
  fun a b c => ok_i (qLay a b c) (lay_wf a b c) (lay_C a b c) (lay_M a b c),
  fun a b => ok_i (qAt a b) (at_wf a b) (at_C a b) (at_M a b),
  fun a => ok_i (qTear a) (tear_wf a) (tear_C a) (tear_M a),
  fun a b c d e => ok_i (qCopy a b c d e) (copy_wf a b c d e) (copy_C a b c d e) (copy_M a b c d e),
  fun a => ok_i (qMean a) (mean_wf a) (mean_C a) (mean_M a),
  fun a b => ok_i (qText a b) (text_wf a b) (text_C a b) (text_M a b),
  fun a b c => ok_i (qPut a b c) (put_wf a b c) (put_C a b c) (put_M a b c),
  fun a => ok_i (qFault a) (fault_wf a) (fault_C a) (fault_M a),
  fun a => ok_i (qPost a) (post_wf a) (post_C a) (post_M a),
  fun a b => ok_i (qHouse a b) (house_wf a b) (house_C a b) (house_M a b),
  fun a b => ok_i (qLetter a b) (letter_wf a b) (letter_C a b) (letter_M a b),
  fun a b => ok_i (qMark a b) (mark_wf a b) (mark_C a b) (mark_M a b),
  fun a => ok_i (qCarry a) (carry_wf a) (carry_C a) (carry_M a),
  fun a => ok_i (qBribe a) (bribe_wf a) (bribe_C a) (bribe_M a),
  fun a => ok_i (qWeather a) (weather_wf a) (weather_C a) (weather_M a),
  ok_i qDay day_wf day_C day_M,
  fun a => ok_i (qUndo a) (undo_wf a) (undo_C a) (undo_M a),
  fun a => ok_i (qKeep a) (keep_wf a) (keep_C a) (keep_M a),
  fun a => ok_i (qOn a) (on_wf a) (on_C a) (on_M a),
  fun a b c => ok_i (qEnds a b c) (ends_wf a b c) (ends_C a b c) (ends_M a b c),
  fun a => ok_i (qBond a) (bond_wf a) (bond_C a) (bond_M a),
  fun a b => ok_i (qLeast a b) (least_wf a b) (least_C a b) (least_M a b),
  fun a b => ok_i (qRound a b) (round_wf a b) (round_C a b) (round_M a b),
  fun a b c => ok_i (qPlan a b c) (plan_wf a b c) (plan_C a b c) (plan_M a b c),
  fun a b c => ok_i (qRest a b c) (rest_wf a b c) (rest_C a b c) (rest_M a b c),
  fun a b => ok_i (qMeant a b) (meant_wf a b) (meant_C a b) (meant_M a b),
  fun a b => ok_i (qKinds a b) (kinds_wf a b) (kinds_C a b) (kinds_M a b),
  fun a b => ok_i (qTest a b) (test_wf a b) (test_C a b) (test_M a b),
  fun a => ok_i (qSets a) (sets_wf a) (sets_C a) (sets_M a),
  fun a => ok_i (qSure a) (sure_wf a) (sure_C a) (sure_M a),
  fun a => ok_i (qDuel a) (duel_wf a) (duel_C a) (duel_M a),
  fun a b c => ok_i (qOdds a b c) (odds_wf a b c) (odds_C a b c) (odds_M a b c),
  fun a b => ok_i (qMid a b) (mid_wf a b) (mid_C a b) (mid_M a b),
  fun a b => ok_i (qLots a b) (lots_wf a b) (lots_C a b) (lots_M a b),
  ok_i _ (id_wf _) asked_C asked_M,
  ok_l _ (id_wf _) upper_C upper_M,
  ok_l _ (id_wf _) lower_C lower_M,
  fun a => ok_i (qCount a) (count_wf a) (count_C a) (count_M a),
  ok_i _ (id_wf _) finding_C finding_M,
  fun a => ok_i (qFindings a) (findings_wf a) (findings_C a) (findings_M a),
  ok_l qDig dig_wf dig_C dig_M⟩
