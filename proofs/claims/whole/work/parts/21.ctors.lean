theorem up_s {α : Type} {f : Nat → α} {k : Nat} {v : α} : va_up f k v k = v := by simp [va_up]
theorem up_n {α : Type} {f : Nat → α} {j k : Nat} {v : α} (h : j ≠ k) : va_up f k v j = f j := by simp [va_up, h]
theorem wArr : Cond.arrayClass .int ∈ zT := zT_of (List.mem_of_getElem? (i := 145) (by decide +kernel)) rfl
theorem wOi : Cond.instanceMethod Lib.objectInit ∈ zT := zT_of (List.mem_of_getElem? (i := 89) (by decide +kernel)) rfl
theorem wOc : Cond.code Lib.objectInit ⟨#[0xb1]⟩ 1 none ∈ zT := zT_of (List.mem_of_getElem? (i := 90) (by decide +kernel)) rfl
theorem fd_X0 : ∀ j, j < 1 → defaultValue (tyX0 j) = vp_V [.null] j := fun j hj => by
  have h : j = 0 := by omega
  subst h
  rfl
theorem fd_X2 : ∀ j, j < 9 → defaultValue (tyX2 j) = vp_V [.null, .null, .int 0, .int 0, .int 0, .int 0, .long 0, .long 0, .long 0] j := fun j hj => by
  rcases (show j = 0 ∨ j = 1 ∨ j = 2 ∨ j = 3 ∨ j = 4 ∨ j = 5 ∨ j = 6 ∨ j = 7 ∨ j = 8 by omega) with rfl | rfl | rfl | rfl | rfl | rfl | rfl | rfl | rfl <;> rfl
theorem fd_X3 : ∀ j, j < 7 → defaultValue (tyX3 j) = vp_V [.null, .null, .null, .int 0, .int 0, .int 0, .int 0] j := fun j hj => by
  rcases (show j = 0 ∨ j = 1 ∨ j = 2 ∨ j = 3 ∨ j = 4 ∨ j = 5 ∨ j = 6 by omega) with rfl | rfl | rfl | rfl | rfl | rfl | rfl <;> rfl
theorem fd_X4 : ∀ j, j < 12 → defaultValue (tyX4 j) = vp_V [.null, .null, .null, .null, .null, .int 0, .int 0, .int 0, .int 0, .int 0, .int 0, .int 0] j := fun j hj => by
  rcases (show j = 0 ∨ j = 1 ∨ j = 2 ∨ j = 3 ∨ j = 4 ∨ j = 5 ∨ j = 6 ∨ j = 7 ∨ j = 8 ∨ j = 9 ∨ j = 10 ∨ j = 11 by omega) with rfl | rfl | rfl | rfl | rfl | rfl | rfl | rfl | rfl | rfl | rfl | rfl <;> rfl
theorem fd_X5 : ∀ j, j < 1 → defaultValue (tyX5 j) = vp_V [.null] j := fun j hj => by
  have h : j = 0 := by omega
  subst h
  rfl
theorem fd_X6 : ∀ j, j < 8 → defaultValue (tyX6 j) = vp_V [.null, .null, .null, .null, .int 0, .int 0, .int 0, .int 0] j := fun j hj => by
  rcases (show j = 0 ∨ j = 1 ∨ j = 2 ∨ j = 3 ∨ j = 4 ∨ j = 5 ∨ j = 6 ∨ j = 7 by omega) with rfl | rfl | rfl | rfl | rfl | rfl | rfl | rfl <;> rfl
theorem fd_X7 : ∀ j, j < 2 → defaultValue (tyX7 j) = vp_V [.null, .int 0] j := fun j hj => by
  rcases (show j = 0 ∨ j = 1 by omega) with rfl | rfl <;> rfl
theorem fd_X8 : ∀ j, j < 15 → defaultValue (tyX8 j) = vp_V [.null, .null, .null, .null, .null, .null, .null, .null, .null, .null, .null, .int 0, .int 0, .long 0, .long 0] j := fun j hj => by
  rcases (show j = 0 ∨ j = 1 ∨ j = 2 ∨ j = 3 ∨ j = 4 ∨ j = 5 ∨ j = 6 ∨ j = 7 ∨ j = 8 ∨ j = 9 ∨ j = 10 ∨ j = 11 ∨ j = 12 ∨ j = 13 ∨ j = 14 by omega) with rfl | rfl | rfl | rfl | rfl | rfl | rfl | rfl | rfl | rfl | rfl | rfl | rfl | rfl | rfl <;> rfl
theorem fd_X9 : ∀ j, j < 27 → defaultValue (tyX9 j) = vp_V [.null, .int 0, .int 0, .null, .null, .null, .null, .null, .null, .null, .int 0, .long 0, .long 0, .int 0, .null, .int 0, .int 0, .int 0, .int 0, .int 0, .int 0, .null, .int 0, .null, .null, .null, .null] j := fun j hj => by
  rcases (show j = 0 ∨ j = 1 ∨ j = 2 ∨ j = 3 ∨ j = 4 ∨ j = 5 ∨ j = 6 ∨ j = 7 ∨ j = 8 ∨ j = 9 ∨ j = 10 ∨ j = 11 ∨ j = 12 ∨ j = 13 ∨ j = 14 ∨ j = 15 ∨ j = 16 ∨ j = 17 ∨ j = 18 ∨ j = 19 ∨ j = 20 ∨ j = 21 ∨ j = 22 ∨ j = 23 ∨ j = 24 ∨ j = 25 ∨ j = 26 by omega) with rfl | rfl | rfl | rfl | rfl | rfl | rfl | rfl | rfl | rfl | rfl | rfl | rfl | rfl | rfl | rfl | rfl | rfl | rfl | rfl | rfl | rfl | rfl | rfl | rfl | rfl | rfl <;> rfl
theorem wm_X7_1 : Cond.methodLink RX7 1 Lib.objectInit ∈ zT := zT_of (List.mem_of_getElem? (i := 301) (by decide +kernel)) rfl
theorem ff_6_0 : zFF RX7 6 0 (.array .int) := fun q h => by cases h; exact ⟨rfl, rfl, by decide +kernel⟩
theorem wm_X6_3 : Cond.methodLink RX6 3 Lib.objectInit ∈ zT := zT_of (List.mem_of_getElem? (i := 98) (by decide +kernel)) rfl
theorem ff_5_0 : zFF RX6 5 0 (.array .int) := fun q h => by cases h; exact ⟨rfl, rfl, by decide +kernel⟩
theorem ff_5_1 : zFF RX6 5 1 (.array .int) := fun q h => by cases h; exact ⟨rfl, rfl, by decide +kernel⟩
theorem ff_5_2 : zFF RX6 5 2 (.array .int) := fun q h => by cases h; exact ⟨rfl, rfl, by decide +kernel⟩
theorem ff_5_3 : zFF RX6 5 3 (.array .int) := fun q h => by cases h; exact ⟨rfl, rfl, by decide +kernel⟩
theorem wm_X0_3 : Cond.methodLink RX0 3 Lib.objectInit ∈ zT := zT_of (List.mem_of_getElem? (i := 292) (by decide +kernel)) rfl
theorem ff_0_0 : zFF RX0 0 0 (.array .int) := fun q h => by cases h; exact ⟨rfl, rfl, by decide +kernel⟩
theorem wm_X4_3 : Cond.methodLink RX4 3 Lib.objectInit ∈ zT := zT_of (List.mem_of_getElem? (i := 164) (by decide +kernel)) rfl
theorem ff_3_1 : zFF RX4 3 1 (.array .int) := fun q h => by cases h; exact ⟨rfl, rfl, by decide +kernel⟩
theorem ff_3_2 : zFF RX4 3 2 (.array .int) := fun q h => by cases h; exact ⟨rfl, rfl, by decide +kernel⟩
theorem ff_3_3 : zFF RX4 3 3 (.array .int) := fun q h => by cases h; exact ⟨rfl, rfl, by decide +kernel⟩
theorem ff_3_4 : zFF RX4 3 4 (.array .int) := fun q h => by cases h; exact ⟨rfl, rfl, by decide +kernel⟩
theorem ff_3_0 : zFF RX4 3 0 (.object "LetterEnds$Road") := fun q h => by cases h; exact ⟨rfl, rfl, by decide +kernel⟩
theorem wm_X3_3 : Cond.methodLink RX3 3 Lib.objectInit ∈ zT := zT_of (List.mem_of_getElem? (i := 225) (by decide +kernel)) rfl
theorem ff_2_1 : zFF RX3 2 1 (.array .int) := fun q h => by cases h; exact ⟨rfl, rfl, by decide +kernel⟩
theorem ff_2_2 : zFF RX3 2 2 (.array .int) := fun q h => by cases h; exact ⟨rfl, rfl, by decide +kernel⟩
theorem ff_2_0 : zFF RX3 2 0 (.object "LetterEnds$Road") := fun q h => by cases h; exact ⟨rfl, rfl, by decide +kernel⟩
theorem wm_X2_3 : Cond.methodLink RX2 3 Lib.objectInit ∈ zT := zT_of (List.mem_of_getElem? (i := 255) (by decide +kernel)) rfl
theorem ff_1_1 : zFF RX2 1 1 (.array .int) := fun q h => by cases h; exact ⟨rfl, rfl, by decide +kernel⟩
theorem ff_1_0 : zFF RX2 1 0 (.object "LetterEnds$Road") := fun q h => by cases h; exact ⟨rfl, rfl, by decide +kernel⟩
theorem wm_X5_3 : Cond.methodLink RX5 3 Lib.objectInit ∈ zT := zT_of (List.mem_of_getElem? (i := 151) (by decide +kernel)) rfl
theorem wc_X5_9 : Cond.classLink RX5 9 RX6 ∈ zT := zT_of (List.mem_of_getElem? (i := 152) (by decide +kernel)) rfl
theorem wi_X6 : Cond.instantiable RX6 8 ∈ zT := zT_of (List.mem_of_getElem? (i := 94) (by decide +kernel)) rfl
theorem wt_X6 : Cond.initialized RX6 ∈ zT := zT_of (List.mem_of_getElem? (i := 71) (by decide +kernel)) rfl
theorem hyi_X6_init_i : Cond.instanceMethod yX6_init ∈ zT := zT_of (List.mem_of_getElem? (i := 96) (by decide +kernel)) rfl
theorem hyb_X6_init : zYb yX6_init cX6_init 1 none 0 := ⟨zT_of (List.mem_of_getElem? (i := 97) (by decide +kernel)) rfl, zT_of (List.mem_of_getElem? (i := 71) (by decide +kernel)) rfl, by decide, by decide +kernel, by decide +kernel, by decide +kernel⟩
theorem ff_4_0 : zFF RX5 4 0 (.object "LetterEnds$Road") := fun q h => by cases h; exact ⟨rfl, rfl, by decide +kernel⟩
theorem wm_X8_1 : Cond.methodLink RX8 1 Lib.objectInit ∈ zT := zT_of (List.mem_of_getElem? (i := 88) (by decide +kernel)) rfl
theorem wc_X8_9 : Cond.classLink RX8 9 RX7 ∈ zT := zT_of (List.mem_of_getElem? (i := 91) (by decide +kernel)) rfl
theorem ff_7_0 : zFF RX8 7 0 (.array (.object "LetterEnds$Strip")) := fun q h => by cases h; exact ⟨rfl, rfl, by decide +kernel⟩
theorem ff_7_1 : zFF RX8 7 1 (.array (.object "LetterEnds$Strip")) := fun q h => by cases h; exact ⟨rfl, rfl, by decide +kernel⟩
theorem wc_X8_18 : Cond.classLink RX8 18 RX6 ∈ zT := zT_of (List.mem_of_getElem? (i := 93) (by decide +kernel)) rfl
theorem ff_7_2 : zFF RX8 7 2 (.object "LetterEnds$Road") := fun q h => by cases h; exact ⟨rfl, rfl, by decide +kernel⟩
theorem wc_X8_25 : Cond.classLink RX8 25 RX5 ∈ zT := zT_of (List.mem_of_getElem? (i := 146) (by decide +kernel)) rfl
theorem wi_X5 : Cond.instantiable RX5 1 ∈ zT := zT_of (List.mem_of_getElem? (i := 147) (by decide +kernel)) rfl
theorem wt_X5 : Cond.initialized RX5 ∈ zT := zT_of (List.mem_of_getElem? (i := 72) (by decide +kernel)) rfl
theorem hyi_X5_init_i : Cond.instanceMethod yX5_init ∈ zT := zT_of (List.mem_of_getElem? (i := 149) (by decide +kernel)) rfl
theorem hyb_X5_init : zYb yX5_init cX5_init 1 none 0 := ⟨zT_of (List.mem_of_getElem? (i := 150) (by decide +kernel)) rfl, zT_of (List.mem_of_getElem? (i := 72) (by decide +kernel)) rfl, by decide, by decide +kernel, by decide +kernel, by decide +kernel⟩
theorem ff_7_3 : zFF RX8 7 3 (.object "LetterEnds$Reader") := fun q h => by cases h; exact ⟨rfl, rfl, by decide +kernel⟩
theorem wc_X8_32 : Cond.classLink RX8 32 RX4 ∈ zT := zT_of (List.mem_of_getElem? (i := 159) (by decide +kernel)) rfl
theorem wi_X4 : Cond.instantiable RX4 12 ∈ zT := zT_of (List.mem_of_getElem? (i := 160) (by decide +kernel)) rfl
theorem wt_X4 : Cond.initialized RX4 ∈ zT := zT_of (List.mem_of_getElem? (i := 73) (by decide +kernel)) rfl
theorem hyi_X4_init_i : Cond.instanceMethod yX4_init ∈ zT := zT_of (List.mem_of_getElem? (i := 162) (by decide +kernel)) rfl
theorem hyb_X4_init : zYb yX4_init cX4_init 2 none 1 := ⟨zT_of (List.mem_of_getElem? (i := 163) (by decide +kernel)) rfl, zT_of (List.mem_of_getElem? (i := 73) (by decide +kernel)) rfl, by decide, by decide +kernel, by decide +kernel, by decide +kernel⟩
theorem wm_X8_34 : Cond.methodLink RX8 34 yX4_init ∈ zT := zT_of (List.mem_of_getElem? (i := 161) (by decide +kernel)) rfl
theorem ff_7_4 : zFF RX8 7 4 (.object "LetterEnds$Post") := fun q h => by cases h; exact ⟨rfl, rfl, by decide +kernel⟩
theorem ff_7_5 : zFF RX8 7 5 (.object "LetterEnds$Post") := fun q h => by cases h; exact ⟨rfl, rfl, by decide +kernel⟩
theorem ff_7_6 : zFF RX8 7 6 (.array (.object "LetterEnds$Post")) := fun q h => by cases h; exact ⟨rfl, rfl, by decide +kernel⟩
theorem wc_X8_48 : Cond.classLink RX8 48 RX3 ∈ zT := zT_of (List.mem_of_getElem? (i := 220) (by decide +kernel)) rfl
theorem wi_X3 : Cond.instantiable RX3 7 ∈ zT := zT_of (List.mem_of_getElem? (i := 221) (by decide +kernel)) rfl
theorem wt_X3 : Cond.initialized RX3 ∈ zT := zT_of (List.mem_of_getElem? (i := 74) (by decide +kernel)) rfl
theorem hyi_X3_init_i : Cond.instanceMethod yX3_init ∈ zT := zT_of (List.mem_of_getElem? (i := 223) (by decide +kernel)) rfl
theorem hyb_X3_init : zYb yX3_init cX3_init 2 none 1 := ⟨zT_of (List.mem_of_getElem? (i := 224) (by decide +kernel)) rfl, zT_of (List.mem_of_getElem? (i := 74) (by decide +kernel)) rfl, by decide, by decide +kernel, by decide +kernel, by decide +kernel⟩
theorem wm_X8_50 : Cond.methodLink RX8 50 yX3_init ∈ zT := zT_of (List.mem_of_getElem? (i := 222) (by decide +kernel)) rfl
theorem ff_7_7 : zFF RX8 7 7 (.object "LetterEnds$Orders") := fun q h => by cases h; exact ⟨rfl, rfl, by decide +kernel⟩
theorem wc_X8_55 : Cond.classLink RX8 55 RX2 ∈ zT := zT_of (List.mem_of_getElem? (i := 250) (by decide +kernel)) rfl
theorem wi_X2 : Cond.instantiable RX2 9 ∈ zT := zT_of (List.mem_of_getElem? (i := 251) (by decide +kernel)) rfl
theorem wt_X2 : Cond.initialized RX2 ∈ zT := zT_of (List.mem_of_getElem? (i := 75) (by decide +kernel)) rfl
theorem hyi_X2_init_i : Cond.instanceMethod yX2_init ∈ zT := zT_of (List.mem_of_getElem? (i := 253) (by decide +kernel)) rfl
theorem hyb_X2_init : zYb yX2_init cX2_init 2 none 1 := ⟨zT_of (List.mem_of_getElem? (i := 254) (by decide +kernel)) rfl, zT_of (List.mem_of_getElem? (i := 75) (by decide +kernel)) rfl, by decide, by decide +kernel, by decide +kernel, by decide +kernel⟩
theorem wm_X8_57 : Cond.methodLink RX8 57 yX2_init ∈ zT := zT_of (List.mem_of_getElem? (i := 252) (by decide +kernel)) rfl
theorem ff_7_8 : zFF RX8 7 8 (.object "LetterEnds$Lifts") := fun q h => by cases h; exact ⟨rfl, rfl, by decide +kernel⟩
theorem wc_X8_62 : Cond.classLink RX8 62 RX0 ∈ zT := zT_of (List.mem_of_getElem? (i := 287) (by decide +kernel)) rfl
theorem wi_X0 : Cond.instantiable RX0 1 ∈ zT := zT_of (List.mem_of_getElem? (i := 288) (by decide +kernel)) rfl
theorem wt_X0 : Cond.initialized RX0 ∈ zT := zT_of (List.mem_of_getElem? (i := 76) (by decide +kernel)) rfl
theorem hyi_X0_init_i : Cond.instanceMethod yX0_init ∈ zT := zT_of (List.mem_of_getElem? (i := 290) (by decide +kernel)) rfl
theorem hyb_X0_init : zYb yX0_init cX0_init 1 none 0 := ⟨zT_of (List.mem_of_getElem? (i := 291) (by decide +kernel)) rfl, zT_of (List.mem_of_getElem? (i := 76) (by decide +kernel)) rfl, by decide, by decide +kernel, by decide +kernel, by decide +kernel⟩
theorem ff_7_9 : zFF RX8 7 9 (.object "LetterEnds$Clues") := fun q h => by cases h; exact ⟨rfl, rfl, by decide +kernel⟩
theorem ff_7_10 : zFF RX8 7 10 (.array .int) := fun q h => by cases h; exact ⟨rfl, rfl, by decide +kernel⟩
theorem wi_X7 : Cond.instantiable RX7 2 ∈ zT := zT_of (List.mem_of_getElem? (i := 297) (by decide +kernel)) rfl
theorem wt_X7 : Cond.initialized RX7 ∈ zT := zT_of (List.mem_of_getElem? (i := 77) (by decide +kernel)) rfl
theorem hyi_X7_init_i : Cond.instanceMethod yX7_init ∈ zT := zT_of (List.mem_of_getElem? (i := 299) (by decide +kernel)) rfl
theorem hyb_X7_init : zYb yX7_init cX7_init 2 none 1 := ⟨zT_of (List.mem_of_getElem? (i := 300) (by decide +kernel)) rfl, zT_of (List.mem_of_getElem? (i := 77) (by decide +kernel)) rfl, by decide, by decide +kernel, by decide +kernel, by decide +kernel⟩
theorem wm_X8_77 : Cond.methodLink RX8 77 yX7_init ∈ zT := zT_of (List.mem_of_getElem? (i := 298) (by decide +kernel)) rfl
theorem wm_X9_1 : Cond.methodLink RX9 1 Lib.objectInit ∈ zT := zT_of (List.mem_of_getElem? (i := 869) (by decide +kernel)) rfl
theorem ff_8_0 : zFF RX9 8 0 (.array .int) := fun q h => by cases h; exact ⟨rfl, rfl, by decide +kernel⟩
theorem ff_8_3 : zFF RX9 8 3 (.array .int) := fun q h => by cases h; exact ⟨rfl, rfl, by decide +kernel⟩
theorem ff_8_4 : zFF RX9 8 4 (.array .int) := fun q h => by cases h; exact ⟨rfl, rfl, by decide +kernel⟩
theorem ff_8_5 : zFF RX9 8 5 (.array .int) := fun q h => by cases h; exact ⟨rfl, rfl, by decide +kernel⟩
theorem ff_8_6 : zFF RX9 8 6 (.array .int) := fun q h => by cases h; exact ⟨rfl, rfl, by decide +kernel⟩
theorem ff_8_7 : zFF RX9 8 7 (.array .int) := fun q h => by cases h; exact ⟨rfl, rfl, by decide +kernel⟩
theorem ff_8_8 : zFF RX9 8 8 (.array .int) := fun q h => by cases h; exact ⟨rfl, rfl, by decide +kernel⟩
theorem ff_8_9 : zFF RX9 8 9 (.array .int) := fun q h => by cases h; exact ⟨rfl, rfl, by decide +kernel⟩
theorem ff_8_14 : zFF RX9 8 14 (.array .int) := fun q h => by cases h; exact ⟨rfl, rfl, by decide +kernel⟩
theorem ff_8_21 : zFF RX9 8 21 (.array .int) := fun q h => by cases h; exact ⟨rfl, rfl, by decide +kernel⟩
theorem ff_8_23 : zFF RX9 8 23 (.array .int) := fun q h => by cases h; exact ⟨rfl, rfl, by decide +kernel⟩
theorem ff_8_24 : zFF RX9 8 24 (.array .int) := fun q h => by cases h; exact ⟨rfl, rfl, by decide +kernel⟩
theorem ff_8_25 : zFF RX9 8 25 (.array .int) := fun q h => by cases h; exact ⟨rfl, rfl, by decide +kernel⟩
theorem ff_8_26 : zFF RX9 8 26 (.array .int) := fun q h => by cases h; exact ⟨rfl, rfl, by decide +kernel⟩
theorem dX7_init_0 : decode cX7_init 0 = .ok (.aload_n 0, 1) := by decide +kernel
theorem dX7_init_1 : decode cX7_init 1 = .ok (.invokespecial 1, 3) := by decide +kernel
theorem dX7_init_4 : decode cX7_init 4 = .ok (.aload_n 0, 1) := by decide +kernel
theorem dX7_init_5 : decode cX7_init 5 = .ok (.iconst (-1), 1) := by decide +kernel
theorem dX7_init_6 : decode cX7_init 6 = .ok (.putfield 9, 3) := by decide +kernel
theorem dX7_init_9 : decode cX7_init 9 = .ok (.aload_n 0, 1) := by decide +kernel
theorem dX7_init_10 : decode cX7_init 10 = .ok (.iload_n 1, 1) := by decide +kernel
theorem dX7_init_11 : decode cX7_init 11 = .ok (.newarray .int, 2) := by decide +kernel
theorem dX7_init_13 : decode cX7_init 13 = .ok (.putfield 13, 3) := by decide +kernel
theorem dX7_init_16 : decode cX7_init 16 = .ok (.return_, 1) := by decide +kernel
def eX7_init_1 (b n i : Nat) (w : zWd) (a : Int32) (N : Nat) (es : Nat → va_E) : Nat → va_E := va_up es i (.inr (6, [.null, .int (-1 : Int32)]))
def eX7_init_2 (b n i : Nat) (w : zWd) (a : Int32) (N : Nat) (es : Nat → va_E) : Nat → va_E := va_up (eX7_init_1 b n i w a N es) n (.inl (w.2.1 0, N, .inl (fun _ => 0)))
def eX7_init_3 (b n i : Nat) (w : zWd) (a : Int32) (N : Nat) (es : Nat → va_E) : Nat → va_E := va_up (eX7_init_2 b n i w a N es) i (.inr (6, [.ref (b + n), .int (-1 : Int32)]))
set_option maxRecDepth 100000 in
set_option maxHeartbeats 4000000 in
theorem ci_X7_init {w : zWd} {l0 : Launch} {b : Nat} {a : Int32} {N : Nat} {es : Nat → va_E} {n i : Nat} (hi : i < n) (he : es i = .inr (6, [.null, .int 0])) (ha : ¬ a < 0) (hN : a.toNatClampNeg = N) (hN2 : N ≤ 100000) : zNet w l0 yX7_init cX7_init 2 1 1 (0 + N) b [.ref (b + i), .int a] n es (n + 1) (eX7_init_3 b n i w a N es) := by
  refine zNet_of (by decide +kernel) rfl (Nat.le_of_ble_eq_true rfl) ?_
  intro p e s m below meth c ls hin hr C hl
  refine n_aload_n 0 C dX7_init_0 rfl (lv_at hl 0 rfl) ?_
  refine n_obj 1 C dX7_init_1 wm_X7_1 wOi wOc hl.1 (Nat.le_of_ble_eq_true rfl) (Nat.le_of_ble_eq_true rfl) ?_
  refine n_aload_n 4 C dX7_init_4 rfl (lv_at hl 0 rfl) ?_
  refine n_iconst 5 C (v := (-1 : Int32)) dX7_init_5 (by decide) ?_
  refine n_putN 6 C (fs := [.null, .int 0]) (v := .int (-1 : Int32)) dX7_init_6 fl_X7_9 fp_6_1 (by omega) he (Nat.le_of_ble_eq_true rfl) rfl rfl (es1 := (eX7_init_1 b n i w a N es)) rfl ?_
  refine n_aload_n 9 C dX7_init_9 rfl (lv_at hl 0 rfl) ?_
  refine n_iload_n 10 C dX7_init_10 rfl (lv_at hl 1 rfl) ?_
  refine n_newi 11 C (N := N) dX7_init_11 wArr ha hN hN2 rfl (Nat.le_of_ble_eq_true rfl) (Nat.le_refl _) (es1 := (eX7_init_2 b n i w a N es)) rfl ?_
  refine n_putF 13 C (fs := [.null, .int (-1 : Int32)]) (v := .ref (b + n)) hin dX7_init_13 fl_X7_13 ff_6_0 (by omega) (by exact (up_n (by omega)).trans (up_s)) (Nat.le_of_ble_eq_true rfl) rfl rfl (es1 := (eX7_init_3 b n i w a N es)) rfl ?_
  exact n_return 16 C hr dX7_init_16 rfl
theorem dX6_init_0 : decode cX6_init 0 = .ok (.aload_n 0, 1) := by decide +kernel
theorem dX6_init_1 : decode cX6_init 1 = .ok (.invokespecial 3, 3) := by decide +kernel
theorem dX6_init_4 : decode cX6_init 4 = .ok (.aload_n 0, 1) := by decide +kernel
theorem dX6_init_5 : decode cX6_init 5 = .ok (.bipush 6, 2) := by decide +kernel
theorem dX6_init_7 : decode cX6_init 7 = .ok (.newarray .int, 2) := by decide +kernel
theorem dX6_init_9 : decode cX6_init 9 = .ok (.putfield 9, 3) := by decide +kernel
theorem dX6_init_12 : decode cX6_init 12 = .ok (.aload_n 0, 1) := by decide +kernel
theorem dX6_init_13 : decode cX6_init 13 = .ok (.bipush 6, 2) := by decide +kernel
theorem dX6_init_15 : decode cX6_init 15 = .ok (.newarray .int, 2) := by decide +kernel
theorem dX6_init_17 : decode cX6_init 17 = .ok (.putfield 15, 3) := by decide +kernel
theorem dX6_init_20 : decode cX6_init 20 = .ok (.aload_n 0, 1) := by decide +kernel
theorem dX6_init_21 : decode cX6_init 21 = .ok (.bipush 6, 2) := by decide +kernel
theorem dX6_init_23 : decode cX6_init 23 = .ok (.newarray .int, 2) := by decide +kernel
theorem dX6_init_25 : decode cX6_init 25 = .ok (.putfield 18, 3) := by decide +kernel
theorem dX6_init_28 : decode cX6_init 28 = .ok (.aload_n 0, 1) := by decide +kernel
theorem dX6_init_29 : decode cX6_init 29 = .ok (.bipush 6, 2) := by decide +kernel
theorem dX6_init_31 : decode cX6_init 31 = .ok (.newarray .int, 2) := by decide +kernel
theorem dX6_init_33 : decode cX6_init 33 = .ok (.putfield 21, 3) := by decide +kernel
theorem dX6_init_36 : decode cX6_init 36 = .ok (.return_, 1) := by decide +kernel
def eX6_init_1 (b n i : Nat) (w : zWd) (es : Nat → va_E) : Nat → va_E := va_up es n (.inl (w.2.1 0, 6, .inl (fun _ => 0)))
def eX6_init_2 (b n i : Nat) (w : zWd) (es : Nat → va_E) : Nat → va_E := va_up (eX6_init_1 b n i w es) i (.inr (5, [.ref (b + n), .null, .null, .null, .int 0, .int 0, .int 0, .int 0]))
def eX6_init_3 (b n i : Nat) (w : zWd) (es : Nat → va_E) : Nat → va_E := va_up (eX6_init_2 b n i w es) (n + 1) (.inl (w.2.1 0, 6, .inl (fun _ => 0)))
def eX6_init_4 (b n i : Nat) (w : zWd) (es : Nat → va_E) : Nat → va_E := va_up (eX6_init_3 b n i w es) i (.inr (5, [.ref (b + n), .ref (b + (n + 1)), .null, .null, .int 0, .int 0, .int 0, .int 0]))
def eX6_init_5 (b n i : Nat) (w : zWd) (es : Nat → va_E) : Nat → va_E := va_up (eX6_init_4 b n i w es) (n + 2) (.inl (w.2.1 0, 6, .inl (fun _ => 0)))
def eX6_init_6 (b n i : Nat) (w : zWd) (es : Nat → va_E) : Nat → va_E := va_up (eX6_init_5 b n i w es) i (.inr (5, [.ref (b + n), .ref (b + (n + 1)), .ref (b + (n + 2)), .null, .int 0, .int 0, .int 0, .int 0]))
def eX6_init_7 (b n i : Nat) (w : zWd) (es : Nat → va_E) : Nat → va_E := va_up (eX6_init_6 b n i w es) (n + 3) (.inl (w.2.1 0, 6, .inl (fun _ => 0)))
def eX6_init_8 (b n i : Nat) (w : zWd) (es : Nat → va_E) : Nat → va_E := va_up (eX6_init_7 b n i w es) i (.inr (5, [.ref (b + n), .ref (b + (n + 1)), .ref (b + (n + 2)), .ref (b + (n + 3)), .int 0, .int 0, .int 0, .int 0]))
set_option maxRecDepth 100000 in
set_option maxHeartbeats 4000000 in
theorem ci_X6_init {w : zWd} {l0 : Launch} {b : Nat} {es : Nat → va_E} {n i : Nat} (hi : i < n) (he : es i = .inr (5, [.null, .null, .null, .null, .int 0, .int 0, .int 0, .int 0])) : zNet w l0 yX6_init cX6_init 1 1 4 (24) b [.ref (b + i)] n es (n + 4) (eX6_init_8 b n i w es) := by
  refine zNet_of (by decide +kernel) rfl (Nat.le_of_ble_eq_true rfl) ?_
  intro p e s m below meth c ls hin hr C hl
  refine n_aload_n 0 C dX6_init_0 rfl (lv_at hl 0 rfl) ?_
  refine n_obj 1 C dX6_init_1 wm_X6_3 wOi wOc hl.1 (Nat.le_of_ble_eq_true rfl) (Nat.le_of_ble_eq_true rfl) ?_
  refine n_aload_n 4 C dX6_init_4 rfl (lv_at hl 0 rfl) ?_
  refine n_bipush 5 C (v := (6 : Int32)) dX6_init_5 (by decide) ?_
  refine n_newi 7 C (N := 6) dX6_init_7 wArr (by decide) (by decide) (by decide) rfl (Nat.le_of_ble_eq_true rfl) (Nat.le_of_ble_eq_true rfl) (es1 := (eX6_init_1 b n i w es)) rfl ?_
  refine n_putF 9 C (fs := [.null, .null, .null, .null, .int 0, .int 0, .int 0, .int 0]) (v := .ref (b + n)) hin dX6_init_9 fl_X6_9 ff_5_0 (by omega) (by exact (up_n (by omega)).trans (he)) (Nat.le_of_ble_eq_true rfl) rfl rfl (es1 := (eX6_init_2 b n i w es)) rfl ?_
  refine n_aload_n 12 C dX6_init_12 rfl (lv_at hl 0 rfl) ?_
  refine n_bipush 13 C (v := (6 : Int32)) dX6_init_13 (by decide) ?_
  refine n_newi 15 C (N := 6) dX6_init_15 wArr (by decide) (by decide) (by decide) rfl (Nat.le_of_ble_eq_true rfl) (Nat.le_of_ble_eq_true rfl) (es1 := (eX6_init_3 b n i w es)) rfl ?_
  refine n_putF 17 C (fs := [.ref (b + n), .null, .null, .null, .int 0, .int 0, .int 0, .int 0]) (v := .ref (b + (n + 1))) hin dX6_init_17 fl_X6_15 ff_5_1 (by omega) (by exact (up_n (by omega)).trans (up_s)) (Nat.le_of_ble_eq_true rfl) rfl rfl (es1 := (eX6_init_4 b n i w es)) rfl ?_
  refine n_aload_n 20 C dX6_init_20 rfl (lv_at hl 0 rfl) ?_
  refine n_bipush 21 C (v := (6 : Int32)) dX6_init_21 (by decide) ?_
  refine n_newi 23 C (N := 6) dX6_init_23 wArr (by decide) (by decide) (by decide) rfl (Nat.le_of_ble_eq_true rfl) (Nat.le_of_ble_eq_true rfl) (es1 := (eX6_init_5 b n i w es)) rfl ?_
  refine n_putF 25 C (fs := [.ref (b + n), .ref (b + (n + 1)), .null, .null, .int 0, .int 0, .int 0, .int 0]) (v := .ref (b + (n + 2))) hin dX6_init_25 fl_X6_18 ff_5_2 (by omega) (by exact (up_n (by omega)).trans (up_s)) (Nat.le_of_ble_eq_true rfl) rfl rfl (es1 := (eX6_init_6 b n i w es)) rfl ?_
  refine n_aload_n 28 C dX6_init_28 rfl (lv_at hl 0 rfl) ?_
  refine n_bipush 29 C (v := (6 : Int32)) dX6_init_29 (by decide) ?_
  refine n_newi 31 C (N := 6) dX6_init_31 wArr (by decide) (by decide) (by decide) rfl (Nat.le_of_ble_eq_true rfl) (Nat.le_of_ble_eq_true rfl) (es1 := (eX6_init_7 b n i w es)) rfl ?_
  refine n_putF 33 C (fs := [.ref (b + n), .ref (b + (n + 1)), .ref (b + (n + 2)), .null, .int 0, .int 0, .int 0, .int 0]) (v := .ref (b + (n + 3))) hin dX6_init_33 fl_X6_21 ff_5_3 (by omega) (by exact (up_n (by omega)).trans (up_s)) (Nat.le_of_ble_eq_true rfl) rfl rfl (es1 := (eX6_init_8 b n i w es)) rfl ?_
  exact n_return 36 C hr dX6_init_36 rfl
theorem dX0_init_0 : decode cX0_init 0 = .ok (.aload_n 0, 1) := by decide +kernel
theorem dX0_init_1 : decode cX0_init 1 = .ok (.invokespecial 3, 3) := by decide +kernel
theorem dX0_init_4 : decode cX0_init 4 = .ok (.aload_n 0, 1) := by decide +kernel
theorem dX0_init_5 : decode cX0_init 5 = .ok (.bipush 10, 2) := by decide +kernel
theorem dX0_init_7 : decode cX0_init 7 = .ok (.newarray .int, 2) := by decide +kernel
theorem dX0_init_9 : decode cX0_init 9 = .ok (.putfield 9, 3) := by decide +kernel
theorem dX0_init_12 : decode cX0_init 12 = .ok (.return_, 1) := by decide +kernel
def eX0_init_1 (b n i : Nat) (w : zWd) (es : Nat → va_E) : Nat → va_E := va_up es n (.inl (w.2.1 0, 10, .inl (fun _ => 0)))
def eX0_init_2 (b n i : Nat) (w : zWd) (es : Nat → va_E) : Nat → va_E := va_up (eX0_init_1 b n i w es) i (.inr (0, [.ref (b + n)]))
set_option maxRecDepth 100000 in
set_option maxHeartbeats 4000000 in
theorem ci_X0_init {w : zWd} {l0 : Launch} {b : Nat} {es : Nat → va_E} {n i : Nat} (hi : i < n) (he : es i = .inr (0, [.null])) : zNet w l0 yX0_init cX0_init 1 1 1 (10) b [.ref (b + i)] n es (n + 1) (eX0_init_2 b n i w es) := by
  refine zNet_of (by decide +kernel) rfl (Nat.le_of_ble_eq_true rfl) ?_
  intro p e s m below meth c ls hin hr C hl
  refine n_aload_n 0 C dX0_init_0 rfl (lv_at hl 0 rfl) ?_
  refine n_obj 1 C dX0_init_1 wm_X0_3 wOi wOc hl.1 (Nat.le_of_ble_eq_true rfl) (Nat.le_of_ble_eq_true rfl) ?_
  refine n_aload_n 4 C dX0_init_4 rfl (lv_at hl 0 rfl) ?_
  refine n_bipush 5 C (v := (10 : Int32)) dX0_init_5 (by decide) ?_
  refine n_newi 7 C (N := 10) dX0_init_7 wArr (by decide) (by decide) (by decide) rfl (Nat.le_of_ble_eq_true rfl) (Nat.le_of_ble_eq_true rfl) (es1 := (eX0_init_1 b n i w es)) rfl ?_
  refine n_putF 9 C (fs := [.null]) (v := .ref (b + n)) hin dX0_init_9 fl_X0_9 ff_0_0 (by omega) (by exact (up_n (by omega)).trans (he)) (Nat.le_of_ble_eq_true rfl) rfl rfl (es1 := (eX0_init_2 b n i w es)) rfl ?_
  exact n_return 12 C hr dX0_init_12 rfl
theorem dX4_init_0 : decode cX4_init 0 = .ok (.aload_n 0, 1) := by decide +kernel
theorem dX4_init_1 : decode cX4_init 1 = .ok (.invokespecial 3, 3) := by decide +kernel
theorem dX4_init_4 : decode cX4_init 4 = .ok (.aload_n 0, 1) := by decide +kernel
theorem dX4_init_5 : decode cX4_init 5 = .ok (.bipush 6, 2) := by decide +kernel
theorem dX4_init_7 : decode cX4_init 7 = .ok (.newarray .int, 2) := by decide +kernel
theorem dX4_init_9 : decode cX4_init 9 = .ok (.putfield 9, 3) := by decide +kernel
theorem dX4_init_12 : decode cX4_init 12 = .ok (.aload_n 0, 1) := by decide +kernel
theorem dX4_init_13 : decode cX4_init 13 = .ok (.bipush 6, 2) := by decide +kernel
theorem dX4_init_15 : decode cX4_init 15 = .ok (.newarray .int, 2) := by decide +kernel
theorem dX4_init_17 : decode cX4_init 17 = .ok (.putfield 15, 3) := by decide +kernel
theorem dX4_init_20 : decode cX4_init 20 = .ok (.aload_n 0, 1) := by decide +kernel
theorem dX4_init_21 : decode cX4_init 21 = .ok (.bipush 40, 2) := by decide +kernel
theorem dX4_init_23 : decode cX4_init 23 = .ok (.newarray .int, 2) := by decide +kernel
theorem dX4_init_25 : decode cX4_init 25 = .ok (.putfield 18, 3) := by decide +kernel
theorem dX4_init_28 : decode cX4_init 28 = .ok (.aload_n 0, 1) := by decide +kernel
theorem dX4_init_29 : decode cX4_init 29 = .ok (.bipush 40, 2) := by decide +kernel
theorem dX4_init_31 : decode cX4_init 31 = .ok (.newarray .int, 2) := by decide +kernel
theorem dX4_init_33 : decode cX4_init 33 = .ok (.putfield 21, 3) := by decide +kernel
theorem dX4_init_36 : decode cX4_init 36 = .ok (.aload_n 0, 1) := by decide +kernel
theorem dX4_init_37 : decode cX4_init 37 = .ok (.aload_n 1, 1) := by decide +kernel
theorem dX4_init_38 : decode cX4_init 38 = .ok (.putfield 24, 3) := by decide +kernel
theorem dX4_init_41 : decode cX4_init 41 = .ok (.return_, 1) := by decide +kernel
def eX4_init_1 (b n i : Nat) (w : zWd) (r : Nat) (es : Nat → va_E) : Nat → va_E := va_up es n (.inl (w.2.1 0, 6, .inl (fun _ => 0)))
def eX4_init_2 (b n i : Nat) (w : zWd) (r : Nat) (es : Nat → va_E) : Nat → va_E := va_up (eX4_init_1 b n i w r es) i (.inr (3, [.null, .ref (b + n), .null, .null, .null, .int 0, .int 0, .int 0, .int 0, .int 0, .int 0, .int 0]))
def eX4_init_3 (b n i : Nat) (w : zWd) (r : Nat) (es : Nat → va_E) : Nat → va_E := va_up (eX4_init_2 b n i w r es) (n + 1) (.inl (w.2.1 0, 6, .inl (fun _ => 0)))
def eX4_init_4 (b n i : Nat) (w : zWd) (r : Nat) (es : Nat → va_E) : Nat → va_E := va_up (eX4_init_3 b n i w r es) i (.inr (3, [.null, .ref (b + n), .ref (b + (n + 1)), .null, .null, .int 0, .int 0, .int 0, .int 0, .int 0, .int 0, .int 0]))
def eX4_init_5 (b n i : Nat) (w : zWd) (r : Nat) (es : Nat → va_E) : Nat → va_E := va_up (eX4_init_4 b n i w r es) (n + 2) (.inl (w.2.1 0, 40, .inl (fun _ => 0)))
def eX4_init_6 (b n i : Nat) (w : zWd) (r : Nat) (es : Nat → va_E) : Nat → va_E := va_up (eX4_init_5 b n i w r es) i (.inr (3, [.null, .ref (b + n), .ref (b + (n + 1)), .ref (b + (n + 2)), .null, .int 0, .int 0, .int 0, .int 0, .int 0, .int 0, .int 0]))
def eX4_init_7 (b n i : Nat) (w : zWd) (r : Nat) (es : Nat → va_E) : Nat → va_E := va_up (eX4_init_6 b n i w r es) (n + 3) (.inl (w.2.1 0, 40, .inl (fun _ => 0)))
def eX4_init_8 (b n i : Nat) (w : zWd) (r : Nat) (es : Nat → va_E) : Nat → va_E := va_up (eX4_init_7 b n i w r es) i (.inr (3, [.null, .ref (b + n), .ref (b + (n + 1)), .ref (b + (n + 2)), .ref (b + (n + 3)), .int 0, .int 0, .int 0, .int 0, .int 0, .int 0, .int 0]))
def eX4_init_9 (b n i : Nat) (w : zWd) (r : Nat) (es : Nat → va_E) : Nat → va_E := va_up (eX4_init_8 b n i w r es) i (.inr (3, [.ref (r), .ref (b + n), .ref (b + (n + 1)), .ref (b + (n + 2)), .ref (b + (n + 3)), .int 0, .int 0, .int 0, .int 0, .int 0, .int 0, .int 0]))
set_option maxRecDepth 100000 in
set_option maxHeartbeats 4000000 in
theorem ci_X4_init {w : zWd} {l0 : Launch} {b : Nat} {r : Nat} {es : Nat → va_E} {n i : Nat} (hi : i < n) (he : es i = .inr (3, [.null, .null, .null, .null, .null, .int 0, .int 0, .int 0, .int 0, .int 0, .int 0, .int 0])) : zNet w l0 yX4_init cX4_init 2 1 4 (92) b [.ref (b + i), .ref r] n es (n + 4) (eX4_init_9 b n i w r es) := by
  refine zNet_of (by decide +kernel) rfl (Nat.le_of_ble_eq_true rfl) ?_
  intro p e s m below meth c ls hin hr C hl
  refine n_aload_n 0 C dX4_init_0 rfl (lv_at hl 0 rfl) ?_
  refine n_obj 1 C dX4_init_1 wm_X4_3 wOi wOc hl.1 (Nat.le_of_ble_eq_true rfl) (Nat.le_of_ble_eq_true rfl) ?_
  refine n_aload_n 4 C dX4_init_4 rfl (lv_at hl 0 rfl) ?_
  refine n_bipush 5 C (v := (6 : Int32)) dX4_init_5 (by decide) ?_
  refine n_newi 7 C (N := 6) dX4_init_7 wArr (by decide) (by decide) (by decide) rfl (Nat.le_of_ble_eq_true rfl) (Nat.le_of_ble_eq_true rfl) (es1 := (eX4_init_1 b n i w r es)) rfl ?_
  refine n_putF 9 C (fs := [.null, .null, .null, .null, .null, .int 0, .int 0, .int 0, .int 0, .int 0, .int 0, .int 0]) (v := .ref (b + n)) hin dX4_init_9 fl_X4_9 ff_3_1 (by omega) (by exact (up_n (by omega)).trans (he)) (Nat.le_of_ble_eq_true rfl) rfl rfl (es1 := (eX4_init_2 b n i w r es)) rfl ?_
  refine n_aload_n 12 C dX4_init_12 rfl (lv_at hl 0 rfl) ?_
  refine n_bipush 13 C (v := (6 : Int32)) dX4_init_13 (by decide) ?_
  refine n_newi 15 C (N := 6) dX4_init_15 wArr (by decide) (by decide) (by decide) rfl (Nat.le_of_ble_eq_true rfl) (Nat.le_of_ble_eq_true rfl) (es1 := (eX4_init_3 b n i w r es)) rfl ?_
  refine n_putF 17 C (fs := [.null, .ref (b + n), .null, .null, .null, .int 0, .int 0, .int 0, .int 0, .int 0, .int 0, .int 0]) (v := .ref (b + (n + 1))) hin dX4_init_17 fl_X4_15 ff_3_2 (by omega) (by exact (up_n (by omega)).trans (up_s)) (Nat.le_of_ble_eq_true rfl) rfl rfl (es1 := (eX4_init_4 b n i w r es)) rfl ?_
  refine n_aload_n 20 C dX4_init_20 rfl (lv_at hl 0 rfl) ?_
  refine n_bipush 21 C (v := (40 : Int32)) dX4_init_21 (by decide) ?_
  refine n_newi 23 C (N := 40) dX4_init_23 wArr (by decide) (by decide) (by decide) rfl (Nat.le_of_ble_eq_true rfl) (Nat.le_of_ble_eq_true rfl) (es1 := (eX4_init_5 b n i w r es)) rfl ?_
  refine n_putF 25 C (fs := [.null, .ref (b + n), .ref (b + (n + 1)), .null, .null, .int 0, .int 0, .int 0, .int 0, .int 0, .int 0, .int 0]) (v := .ref (b + (n + 2))) hin dX4_init_25 fl_X4_18 ff_3_3 (by omega) (by exact (up_n (by omega)).trans (up_s)) (Nat.le_of_ble_eq_true rfl) rfl rfl (es1 := (eX4_init_6 b n i w r es)) rfl ?_
  refine n_aload_n 28 C dX4_init_28 rfl (lv_at hl 0 rfl) ?_
  refine n_bipush 29 C (v := (40 : Int32)) dX4_init_29 (by decide) ?_
  refine n_newi 31 C (N := 40) dX4_init_31 wArr (by decide) (by decide) (by decide) rfl (Nat.le_of_ble_eq_true rfl) (Nat.le_of_ble_eq_true rfl) (es1 := (eX4_init_7 b n i w r es)) rfl ?_
  refine n_putF 33 C (fs := [.null, .ref (b + n), .ref (b + (n + 1)), .ref (b + (n + 2)), .null, .int 0, .int 0, .int 0, .int 0, .int 0, .int 0, .int 0]) (v := .ref (b + (n + 3))) hin dX4_init_33 fl_X4_21 ff_3_4 (by omega) (by exact (up_n (by omega)).trans (up_s)) (Nat.le_of_ble_eq_true rfl) rfl rfl (es1 := (eX4_init_8 b n i w r es)) rfl ?_
  refine n_aload_n 36 C dX4_init_36 rfl (lv_at hl 0 rfl) ?_
  refine n_aload_n 37 C dX4_init_37 rfl (lv_at hl 1 rfl) ?_
  refine n_putF 38 C (fs := [.null, .ref (b + n), .ref (b + (n + 1)), .ref (b + (n + 2)), .ref (b + (n + 3)), .int 0, .int 0, .int 0, .int 0, .int 0, .int 0, .int 0]) (v := .ref (r)) hin dX4_init_38 fl_X4_24 ff_3_0 (by omega) (by exact up_s) (Nat.le_of_ble_eq_true rfl) rfl rfl (es1 := (eX4_init_9 b n i w r es)) rfl ?_
  exact n_return 41 C hr dX4_init_41 rfl
theorem dX3_init_0 : decode cX3_init 0 = .ok (.aload_n 0, 1) := by decide +kernel
theorem dX3_init_1 : decode cX3_init 1 = .ok (.invokespecial 3, 3) := by decide +kernel
theorem dX3_init_4 : decode cX3_init 4 = .ok (.aload_n 0, 1) := by decide +kernel
theorem dX3_init_5 : decode cX3_init 5 = .ok (.bipush 6, 2) := by decide +kernel
theorem dX3_init_7 : decode cX3_init 7 = .ok (.newarray .int, 2) := by decide +kernel
theorem dX3_init_9 : decode cX3_init 9 = .ok (.putfield 9, 3) := by decide +kernel
theorem dX3_init_12 : decode cX3_init 12 = .ok (.aload_n 0, 1) := by decide +kernel
theorem dX3_init_13 : decode cX3_init 13 = .ok (.bipush 6, 2) := by decide +kernel
theorem dX3_init_15 : decode cX3_init 15 = .ok (.newarray .int, 2) := by decide +kernel
theorem dX3_init_17 : decode cX3_init 17 = .ok (.putfield 15, 3) := by decide +kernel
theorem dX3_init_20 : decode cX3_init 20 = .ok (.aload_n 0, 1) := by decide +kernel
theorem dX3_init_21 : decode cX3_init 21 = .ok (.aload_n 1, 1) := by decide +kernel
theorem dX3_init_22 : decode cX3_init 22 = .ok (.putfield 18, 3) := by decide +kernel
theorem dX3_init_25 : decode cX3_init 25 = .ok (.return_, 1) := by decide +kernel
def eX3_init_1 (b n i : Nat) (w : zWd) (r : Nat) (es : Nat → va_E) : Nat → va_E := va_up es n (.inl (w.2.1 0, 6, .inl (fun _ => 0)))
def eX3_init_2 (b n i : Nat) (w : zWd) (r : Nat) (es : Nat → va_E) : Nat → va_E := va_up (eX3_init_1 b n i w r es) i (.inr (2, [.null, .ref (b + n), .null, .int 0, .int 0, .int 0, .int 0]))
def eX3_init_3 (b n i : Nat) (w : zWd) (r : Nat) (es : Nat → va_E) : Nat → va_E := va_up (eX3_init_2 b n i w r es) (n + 1) (.inl (w.2.1 0, 6, .inl (fun _ => 0)))
def eX3_init_4 (b n i : Nat) (w : zWd) (r : Nat) (es : Nat → va_E) : Nat → va_E := va_up (eX3_init_3 b n i w r es) i (.inr (2, [.null, .ref (b + n), .ref (b + (n + 1)), .int 0, .int 0, .int 0, .int 0]))
def eX3_init_5 (b n i : Nat) (w : zWd) (r : Nat) (es : Nat → va_E) : Nat → va_E := va_up (eX3_init_4 b n i w r es) i (.inr (2, [.ref (r), .ref (b + n), .ref (b + (n + 1)), .int 0, .int 0, .int 0, .int 0]))
set_option maxRecDepth 100000 in
set_option maxHeartbeats 4000000 in
theorem ci_X3_init {w : zWd} {l0 : Launch} {b : Nat} {r : Nat} {es : Nat → va_E} {n i : Nat} (hi : i < n) (he : es i = .inr (2, [.null, .null, .null, .int 0, .int 0, .int 0, .int 0])) : zNet w l0 yX3_init cX3_init 2 1 2 (12) b [.ref (b + i), .ref r] n es (n + 2) (eX3_init_5 b n i w r es) := by
  refine zNet_of (by decide +kernel) rfl (Nat.le_of_ble_eq_true rfl) ?_
  intro p e s m below meth c ls hin hr C hl
  refine n_aload_n 0 C dX3_init_0 rfl (lv_at hl 0 rfl) ?_
  refine n_obj 1 C dX3_init_1 wm_X3_3 wOi wOc hl.1 (Nat.le_of_ble_eq_true rfl) (Nat.le_of_ble_eq_true rfl) ?_
  refine n_aload_n 4 C dX3_init_4 rfl (lv_at hl 0 rfl) ?_
  refine n_bipush 5 C (v := (6 : Int32)) dX3_init_5 (by decide) ?_
  refine n_newi 7 C (N := 6) dX3_init_7 wArr (by decide) (by decide) (by decide) rfl (Nat.le_of_ble_eq_true rfl) (Nat.le_of_ble_eq_true rfl) (es1 := (eX3_init_1 b n i w r es)) rfl ?_
  refine n_putF 9 C (fs := [.null, .null, .null, .int 0, .int 0, .int 0, .int 0]) (v := .ref (b + n)) hin dX3_init_9 fl_X3_9 ff_2_1 (by omega) (by exact (up_n (by omega)).trans (he)) (Nat.le_of_ble_eq_true rfl) rfl rfl (es1 := (eX3_init_2 b n i w r es)) rfl ?_
  refine n_aload_n 12 C dX3_init_12 rfl (lv_at hl 0 rfl) ?_
  refine n_bipush 13 C (v := (6 : Int32)) dX3_init_13 (by decide) ?_
  refine n_newi 15 C (N := 6) dX3_init_15 wArr (by decide) (by decide) (by decide) rfl (Nat.le_of_ble_eq_true rfl) (Nat.le_of_ble_eq_true rfl) (es1 := (eX3_init_3 b n i w r es)) rfl ?_
  refine n_putF 17 C (fs := [.null, .ref (b + n), .null, .int 0, .int 0, .int 0, .int 0]) (v := .ref (b + (n + 1))) hin dX3_init_17 fl_X3_15 ff_2_2 (by omega) (by exact (up_n (by omega)).trans (up_s)) (Nat.le_of_ble_eq_true rfl) rfl rfl (es1 := (eX3_init_4 b n i w r es)) rfl ?_
  refine n_aload_n 20 C dX3_init_20 rfl (lv_at hl 0 rfl) ?_
  refine n_aload_n 21 C dX3_init_21 rfl (lv_at hl 1 rfl) ?_
  refine n_putF 22 C (fs := [.null, .ref (b + n), .ref (b + (n + 1)), .int 0, .int 0, .int 0, .int 0]) (v := .ref (r)) hin dX3_init_22 fl_X3_18 ff_2_0 (by omega) (by exact up_s) (Nat.le_of_ble_eq_true rfl) rfl rfl (es1 := (eX3_init_5 b n i w r es)) rfl ?_
  exact n_return 25 C hr dX3_init_25 rfl
theorem dX2_init_0 : decode cX2_init 0 = .ok (.aload_n 0, 1) := by decide +kernel
theorem dX2_init_1 : decode cX2_init 1 = .ok (.invokespecial 3, 3) := by decide +kernel
theorem dX2_init_4 : decode cX2_init 4 = .ok (.aload_n 0, 1) := by decide +kernel
theorem dX2_init_5 : decode cX2_init 5 = .ok (.bipush 6, 2) := by decide +kernel
theorem dX2_init_7 : decode cX2_init 7 = .ok (.newarray .int, 2) := by decide +kernel
theorem dX2_init_9 : decode cX2_init 9 = .ok (.putfield 9, 3) := by decide +kernel
theorem dX2_init_12 : decode cX2_init 12 = .ok (.aload_n 0, 1) := by decide +kernel
theorem dX2_init_13 : decode cX2_init 13 = .ok (.aload_n 1, 1) := by decide +kernel
theorem dX2_init_14 : decode cX2_init 14 = .ok (.putfield 15, 3) := by decide +kernel
theorem dX2_init_17 : decode cX2_init 17 = .ok (.return_, 1) := by decide +kernel
def eX2_init_1 (b n i : Nat) (w : zWd) (r : Nat) (es : Nat → va_E) : Nat → va_E := va_up es n (.inl (w.2.1 0, 6, .inl (fun _ => 0)))
def eX2_init_2 (b n i : Nat) (w : zWd) (r : Nat) (es : Nat → va_E) : Nat → va_E := va_up (eX2_init_1 b n i w r es) i (.inr (1, [.null, .ref (b + n), .int 0, .int 0, .int 0, .int 0, .long 0, .long 0, .long 0]))
def eX2_init_3 (b n i : Nat) (w : zWd) (r : Nat) (es : Nat → va_E) : Nat → va_E := va_up (eX2_init_2 b n i w r es) i (.inr (1, [.ref (r), .ref (b + n), .int 0, .int 0, .int 0, .int 0, .long 0, .long 0, .long 0]))
set_option maxRecDepth 100000 in
set_option maxHeartbeats 4000000 in
theorem ci_X2_init {w : zWd} {l0 : Launch} {b : Nat} {r : Nat} {es : Nat → va_E} {n i : Nat} (hi : i < n) (he : es i = .inr (1, [.null, .null, .int 0, .int 0, .int 0, .int 0, .long 0, .long 0, .long 0])) : zNet w l0 yX2_init cX2_init 2 1 1 (6) b [.ref (b + i), .ref r] n es (n + 1) (eX2_init_3 b n i w r es) := by
  refine zNet_of (by decide +kernel) rfl (Nat.le_of_ble_eq_true rfl) ?_
  intro p e s m below meth c ls hin hr C hl
  refine n_aload_n 0 C dX2_init_0 rfl (lv_at hl 0 rfl) ?_
  refine n_obj 1 C dX2_init_1 wm_X2_3 wOi wOc hl.1 (Nat.le_of_ble_eq_true rfl) (Nat.le_of_ble_eq_true rfl) ?_
  refine n_aload_n 4 C dX2_init_4 rfl (lv_at hl 0 rfl) ?_
  refine n_bipush 5 C (v := (6 : Int32)) dX2_init_5 (by decide) ?_
  refine n_newi 7 C (N := 6) dX2_init_7 wArr (by decide) (by decide) (by decide) rfl (Nat.le_of_ble_eq_true rfl) (Nat.le_of_ble_eq_true rfl) (es1 := (eX2_init_1 b n i w r es)) rfl ?_
  refine n_putF 9 C (fs := [.null, .null, .int 0, .int 0, .int 0, .int 0, .long 0, .long 0, .long 0]) (v := .ref (b + n)) hin dX2_init_9 fl_X2_9 ff_1_1 (by omega) (by exact (up_n (by omega)).trans (he)) (Nat.le_of_ble_eq_true rfl) rfl rfl (es1 := (eX2_init_2 b n i w r es)) rfl ?_
  refine n_aload_n 12 C dX2_init_12 rfl (lv_at hl 0 rfl) ?_
  refine n_aload_n 13 C dX2_init_13 rfl (lv_at hl 1 rfl) ?_
  refine n_putF 14 C (fs := [.null, .ref (b + n), .int 0, .int 0, .int 0, .int 0, .long 0, .long 0, .long 0]) (v := .ref (r)) hin dX2_init_14 fl_X2_15 ff_1_0 (by omega) (by exact up_s) (Nat.le_of_ble_eq_true rfl) rfl rfl (es1 := (eX2_init_3 b n i w r es)) rfl ?_
  exact n_return 17 C hr dX2_init_17 rfl
theorem dX5_init_0 : decode cX5_init 0 = .ok (.aload_n 0, 1) := by decide +kernel
theorem dX5_init_1 : decode cX5_init 1 = .ok (.invokespecial 3, 3) := by decide +kernel
theorem dX5_init_4 : decode cX5_init 4 = .ok (.aload_n 0, 1) := by decide +kernel
theorem dX5_init_5 : decode cX5_init 5 = .ok (.new 9, 3) := by decide +kernel
theorem dX5_init_8 : decode cX5_init 8 = .ok (.dup, 1) := by decide +kernel
theorem dX5_init_9 : decode cX5_init 9 = .ok (.invokespecial 11, 3) := by decide +kernel
theorem dX5_init_12 : decode cX5_init 12 = .ok (.putfield 12, 3) := by decide +kernel
theorem dX5_init_15 : decode cX5_init 15 = .ok (.return_, 1) := by decide +kernel
def eX5_init_1 (b n i : Nat) (w : zWd) (es : Nat → va_E) : Nat → va_E := va_up es n (.inr (5, [.null, .null, .null, .null, .int 0, .int 0, .int 0, .int 0]))
def eX5_init_2 (b n i : Nat) (w : zWd) (es : Nat → va_E) : Nat → va_E := (eX6_init_8 b (n + 1) n w  (eX5_init_1 b n i w es))
def eX5_init_3 (b n i : Nat) (w : zWd) (es : Nat → va_E) : Nat → va_E := va_up (eX5_init_2 b n i w es) i (.inr (4, [.ref (b + n)]))
set_option maxRecDepth 100000 in
set_option maxHeartbeats 4000000 in
theorem ci_X5_init {w : zWd} {l0 : Launch} {b : Nat} {es : Nat → va_E} {n i : Nat} (hi : i < n) (he : es i = .inr (4, [.null])) : zNet w l0 yX5_init cX5_init 1 2 5 (32) b [.ref (b + i)] n es (n + 5) (eX5_init_3 b n i w es) := by
  refine zNet_of (by decide +kernel) rfl (Nat.le_of_ble_eq_true rfl) ?_
  intro p e s m below meth c ls hin hr C hl
  refine n_aload_n 0 C dX5_init_0 rfl (lv_at hl 0 rfl) ?_
  refine n_obj 1 C dX5_init_1 wm_X5_3 wOi wOc hl.1 (Nat.le_of_ble_eq_true rfl) (Nat.le_of_ble_eq_true rfl) ?_
  refine n_aload_n 4 C dX5_init_4 rfl (lv_at hl 0 rfl) ?_
  refine n_new 5 C (ci := 5) (N := 8) (fs := [.null, .null, .null, .null, .int 0, .int 0, .int 0, .int 0]) dX5_init_5 rfl rfl wc_X5_9 wi_X6 wt_X6 tyX6 tyX6_ok fd_X6 rfl (Nat.le_of_ble_eq_true rfl) (Nat.le_of_ble_eq_true rfl) (es1 := (eX5_init_1 b n i w es)) rfl ?_
  refine n_dup 8 C dX5_init_8 rfl ?_
  refine n_ctorIN 9 C (i := n) (es1 := (eX5_init_2 b n i w es)) [.ref (b + n), .ref (b + i)] dX5_init_9 (fun _ h => h.1.1) ⟨hyb_X6_init, hyi_X6_init_i⟩ rfl (ci_X6_init (by omega) ((by exact up_s))) ⟨Nat.le_of_ble_eq_true rfl, Nat.le_of_ble_eq_true rfl⟩ rfl hl.1 (Nat.le_of_ble_eq_true rfl) rfl rfl ⟨Nat.le_of_ble_eq_true rfl, Nat.le_of_ble_eq_true rfl⟩ ?_
  refine n_putF 12 C (fs := [.null]) (v := .ref (b + n)) hin dX5_init_12 fl_X5_12 ff_4_0 (by omega) (by exact (up_n (by omega)).trans ((up_n (by omega)).trans ((up_n (by omega)).trans ((up_n (by omega)).trans ((up_n (by omega)).trans ((up_n (by omega)).trans ((up_n (by omega)).trans ((up_n (by omega)).trans ((up_n (by omega)).trans (he)))))))))) (Nat.le_of_ble_eq_true rfl) rfl rfl (es1 := (eX5_init_3 b n i w es)) rfl ?_
  exact n_return 15 C hr dX5_init_15 rfl
theorem dX8_init_0 : decode cX8_init 0 = .ok (.aload_n 0, 1) := by decide +kernel
theorem dX8_init_1 : decode cX8_init 1 = .ok (.invokespecial 1, 3) := by decide +kernel
theorem dX8_init_4 : decode cX8_init 4 = .ok (.aload_n 0, 1) := by decide +kernel
theorem dX8_init_5 : decode cX8_init 5 = .ok (.bipush 6, 2) := by decide +kernel
theorem dX8_init_7 : decode cX8_init 7 = .ok (.anewarray 9, 3) := by decide +kernel
theorem dX8_init_10 : decode cX8_init 10 = .ok (.putfield 11, 3) := by decide +kernel
theorem dX8_init_13 : decode cX8_init 13 = .ok (.aload_n 0, 1) := by decide +kernel
theorem dX8_init_14 : decode cX8_init 14 = .ok (.iconst 4, 1) := by decide +kernel
theorem dX8_init_15 : decode cX8_init 15 = .ok (.anewarray 9, 3) := by decide +kernel
theorem dX8_init_18 : decode cX8_init 18 = .ok (.putfield 15, 3) := by decide +kernel
theorem dX8_init_21 : decode cX8_init 21 = .ok (.aload_n 0, 1) := by decide +kernel
theorem dX8_init_22 : decode cX8_init 22 = .ok (.new 18, 3) := by decide +kernel
theorem dX8_init_25 : decode cX8_init 25 = .ok (.dup, 1) := by decide +kernel
theorem dX8_init_26 : decode cX8_init 26 = .ok (.invokespecial 20, 3) := by decide +kernel
theorem dX8_init_29 : decode cX8_init 29 = .ok (.putfield 21, 3) := by decide +kernel
theorem dX8_init_32 : decode cX8_init 32 = .ok (.aload_n 0, 1) := by decide +kernel
theorem dX8_init_33 : decode cX8_init 33 = .ok (.new 25, 3) := by decide +kernel
theorem dX8_init_36 : decode cX8_init 36 = .ok (.dup, 1) := by decide +kernel
theorem dX8_init_37 : decode cX8_init 37 = .ok (.invokespecial 27, 3) := by decide +kernel
theorem dX8_init_40 : decode cX8_init 40 = .ok (.putfield 28, 3) := by decide +kernel
theorem dX8_init_43 : decode cX8_init 43 = .ok (.aload_n 0, 1) := by decide +kernel
theorem dX8_init_44 : decode cX8_init 44 = .ok (.new 32, 3) := by decide +kernel
theorem dX8_init_47 : decode cX8_init 47 = .ok (.dup, 1) := by decide +kernel
theorem dX8_init_48 : decode cX8_init 48 = .ok (.aload_n 0, 1) := by decide +kernel
theorem dX8_init_49 : decode cX8_init 49 = .ok (.getfield 21, 3) := by decide +kernel
theorem dX8_init_52 : decode cX8_init 52 = .ok (.invokespecial 34, 3) := by decide +kernel
theorem dX8_init_55 : decode cX8_init 55 = .ok (.putfield 37, 3) := by decide +kernel
theorem dX8_init_58 : decode cX8_init 58 = .ok (.aload_n 0, 1) := by decide +kernel
theorem dX8_init_59 : decode cX8_init 59 = .ok (.new 32, 3) := by decide +kernel
theorem dX8_init_62 : decode cX8_init 62 = .ok (.dup, 1) := by decide +kernel
theorem dX8_init_63 : decode cX8_init 63 = .ok (.aload_n 0, 1) := by decide +kernel
theorem dX8_init_64 : decode cX8_init 64 = .ok (.getfield 21, 3) := by decide +kernel
theorem dX8_init_67 : decode cX8_init 67 = .ok (.invokespecial 34, 3) := by decide +kernel
theorem dX8_init_70 : decode cX8_init 70 = .ok (.putfield 41, 3) := by decide +kernel
theorem dX8_init_73 : decode cX8_init 73 = .ok (.aload_n 0, 1) := by decide +kernel
theorem dX8_init_74 : decode cX8_init 74 = .ok (.iconst 3, 1) := by decide +kernel
theorem dX8_init_75 : decode cX8_init 75 = .ok (.anewarray 32, 3) := by decide +kernel
theorem dX8_init_78 : decode cX8_init 78 = .ok (.putfield 44, 3) := by decide +kernel
theorem dX8_init_81 : decode cX8_init 81 = .ok (.aload_n 0, 1) := by decide +kernel
theorem dX8_init_82 : decode cX8_init 82 = .ok (.new 48, 3) := by decide +kernel
theorem dX8_init_85 : decode cX8_init 85 = .ok (.dup, 1) := by decide +kernel
theorem dX8_init_86 : decode cX8_init 86 = .ok (.aload_n 0, 1) := by decide +kernel
theorem dX8_init_87 : decode cX8_init 87 = .ok (.getfield 21, 3) := by decide +kernel
theorem dX8_init_90 : decode cX8_init 90 = .ok (.invokespecial 50, 3) := by decide +kernel
theorem dX8_init_93 : decode cX8_init 93 = .ok (.putfield 51, 3) := by decide +kernel
theorem dX8_init_96 : decode cX8_init 96 = .ok (.aload_n 0, 1) := by decide +kernel
theorem dX8_init_97 : decode cX8_init 97 = .ok (.new 55, 3) := by decide +kernel
theorem dX8_init_100 : decode cX8_init 100 = .ok (.dup, 1) := by decide +kernel
theorem dX8_init_101 : decode cX8_init 101 = .ok (.aload_n 0, 1) := by decide +kernel
theorem dX8_init_102 : decode cX8_init 102 = .ok (.getfield 21, 3) := by decide +kernel
theorem dX8_init_105 : decode cX8_init 105 = .ok (.invokespecial 57, 3) := by decide +kernel
theorem dX8_init_108 : decode cX8_init 108 = .ok (.putfield 58, 3) := by decide +kernel
theorem dX8_init_111 : decode cX8_init 111 = .ok (.aload_n 0, 1) := by decide +kernel
theorem dX8_init_112 : decode cX8_init 112 = .ok (.new 62, 3) := by decide +kernel
theorem dX8_init_115 : decode cX8_init 115 = .ok (.dup, 1) := by decide +kernel
theorem dX8_init_116 : decode cX8_init 116 = .ok (.invokespecial 64, 3) := by decide +kernel
theorem dX8_init_119 : decode cX8_init 119 = .ok (.putfield 65, 3) := by decide +kernel
theorem dX8_init_122 : decode cX8_init 122 = .ok (.aload_n 0, 1) := by decide +kernel
theorem dX8_init_123 : decode cX8_init 123 = .ok (.bipush 6, 2) := by decide +kernel
theorem dX8_init_125 : decode cX8_init 125 = .ok (.newarray .int, 2) := by decide +kernel
theorem dX8_init_127 : decode cX8_init 127 = .ok (.putfield 69, 3) := by decide +kernel
theorem dX8_init_130 : decode cX8_init 130 = .ok (.aload_n 0, 1) := by decide +kernel
theorem dX8_init_131 : decode cX8_init 131 = .ok (.lconst 1, 1) := by decide +kernel
theorem dX8_init_132 : decode cX8_init 132 = .ok (.putfield 73, 3) := by decide +kernel
theorem dX8_init_135 : decode cX8_init 135 = .ok (.iconst 0, 1) := by decide +kernel
theorem dX8_init_136 : decode cX8_init 136 = .ok (.istore_n 1, 1) := by decide +kernel
theorem dX8_init_137 : decode cX8_init 137 = .ok (.iload_n 1, 1) := by decide +kernel
theorem dX8_init_138 : decode cX8_init 138 = .ok (.bipush 6, 2) := by decide +kernel
theorem dX8_init_140 : decode cX8_init 140 = .ok (.if_icmp .ge 24, 3) := by decide +kernel
theorem dX8_init_143 : decode cX8_init 143 = .ok (.aload_n 0, 1) := by decide +kernel
theorem dX8_init_144 : decode cX8_init 144 = .ok (.getfield 11, 3) := by decide +kernel
theorem dX8_init_147 : decode cX8_init 147 = .ok (.iload_n 1, 1) := by decide +kernel
theorem dX8_init_148 : decode cX8_init 148 = .ok (.new 9, 3) := by decide +kernel
theorem dX8_init_151 : decode cX8_init 151 = .ok (.dup, 1) := by decide +kernel
theorem dX8_init_152 : decode cX8_init 152 = .ok (.bipush 40, 2) := by decide +kernel
theorem dX8_init_154 : decode cX8_init 154 = .ok (.invokespecial 77, 3) := by decide +kernel
theorem dX8_init_157 : decode cX8_init 157 = .ok (.aastore, 1) := by decide +kernel
theorem dX8_init_158 : decode cX8_init 158 = .ok (.iinc 1 1, 3) := by decide +kernel
theorem dX8_init_161 : decode cX8_init 161 = .ok (.goto (-24), 3) := by decide +kernel
theorem dX8_init_164 : decode cX8_init 164 = .ok (.iconst 0, 1) := by decide +kernel
theorem dX8_init_165 : decode cX8_init 165 = .ok (.istore_n 1, 1) := by decide +kernel
theorem dX8_init_166 : decode cX8_init 166 = .ok (.iload_n 1, 1) := by decide +kernel
theorem dX8_init_167 : decode cX8_init 167 = .ok (.iconst 4, 1) := by decide +kernel
theorem dX8_init_168 : decode cX8_init 168 = .ok (.if_icmp .ge 24, 3) := by decide +kernel
theorem dX8_init_171 : decode cX8_init 171 = .ok (.aload_n 0, 1) := by decide +kernel
theorem dX8_init_172 : decode cX8_init 172 = .ok (.getfield 15, 3) := by decide +kernel
theorem dX8_init_175 : decode cX8_init 175 = .ok (.iload_n 1, 1) := by decide +kernel
theorem dX8_init_176 : decode cX8_init 176 = .ok (.new 9, 3) := by decide +kernel
theorem dX8_init_179 : decode cX8_init 179 = .ok (.dup, 1) := by decide +kernel
theorem dX8_init_180 : decode cX8_init 180 = .ok (.bipush 60, 2) := by decide +kernel
theorem dX8_init_182 : decode cX8_init 182 = .ok (.invokespecial 77, 3) := by decide +kernel
theorem dX8_init_185 : decode cX8_init 185 = .ok (.aastore, 1) := by decide +kernel
theorem dX8_init_186 : decode cX8_init 186 = .ok (.iinc 1 1, 3) := by decide +kernel
theorem dX8_init_189 : decode cX8_init 189 = .ok (.goto (-23), 3) := by decide +kernel
theorem dX8_init_192 : decode cX8_init 192 = .ok (.iconst 0, 1) := by decide +kernel
theorem dX8_init_193 : decode cX8_init 193 = .ok (.istore_n 1, 1) := by decide +kernel
theorem dX8_init_194 : decode cX8_init 194 = .ok (.iload_n 1, 1) := by decide +kernel
theorem dX8_init_195 : decode cX8_init 195 = .ok (.iconst 3, 1) := by decide +kernel
theorem dX8_init_196 : decode cX8_init 196 = .ok (.if_icmp .ge 26, 3) := by decide +kernel
theorem dX8_init_199 : decode cX8_init 199 = .ok (.aload_n 0, 1) := by decide +kernel
theorem dX8_init_200 : decode cX8_init 200 = .ok (.getfield 44, 3) := by decide +kernel
theorem dX8_init_203 : decode cX8_init 203 = .ok (.iload_n 1, 1) := by decide +kernel
theorem dX8_init_204 : decode cX8_init 204 = .ok (.new 32, 3) := by decide +kernel
theorem dX8_init_207 : decode cX8_init 207 = .ok (.dup, 1) := by decide +kernel
theorem dX8_init_208 : decode cX8_init 208 = .ok (.aload_n 0, 1) := by decide +kernel
theorem dX8_init_209 : decode cX8_init 209 = .ok (.getfield 21, 3) := by decide +kernel
theorem dX8_init_212 : decode cX8_init 212 = .ok (.invokespecial 34, 3) := by decide +kernel
theorem dX8_init_215 : decode cX8_init 215 = .ok (.aastore, 1) := by decide +kernel
theorem dX8_init_216 : decode cX8_init 216 = .ok (.iinc 1 1, 3) := by decide +kernel
theorem dX8_init_219 : decode cX8_init 219 = .ok (.goto (-25), 3) := by decide +kernel
theorem dX8_init_222 : decode cX8_init 222 = .ok (.return_, 1) := by decide +kernel
def eX8_init_1 (b : Nat) (w : zWd) (es : Nat → va_E) : Nat → va_E := va_up es 1 (.inl (w.2.1 1, 6, .inr (.inr (.inr (.inr (fun _ => none))))))
def eX8_init_2 (b : Nat) (w : zWd) (es : Nat → va_E) : Nat → va_E := va_up (eX8_init_1 b w es) 0 (.inr (7, [.ref (b + 1), .null, .null, .null, .null, .null, .null, .null, .null, .null, .null, .int 0, .int 0, .long 0, .long 0]))
def eX8_init_3 (b : Nat) (w : zWd) (es : Nat → va_E) : Nat → va_E := va_up (eX8_init_2 b w es) 2 (.inl (w.2.1 1, 4, .inr (.inr (.inr (.inr (fun _ => none))))))
def eX8_init_4 (b : Nat) (w : zWd) (es : Nat → va_E) : Nat → va_E := va_up (eX8_init_3 b w es) 0 (.inr (7, [.ref (b + 1), .ref (b + 2), .null, .null, .null, .null, .null, .null, .null, .null, .null, .int 0, .int 0, .long 0, .long 0]))
def eX8_init_5 (b : Nat) (w : zWd) (es : Nat → va_E) : Nat → va_E := va_up (eX8_init_4 b w es) 3 (.inr (5, [.null, .null, .null, .null, .int 0, .int 0, .int 0, .int 0]))
def eX8_init_6 (b : Nat) (w : zWd) (es : Nat → va_E) : Nat → va_E := (eX6_init_8 b 4 3 w  (eX8_init_5 b w es))
def eX8_init_7 (b : Nat) (w : zWd) (es : Nat → va_E) : Nat → va_E := va_up (eX8_init_6 b w es) 0 (.inr (7, [.ref (b + 1), .ref (b + 2), .ref (b + 3), .null, .null, .null, .null, .null, .null, .null, .null, .int 0, .int 0, .long 0, .long 0]))
def eX8_init_8 (b : Nat) (w : zWd) (es : Nat → va_E) : Nat → va_E := va_up (eX8_init_7 b w es) 8 (.inr (4, [.null]))
def eX8_init_9 (b : Nat) (w : zWd) (es : Nat → va_E) : Nat → va_E := (eX5_init_3 b 9 8 w  (eX8_init_8 b w es))
def eX8_init_10 (b : Nat) (w : zWd) (es : Nat → va_E) : Nat → va_E := va_up (eX8_init_9 b w es) 0 (.inr (7, [.ref (b + 1), .ref (b + 2), .ref (b + 3), .ref (b + 8), .null, .null, .null, .null, .null, .null, .null, .int 0, .int 0, .long 0, .long 0]))
def eX8_init_11 (b : Nat) (w : zWd) (es : Nat → va_E) : Nat → va_E := va_up (eX8_init_10 b w es) 14 (.inr (3, [.null, .null, .null, .null, .null, .int 0, .int 0, .int 0, .int 0, .int 0, .int 0, .int 0]))
def eX8_init_12 (b : Nat) (w : zWd) (es : Nat → va_E) : Nat → va_E := (eX4_init_9 b 15 14 w (b + 3) (eX8_init_11 b w es))
def eX8_init_13 (b : Nat) (w : zWd) (es : Nat → va_E) : Nat → va_E := va_up (eX8_init_12 b w es) 0 (.inr (7, [.ref (b + 1), .ref (b + 2), .ref (b + 3), .ref (b + 8), .ref (b + 14), .null, .null, .null, .null, .null, .null, .int 0, .int 0, .long 0, .long 0]))
def eX8_init_14 (b : Nat) (w : zWd) (es : Nat → va_E) : Nat → va_E := va_up (eX8_init_13 b w es) 19 (.inr (3, [.null, .null, .null, .null, .null, .int 0, .int 0, .int 0, .int 0, .int 0, .int 0, .int 0]))
def eX8_init_15 (b : Nat) (w : zWd) (es : Nat → va_E) : Nat → va_E := (eX4_init_9 b 20 19 w (b + 3) (eX8_init_14 b w es))
def eX8_init_16 (b : Nat) (w : zWd) (es : Nat → va_E) : Nat → va_E := va_up (eX8_init_15 b w es) 0 (.inr (7, [.ref (b + 1), .ref (b + 2), .ref (b + 3), .ref (b + 8), .ref (b + 14), .ref (b + 19), .null, .null, .null, .null, .null, .int 0, .int 0, .long 0, .long 0]))
def eX8_init_17 (b : Nat) (w : zWd) (es : Nat → va_E) : Nat → va_E := va_up (eX8_init_16 b w es) 24 (.inl (w.2.1 2, 3, .inr (.inr (.inr (.inr (fun _ => none))))))
def eX8_init_18 (b : Nat) (w : zWd) (es : Nat → va_E) : Nat → va_E := va_up (eX8_init_17 b w es) 0 (.inr (7, [.ref (b + 1), .ref (b + 2), .ref (b + 3), .ref (b + 8), .ref (b + 14), .ref (b + 19), .ref (b + 24), .null, .null, .null, .null, .int 0, .int 0, .long 0, .long 0]))
def eX8_init_19 (b : Nat) (w : zWd) (es : Nat → va_E) : Nat → va_E := va_up (eX8_init_18 b w es) 25 (.inr (2, [.null, .null, .null, .int 0, .int 0, .int 0, .int 0]))
def eX8_init_20 (b : Nat) (w : zWd) (es : Nat → va_E) : Nat → va_E := (eX3_init_5 b 26 25 w (b + 3) (eX8_init_19 b w es))
def eX8_init_21 (b : Nat) (w : zWd) (es : Nat → va_E) : Nat → va_E := va_up (eX8_init_20 b w es) 0 (.inr (7, [.ref (b + 1), .ref (b + 2), .ref (b + 3), .ref (b + 8), .ref (b + 14), .ref (b + 19), .ref (b + 24), .ref (b + 25), .null, .null, .null, .int 0, .int 0, .long 0, .long 0]))
def eX8_init_22 (b : Nat) (w : zWd) (es : Nat → va_E) : Nat → va_E := va_up (eX8_init_21 b w es) 28 (.inr (1, [.null, .null, .int 0, .int 0, .int 0, .int 0, .long 0, .long 0, .long 0]))
def eX8_init_23 (b : Nat) (w : zWd) (es : Nat → va_E) : Nat → va_E := (eX2_init_3 b 29 28 w (b + 3) (eX8_init_22 b w es))
def eX8_init_24 (b : Nat) (w : zWd) (es : Nat → va_E) : Nat → va_E := va_up (eX8_init_23 b w es) 0 (.inr (7, [.ref (b + 1), .ref (b + 2), .ref (b + 3), .ref (b + 8), .ref (b + 14), .ref (b + 19), .ref (b + 24), .ref (b + 25), .ref (b + 28), .null, .null, .int 0, .int 0, .long 0, .long 0]))
def eX8_init_25 (b : Nat) (w : zWd) (es : Nat → va_E) : Nat → va_E := va_up (eX8_init_24 b w es) 30 (.inr (0, [.null]))
def eX8_init_26 (b : Nat) (w : zWd) (es : Nat → va_E) : Nat → va_E := (eX0_init_2 b 31 30 w  (eX8_init_25 b w es))
def eX8_init_27 (b : Nat) (w : zWd) (es : Nat → va_E) : Nat → va_E := va_up (eX8_init_26 b w es) 0 (.inr (7, [.ref (b + 1), .ref (b + 2), .ref (b + 3), .ref (b + 8), .ref (b + 14), .ref (b + 19), .ref (b + 24), .ref (b + 25), .ref (b + 28), .ref (b + 30), .null, .int 0, .int 0, .long 0, .long 0]))
def eX8_init_28 (b : Nat) (w : zWd) (es : Nat → va_E) : Nat → va_E := va_up (eX8_init_27 b w es) 32 (.inl (w.2.1 0, 6, .inl (fun _ => 0)))
def eX8_init_29 (b : Nat) (w : zWd) (es : Nat → va_E) : Nat → va_E := va_up (eX8_init_28 b w es) 0 (.inr (7, [.ref (b + 1), .ref (b + 2), .ref (b + 3), .ref (b + 8), .ref (b + 14), .ref (b + 19), .ref (b + 24), .ref (b + 25), .ref (b + 28), .ref (b + 30), .ref (b + 32), .int 0, .int 0, .long 0, .long 0]))
def eX8_init_30 (b : Nat) (w : zWd) (es : Nat → va_E) : Nat → va_E := va_up (eX8_init_29 b w es) 0 (.inr (7, [.ref (b + 1), .ref (b + 2), .ref (b + 3), .ref (b + 8), .ref (b + 14), .ref (b + 19), .ref (b + 24), .ref (b + 25), .ref (b + 28), .ref (b + 30), .ref (b + 32), .int 0, .int 0, .long 0, .long (1 : Int64)]))
def eX8_init_31 (b : Nat) (w : zWd) (es : Nat → va_E) : Nat → va_E := va_up (eX8_init_30 b w es) 33 (.inr (6, [.null, .int 0]))
def eX8_init_32 (b : Nat) (w : zWd) (es : Nat → va_E) : Nat → va_E := (eX7_init_3 b 34 33 w (40 : Int32) 40 (eX8_init_31 b w es))
def eX8_init_33 (b : Nat) (w : zWd) (es : Nat → va_E) : Nat → va_E := va_up (eX8_init_32 b w es) 1 (.inl (w.2.1 1, 6, .inr (.inr (.inr (.inr (va_up (fun _ => none) (Int32.toNatClampNeg (0 : Int32)) (some (b + 33))))))))
def eX8_init_34 (b : Nat) (w : zWd) (es : Nat → va_E) : Nat → va_E := va_up (eX8_init_33 b w es) 35 (.inr (6, [.null, .int 0]))
def eX8_init_35 (b : Nat) (w : zWd) (es : Nat → va_E) : Nat → va_E := (eX7_init_3 b 36 35 w (40 : Int32) 40 (eX8_init_34 b w es))
def eX8_init_36 (b : Nat) (w : zWd) (es : Nat → va_E) : Nat → va_E := va_up (eX8_init_35 b w es) 1 (.inl (w.2.1 1, 6, .inr (.inr (.inr (.inr (va_up (va_up (fun _ => none) (Int32.toNatClampNeg (0 : Int32)) (some (b + 33))) (Int32.toNatClampNeg (1 : Int32)) (some (b + 35))))))))
def eX8_init_37 (b : Nat) (w : zWd) (es : Nat → va_E) : Nat → va_E := va_up (eX8_init_36 b w es) 37 (.inr (6, [.null, .int 0]))
def eX8_init_38 (b : Nat) (w : zWd) (es : Nat → va_E) : Nat → va_E := (eX7_init_3 b 38 37 w (40 : Int32) 40 (eX8_init_37 b w es))
def eX8_init_39 (b : Nat) (w : zWd) (es : Nat → va_E) : Nat → va_E := va_up (eX8_init_38 b w es) 1 (.inl (w.2.1 1, 6, .inr (.inr (.inr (.inr (va_up (va_up (va_up (fun _ => none) (Int32.toNatClampNeg (0 : Int32)) (some (b + 33))) (Int32.toNatClampNeg (1 : Int32)) (some (b + 35))) (Int32.toNatClampNeg (2 : Int32)) (some (b + 37))))))))
def eX8_init_40 (b : Nat) (w : zWd) (es : Nat → va_E) : Nat → va_E := va_up (eX8_init_39 b w es) 39 (.inr (6, [.null, .int 0]))
def eX8_init_41 (b : Nat) (w : zWd) (es : Nat → va_E) : Nat → va_E := (eX7_init_3 b 40 39 w (40 : Int32) 40 (eX8_init_40 b w es))
def eX8_init_42 (b : Nat) (w : zWd) (es : Nat → va_E) : Nat → va_E := va_up (eX8_init_41 b w es) 1 (.inl (w.2.1 1, 6, .inr (.inr (.inr (.inr (va_up (va_up (va_up (va_up (fun _ => none) (Int32.toNatClampNeg (0 : Int32)) (some (b + 33))) (Int32.toNatClampNeg (1 : Int32)) (some (b + 35))) (Int32.toNatClampNeg (2 : Int32)) (some (b + 37))) (Int32.toNatClampNeg (3 : Int32)) (some (b + 39))))))))
def eX8_init_43 (b : Nat) (w : zWd) (es : Nat → va_E) : Nat → va_E := va_up (eX8_init_42 b w es) 41 (.inr (6, [.null, .int 0]))
def eX8_init_44 (b : Nat) (w : zWd) (es : Nat → va_E) : Nat → va_E := (eX7_init_3 b 42 41 w (40 : Int32) 40 (eX8_init_43 b w es))
def eX8_init_45 (b : Nat) (w : zWd) (es : Nat → va_E) : Nat → va_E := va_up (eX8_init_44 b w es) 1 (.inl (w.2.1 1, 6, .inr (.inr (.inr (.inr (va_up (va_up (va_up (va_up (va_up (fun _ => none) (Int32.toNatClampNeg (0 : Int32)) (some (b + 33))) (Int32.toNatClampNeg (1 : Int32)) (some (b + 35))) (Int32.toNatClampNeg (2 : Int32)) (some (b + 37))) (Int32.toNatClampNeg (3 : Int32)) (some (b + 39))) (Int32.toNatClampNeg (4 : Int32)) (some (b + 41))))))))
def eX8_init_46 (b : Nat) (w : zWd) (es : Nat → va_E) : Nat → va_E := va_up (eX8_init_45 b w es) 43 (.inr (6, [.null, .int 0]))
def eX8_init_47 (b : Nat) (w : zWd) (es : Nat → va_E) : Nat → va_E := (eX7_init_3 b 44 43 w (40 : Int32) 40 (eX8_init_46 b w es))
def eX8_init_48 (b : Nat) (w : zWd) (es : Nat → va_E) : Nat → va_E := va_up (eX8_init_47 b w es) 1 (.inl (w.2.1 1, 6, .inr (.inr (.inr (.inr (va_up (va_up (va_up (va_up (va_up (va_up (fun _ => none) (Int32.toNatClampNeg (0 : Int32)) (some (b + 33))) (Int32.toNatClampNeg (1 : Int32)) (some (b + 35))) (Int32.toNatClampNeg (2 : Int32)) (some (b + 37))) (Int32.toNatClampNeg (3 : Int32)) (some (b + 39))) (Int32.toNatClampNeg (4 : Int32)) (some (b + 41))) (Int32.toNatClampNeg (5 : Int32)) (some (b + 43))))))))
def eX8_init_49 (b : Nat) (w : zWd) (es : Nat → va_E) : Nat → va_E := va_up (eX8_init_48 b w es) 45 (.inr (6, [.null, .int 0]))
def eX8_init_50 (b : Nat) (w : zWd) (es : Nat → va_E) : Nat → va_E := (eX7_init_3 b 46 45 w (60 : Int32) 60 (eX8_init_49 b w es))
def eX8_init_51 (b : Nat) (w : zWd) (es : Nat → va_E) : Nat → va_E := va_up (eX8_init_50 b w es) 2 (.inl (w.2.1 1, 4, .inr (.inr (.inr (.inr (va_up (fun _ => none) (Int32.toNatClampNeg (0 : Int32)) (some (b + 45))))))))
def eX8_init_52 (b : Nat) (w : zWd) (es : Nat → va_E) : Nat → va_E := va_up (eX8_init_51 b w es) 47 (.inr (6, [.null, .int 0]))
def eX8_init_53 (b : Nat) (w : zWd) (es : Nat → va_E) : Nat → va_E := (eX7_init_3 b 48 47 w (60 : Int32) 60 (eX8_init_52 b w es))
def eX8_init_54 (b : Nat) (w : zWd) (es : Nat → va_E) : Nat → va_E := va_up (eX8_init_53 b w es) 2 (.inl (w.2.1 1, 4, .inr (.inr (.inr (.inr (va_up (va_up (fun _ => none) (Int32.toNatClampNeg (0 : Int32)) (some (b + 45))) (Int32.toNatClampNeg (1 : Int32)) (some (b + 47))))))))
def eX8_init_55 (b : Nat) (w : zWd) (es : Nat → va_E) : Nat → va_E := va_up (eX8_init_54 b w es) 49 (.inr (6, [.null, .int 0]))
def eX8_init_56 (b : Nat) (w : zWd) (es : Nat → va_E) : Nat → va_E := (eX7_init_3 b 50 49 w (60 : Int32) 60 (eX8_init_55 b w es))
def eX8_init_57 (b : Nat) (w : zWd) (es : Nat → va_E) : Nat → va_E := va_up (eX8_init_56 b w es) 2 (.inl (w.2.1 1, 4, .inr (.inr (.inr (.inr (va_up (va_up (va_up (fun _ => none) (Int32.toNatClampNeg (0 : Int32)) (some (b + 45))) (Int32.toNatClampNeg (1 : Int32)) (some (b + 47))) (Int32.toNatClampNeg (2 : Int32)) (some (b + 49))))))))
def eX8_init_58 (b : Nat) (w : zWd) (es : Nat → va_E) : Nat → va_E := va_up (eX8_init_57 b w es) 51 (.inr (6, [.null, .int 0]))
def eX8_init_59 (b : Nat) (w : zWd) (es : Nat → va_E) : Nat → va_E := (eX7_init_3 b 52 51 w (60 : Int32) 60 (eX8_init_58 b w es))
def eX8_init_60 (b : Nat) (w : zWd) (es : Nat → va_E) : Nat → va_E := va_up (eX8_init_59 b w es) 2 (.inl (w.2.1 1, 4, .inr (.inr (.inr (.inr (va_up (va_up (va_up (va_up (fun _ => none) (Int32.toNatClampNeg (0 : Int32)) (some (b + 45))) (Int32.toNatClampNeg (1 : Int32)) (some (b + 47))) (Int32.toNatClampNeg (2 : Int32)) (some (b + 49))) (Int32.toNatClampNeg (3 : Int32)) (some (b + 51))))))))
def eX8_init_61 (b : Nat) (w : zWd) (es : Nat → va_E) : Nat → va_E := va_up (eX8_init_60 b w es) 53 (.inr (3, [.null, .null, .null, .null, .null, .int 0, .int 0, .int 0, .int 0, .int 0, .int 0, .int 0]))
def eX8_init_62 (b : Nat) (w : zWd) (es : Nat → va_E) : Nat → va_E := (eX4_init_9 b 54 53 w (b + 3) (eX8_init_61 b w es))
def eX8_init_63 (b : Nat) (w : zWd) (es : Nat → va_E) : Nat → va_E := va_up (eX8_init_62 b w es) 24 (.inl (w.2.1 2, 3, .inr (.inr (.inr (.inr (va_up (fun _ => none) (Int32.toNatClampNeg (0 : Int32)) (some (b + 53))))))))
def eX8_init_64 (b : Nat) (w : zWd) (es : Nat → va_E) : Nat → va_E := va_up (eX8_init_63 b w es) 58 (.inr (3, [.null, .null, .null, .null, .null, .int 0, .int 0, .int 0, .int 0, .int 0, .int 0, .int 0]))
def eX8_init_65 (b : Nat) (w : zWd) (es : Nat → va_E) : Nat → va_E := (eX4_init_9 b 59 58 w (b + 3) (eX8_init_64 b w es))
def eX8_init_66 (b : Nat) (w : zWd) (es : Nat → va_E) : Nat → va_E := va_up (eX8_init_65 b w es) 24 (.inl (w.2.1 2, 3, .inr (.inr (.inr (.inr (va_up (va_up (fun _ => none) (Int32.toNatClampNeg (0 : Int32)) (some (b + 53))) (Int32.toNatClampNeg (1 : Int32)) (some (b + 58))))))))
def eX8_init_67 (b : Nat) (w : zWd) (es : Nat → va_E) : Nat → va_E := va_up (eX8_init_66 b w es) 63 (.inr (3, [.null, .null, .null, .null, .null, .int 0, .int 0, .int 0, .int 0, .int 0, .int 0, .int 0]))
def eX8_init_68 (b : Nat) (w : zWd) (es : Nat → va_E) : Nat → va_E := (eX4_init_9 b 64 63 w (b + 3) (eX8_init_67 b w es))
def eX8_init_69 (b : Nat) (w : zWd) (es : Nat → va_E) : Nat → va_E := va_up (eX8_init_68 b w es) 24 (.inl (w.2.1 2, 3, .inr (.inr (.inr (.inr (va_up (va_up (va_up (fun _ => none) (Int32.toNatClampNeg (0 : Int32)) (some (b + 53))) (Int32.toNatClampNeg (1 : Int32)) (some (b + 58))) (Int32.toNatClampNeg (2 : Int32)) (some (b + 63))))))))
set_option maxRecDepth 100000 in
set_option maxHeartbeats 4000000 in
theorem ci_X8_init {w : zWd} {l0 : Launch} {b : Nat} {es : Nat → va_E} (he : es 0 = .inr (7, [.null, .null, .null, .null, .null, .null, .null, .null, .null, .null, .null, .int 0, .int 0, .long 0, .long 0])) : zNet w l0 yX8_init cX8_init 2 3 67 (1149) b [.ref (b + 0)] 1 es 68 (eX8_init_69 b w es) := by
  refine zNet_of (by decide +kernel) rfl (Nat.le_of_ble_eq_true rfl) ?_
  intro p e s m below meth c ls hin hr C hl
  refine n_aload_n 0 C dX8_init_0 rfl (lv_at hl 0 rfl) ?_
  refine n_obj 1 C dX8_init_1 wm_X8_1 wOi wOc hl.1 (Nat.le_of_ble_eq_true rfl) (Nat.le_of_ble_eq_true rfl) ?_
  refine n_aload_n 4 C dX8_init_4 rfl (lv_at hl 0 rfl) ?_
  refine n_bipush 5 C (v := (6 : Int32)) dX8_init_5 (by decide) ?_
  refine n_newq 7 C (t := 1) (N := 6) dX8_init_7 rfl wc_X8_9 (fun _ h => h.2.1) (by decide) (by decide) (by decide) rfl (Nat.le_of_ble_eq_true rfl) (Nat.le_of_ble_eq_true rfl) (es1 := (eX8_init_1 b w es)) rfl ?_
  refine n_putF 10 C (fs := [.null, .null, .null, .null, .null, .null, .null, .null, .null, .null, .null, .int 0, .int 0, .long 0, .long 0]) (v := .ref (b + 1)) hin dX8_init_10 fl_X8_11 ff_7_0 (by decide) he (Nat.le_of_ble_eq_true rfl) rfl rfl (es1 := (eX8_init_2 b w es)) rfl ?_
  refine n_aload_n 13 C dX8_init_13 rfl (lv_at hl 0 rfl) ?_
  refine n_iconst 14 C (v := (4 : Int32)) dX8_init_14 (by decide) ?_
  refine n_newq 15 C (t := 1) (N := 4) dX8_init_15 rfl wc_X8_9 (fun _ h => h.2.1) (by decide) (by decide) (by decide) rfl (Nat.le_of_ble_eq_true rfl) (Nat.le_of_ble_eq_true rfl) (es1 := (eX8_init_3 b w es)) rfl ?_
  refine n_putF 18 C (fs := [.ref (b + 1), .null, .null, .null, .null, .null, .null, .null, .null, .null, .null, .int 0, .int 0, .long 0, .long 0]) (v := .ref (b + 2)) hin dX8_init_18 fl_X8_15 ff_7_1 (by decide) rfl (Nat.le_of_ble_eq_true rfl) rfl rfl (es1 := (eX8_init_4 b w es)) rfl ?_
  refine n_aload_n 21 C dX8_init_21 rfl (lv_at hl 0 rfl) ?_
  refine n_new 22 C (ci := 5) (N := 8) (fs := [.null, .null, .null, .null, .int 0, .int 0, .int 0, .int 0]) dX8_init_22 rfl rfl wc_X8_18 wi_X6 wt_X6 tyX6 tyX6_ok fd_X6 rfl (Nat.le_of_ble_eq_true rfl) (Nat.le_of_ble_eq_true rfl) (es1 := (eX8_init_5 b w es)) rfl ?_
  refine n_dup 25 C dX8_init_25 rfl ?_
  refine n_ctorIN 26 C (i := 3) (es1 := (eX8_init_6 b w es)) [.ref (b + 3), .ref (b + 0)] dX8_init_26 (fun _ h => h.1.2.1) ⟨hyb_X6_init, hyi_X6_init_i⟩ rfl (ci_X6_init (by decide) (rfl)) ⟨Nat.le_of_ble_eq_true rfl, Nat.le_of_ble_eq_true rfl⟩ rfl hl.1 (Nat.le_of_ble_eq_true rfl) rfl rfl ⟨Nat.le_of_ble_eq_true rfl, Nat.le_of_ble_eq_true rfl⟩ ?_
  refine n_putF 29 C (fs := [.ref (b + 1), .ref (b + 2), .null, .null, .null, .null, .null, .null, .null, .null, .null, .int 0, .int 0, .long 0, .long 0]) (v := .ref (b + 3)) hin dX8_init_29 fl_X8_21 ff_7_2 (by decide) rfl (Nat.le_of_ble_eq_true rfl) rfl rfl (es1 := (eX8_init_7 b w es)) rfl ?_
  refine n_aload_n 32 C dX8_init_32 rfl (lv_at hl 0 rfl) ?_
  refine n_new 33 C (ci := 4) (N := 1) (fs := [.null]) dX8_init_33 rfl rfl wc_X8_25 wi_X5 wt_X5 tyX5 tyX5_ok fd_X5 rfl (Nat.le_of_ble_eq_true rfl) (Nat.le_of_ble_eq_true rfl) (es1 := (eX8_init_8 b w es)) rfl ?_
  refine n_dup 36 C dX8_init_36 rfl ?_
  refine n_ctorIN 37 C (i := 8) (es1 := (eX8_init_9 b w es)) [.ref (b + 8), .ref (b + 0)] dX8_init_37 (fun _ h => h.1.2.2.1) ⟨hyb_X5_init, hyi_X5_init_i⟩ rfl (ci_X5_init (by decide) (rfl)) ⟨Nat.le_of_ble_eq_true rfl, Nat.le_of_ble_eq_true rfl⟩ rfl hl.1 (Nat.le_of_ble_eq_true rfl) rfl rfl ⟨Nat.le_of_ble_eq_true rfl, Nat.le_of_ble_eq_true rfl⟩ ?_
  refine n_putF 40 C (fs := [.ref (b + 1), .ref (b + 2), .ref (b + 3), .null, .null, .null, .null, .null, .null, .null, .null, .int 0, .int 0, .long 0, .long 0]) (v := .ref (b + 8)) hin dX8_init_40 fl_X8_28 ff_7_3 (by decide) rfl (Nat.le_of_ble_eq_true rfl) rfl rfl (es1 := (eX8_init_10 b w es)) rfl ?_
  refine n_aload_n 43 C dX8_init_43 rfl (lv_at hl 0 rfl) ?_
  refine n_new 44 C (ci := 3) (N := 12) (fs := [.null, .null, .null, .null, .null, .int 0, .int 0, .int 0, .int 0, .int 0, .int 0, .int 0]) dX8_init_44 rfl rfl wc_X8_32 wi_X4 wt_X4 tyX4 tyX4_ok fd_X4 rfl (Nat.le_of_ble_eq_true rfl) (Nat.le_of_ble_eq_true rfl) (es1 := (eX8_init_11 b w es)) rfl ?_
  refine n_dup 47 C dX8_init_47 rfl ?_
  refine n_aload_n 48 C dX8_init_48 rfl (lv_at hl 0 rfl) ?_
  refine n_getr 49 C (v := .ref (b + 3)) dX8_init_49 fl_X8_21 (by decide) rfl rfl ?_
  refine n_ctorI 52 C (i := 14) (es1 := (eX8_init_12 b w es)) [.ref (b + 14), .ref (b + 0)] dX8_init_52 wm_X8_34 ⟨hyb_X4_init, hyi_X4_init_i⟩ rfl (ci_X4_init (by decide) (rfl)) ⟨Nat.le_of_ble_eq_true rfl, Nat.le_of_ble_eq_true rfl⟩ rfl hl.1 (Nat.le_of_ble_eq_true rfl) rfl rfl ⟨Nat.le_of_ble_eq_true rfl, Nat.le_of_ble_eq_true rfl⟩ ?_
  refine n_putF 55 C (fs := [.ref (b + 1), .ref (b + 2), .ref (b + 3), .ref (b + 8), .null, .null, .null, .null, .null, .null, .null, .int 0, .int 0, .long 0, .long 0]) (v := .ref (b + 14)) hin dX8_init_55 fl_X8_37 ff_7_4 (by decide) rfl (Nat.le_of_ble_eq_true rfl) rfl rfl (es1 := (eX8_init_13 b w es)) rfl ?_
  refine n_aload_n 58 C dX8_init_58 rfl (lv_at hl 0 rfl) ?_
  refine n_new 59 C (ci := 3) (N := 12) (fs := [.null, .null, .null, .null, .null, .int 0, .int 0, .int 0, .int 0, .int 0, .int 0, .int 0]) dX8_init_59 rfl rfl wc_X8_32 wi_X4 wt_X4 tyX4 tyX4_ok fd_X4 rfl (Nat.le_of_ble_eq_true rfl) (Nat.le_of_ble_eq_true rfl) (es1 := (eX8_init_14 b w es)) rfl ?_
  refine n_dup 62 C dX8_init_62 rfl ?_
  refine n_aload_n 63 C dX8_init_63 rfl (lv_at hl 0 rfl) ?_
  refine n_getr 64 C (v := .ref (b + 3)) dX8_init_64 fl_X8_21 (by decide) rfl rfl ?_
  refine n_ctorI 67 C (i := 19) (es1 := (eX8_init_15 b w es)) [.ref (b + 19), .ref (b + 0)] dX8_init_67 wm_X8_34 ⟨hyb_X4_init, hyi_X4_init_i⟩ rfl (ci_X4_init (by decide) (rfl)) ⟨Nat.le_of_ble_eq_true rfl, Nat.le_of_ble_eq_true rfl⟩ rfl hl.1 (Nat.le_of_ble_eq_true rfl) rfl rfl ⟨Nat.le_of_ble_eq_true rfl, Nat.le_of_ble_eq_true rfl⟩ ?_
  refine n_putF 70 C (fs := [.ref (b + 1), .ref (b + 2), .ref (b + 3), .ref (b + 8), .ref (b + 14), .null, .null, .null, .null, .null, .null, .int 0, .int 0, .long 0, .long 0]) (v := .ref (b + 19)) hin dX8_init_70 fl_X8_41 ff_7_5 (by decide) rfl (Nat.le_of_ble_eq_true rfl) rfl rfl (es1 := (eX8_init_16 b w es)) rfl ?_
  refine n_aload_n 73 C dX8_init_73 rfl (lv_at hl 0 rfl) ?_
  refine n_iconst 74 C (v := (3 : Int32)) dX8_init_74 (by decide) ?_
  refine n_newq 75 C (t := 2) (N := 3) dX8_init_75 rfl wc_X8_32 (fun _ h => h.2.2) (by decide) (by decide) (by decide) rfl (Nat.le_of_ble_eq_true rfl) (Nat.le_of_ble_eq_true rfl) (es1 := (eX8_init_17 b w es)) rfl ?_
  refine n_putF 78 C (fs := [.ref (b + 1), .ref (b + 2), .ref (b + 3), .ref (b + 8), .ref (b + 14), .ref (b + 19), .null, .null, .null, .null, .null, .int 0, .int 0, .long 0, .long 0]) (v := .ref (b + 24)) hin dX8_init_78 fl_X8_44 ff_7_6 (by decide) rfl (Nat.le_of_ble_eq_true rfl) rfl rfl (es1 := (eX8_init_18 b w es)) rfl ?_
  refine n_aload_n 81 C dX8_init_81 rfl (lv_at hl 0 rfl) ?_
  refine n_new 82 C (ci := 2) (N := 7) (fs := [.null, .null, .null, .int 0, .int 0, .int 0, .int 0]) dX8_init_82 rfl rfl wc_X8_48 wi_X3 wt_X3 tyX3 tyX3_ok fd_X3 rfl (Nat.le_of_ble_eq_true rfl) (Nat.le_of_ble_eq_true rfl) (es1 := (eX8_init_19 b w es)) rfl ?_
  refine n_dup 85 C dX8_init_85 rfl ?_
  refine n_aload_n 86 C dX8_init_86 rfl (lv_at hl 0 rfl) ?_
  refine n_getr 87 C (v := .ref (b + 3)) dX8_init_87 fl_X8_21 (by decide) rfl rfl ?_
  refine n_ctorI 90 C (i := 25) (es1 := (eX8_init_20 b w es)) [.ref (b + 25), .ref (b + 0)] dX8_init_90 wm_X8_50 ⟨hyb_X3_init, hyi_X3_init_i⟩ rfl (ci_X3_init (by decide) (rfl)) ⟨Nat.le_of_ble_eq_true rfl, Nat.le_of_ble_eq_true rfl⟩ rfl hl.1 (Nat.le_of_ble_eq_true rfl) rfl rfl ⟨Nat.le_of_ble_eq_true rfl, Nat.le_of_ble_eq_true rfl⟩ ?_
  refine n_putF 93 C (fs := [.ref (b + 1), .ref (b + 2), .ref (b + 3), .ref (b + 8), .ref (b + 14), .ref (b + 19), .ref (b + 24), .null, .null, .null, .null, .int 0, .int 0, .long 0, .long 0]) (v := .ref (b + 25)) hin dX8_init_93 fl_X8_51 ff_7_7 (by decide) rfl (Nat.le_of_ble_eq_true rfl) rfl rfl (es1 := (eX8_init_21 b w es)) rfl ?_
  refine n_aload_n 96 C dX8_init_96 rfl (lv_at hl 0 rfl) ?_
  refine n_new 97 C (ci := 1) (N := 9) (fs := [.null, .null, .int 0, .int 0, .int 0, .int 0, .long 0, .long 0, .long 0]) dX8_init_97 rfl rfl wc_X8_55 wi_X2 wt_X2 tyX2 tyX2_ok fd_X2 rfl (Nat.le_of_ble_eq_true rfl) (Nat.le_of_ble_eq_true rfl) (es1 := (eX8_init_22 b w es)) rfl ?_
  refine n_dup 100 C dX8_init_100 rfl ?_
  refine n_aload_n 101 C dX8_init_101 rfl (lv_at hl 0 rfl) ?_
  refine n_getr 102 C (v := .ref (b + 3)) dX8_init_102 fl_X8_21 (by decide) rfl rfl ?_
  refine n_ctorI 105 C (i := 28) (es1 := (eX8_init_23 b w es)) [.ref (b + 28), .ref (b + 0)] dX8_init_105 wm_X8_57 ⟨hyb_X2_init, hyi_X2_init_i⟩ rfl (ci_X2_init (by decide) (rfl)) ⟨Nat.le_of_ble_eq_true rfl, Nat.le_of_ble_eq_true rfl⟩ rfl hl.1 (Nat.le_of_ble_eq_true rfl) rfl rfl ⟨Nat.le_of_ble_eq_true rfl, Nat.le_of_ble_eq_true rfl⟩ ?_
  refine n_putF 108 C (fs := [.ref (b + 1), .ref (b + 2), .ref (b + 3), .ref (b + 8), .ref (b + 14), .ref (b + 19), .ref (b + 24), .ref (b + 25), .null, .null, .null, .int 0, .int 0, .long 0, .long 0]) (v := .ref (b + 28)) hin dX8_init_108 fl_X8_58 ff_7_8 (by decide) rfl (Nat.le_of_ble_eq_true rfl) rfl rfl (es1 := (eX8_init_24 b w es)) rfl ?_
  refine n_aload_n 111 C dX8_init_111 rfl (lv_at hl 0 rfl) ?_
  refine n_new 112 C (ci := 0) (N := 1) (fs := [.null]) dX8_init_112 rfl rfl wc_X8_62 wi_X0 wt_X0 tyX0 tyX0_ok fd_X0 rfl (Nat.le_of_ble_eq_true rfl) (Nat.le_of_ble_eq_true rfl) (es1 := (eX8_init_25 b w es)) rfl ?_
  refine n_dup 115 C dX8_init_115 rfl ?_
  refine n_ctorIN 116 C (i := 30) (es1 := (eX8_init_26 b w es)) [.ref (b + 30), .ref (b + 0)] dX8_init_116 (fun _ h => h.1.2.2.2) ⟨hyb_X0_init, hyi_X0_init_i⟩ rfl (ci_X0_init (by decide) (rfl)) ⟨Nat.le_of_ble_eq_true rfl, Nat.le_of_ble_eq_true rfl⟩ rfl hl.1 (Nat.le_of_ble_eq_true rfl) rfl rfl ⟨Nat.le_of_ble_eq_true rfl, Nat.le_of_ble_eq_true rfl⟩ ?_
  refine n_putF 119 C (fs := [.ref (b + 1), .ref (b + 2), .ref (b + 3), .ref (b + 8), .ref (b + 14), .ref (b + 19), .ref (b + 24), .ref (b + 25), .ref (b + 28), .null, .null, .int 0, .int 0, .long 0, .long 0]) (v := .ref (b + 30)) hin dX8_init_119 fl_X8_65 ff_7_9 (by decide) rfl (Nat.le_of_ble_eq_true rfl) rfl rfl (es1 := (eX8_init_27 b w es)) rfl ?_
  refine n_aload_n 122 C dX8_init_122 rfl (lv_at hl 0 rfl) ?_
  refine n_bipush 123 C (v := (6 : Int32)) dX8_init_123 (by decide) ?_
  refine n_newi 125 C (N := 6) dX8_init_125 wArr (by decide) (by decide) (by decide) rfl (Nat.le_of_ble_eq_true rfl) (Nat.le_of_ble_eq_true rfl) (es1 := (eX8_init_28 b w es)) rfl ?_
  refine n_putF 127 C (fs := [.ref (b + 1), .ref (b + 2), .ref (b + 3), .ref (b + 8), .ref (b + 14), .ref (b + 19), .ref (b + 24), .ref (b + 25), .ref (b + 28), .ref (b + 30), .null, .int 0, .int 0, .long 0, .long 0]) (v := .ref (b + 32)) hin dX8_init_127 fl_X8_69 ff_7_10 (by decide) rfl (Nat.le_of_ble_eq_true rfl) rfl rfl (es1 := (eX8_init_29 b w es)) rfl ?_
  refine n_aload_n 130 C dX8_init_130 rfl (lv_at hl 0 rfl) ?_
  refine n_lconst 131 C (v := 1) dX8_init_131 (by decide) ?_
  refine n_putN 132 C (fs := [.ref (b + 1), .ref (b + 2), .ref (b + 3), .ref (b + 8), .ref (b + 14), .ref (b + 19), .ref (b + 24), .ref (b + 25), .ref (b + 28), .ref (b + 30), .ref (b + 32), .int 0, .int 0, .long 0, .long 0]) (v := .long (1 : Int64)) dX8_init_132 fl_X8_73 fp_7_14 (by decide) rfl (Nat.le_of_ble_eq_true rfl) rfl rfl (es1 := (eX8_init_30 b w es)) rfl ?_
  refine n_iconst 135 C (v := (0 : Int32)) dX8_init_135 (by decide) ?_
  refine n_istore_n 136 C [(1, .int (0 : Int32)), (0, .ref (b + 0))] dX8_init_136 rfl hl (by decide) rfl (fun ls hl => ?_)
  refine n_iload_n 137 C dX8_init_137 rfl (lv_at hl 0 rfl) ?_
  refine n_bipush 138 C (v := (6 : Int32)) dX8_init_138 (by decide) ?_
  refine n_ge_f 140 164 C dX8_init_140 (by decide) (by decide) ?_
  refine n_aload_n 143 C dX8_init_143 rfl (lv_at hl 1 rfl) ?_
  refine n_getr 144 C (v := .ref (b + 1)) dX8_init_144 fl_X8_11 (by decide) rfl rfl ?_
  refine n_iload_n 147 C dX8_init_147 rfl (lv_at hl 0 rfl) ?_
  refine n_new 148 C (ci := 6) (N := 2) (fs := [.null, .int 0]) dX8_init_148 rfl rfl wc_X8_9 wi_X7 wt_X7 tyX7 tyX7_ok fd_X7 rfl (Nat.le_of_ble_eq_true rfl) (Nat.le_of_ble_eq_true rfl) (es1 := (eX8_init_31 b w es)) rfl ?_
  refine n_dup 151 C dX8_init_151 rfl ?_
  refine n_bipush 152 C (v := (40 : Int32)) dX8_init_152 (by decide) ?_
  refine n_ctorI 154 C (i := 33) (es1 := (eX8_init_32 b w es)) [.ref (b + 33), .int (0 : Int32), .ref (b + 1)] dX8_init_154 wm_X8_77 ⟨hyb_X7_init, hyi_X7_init_i⟩ rfl (ci_X7_init (by decide) (rfl) (by decide) (by decide) (by decide)) ⟨Nat.le_of_ble_eq_true rfl, Nat.le_of_ble_eq_true rfl⟩ rfl hl.1 (Nat.le_of_ble_eq_true rfl) rfl rfl ⟨Nat.le_of_ble_eq_true rfl, Nat.le_of_ble_eq_true rfl⟩ ?_
  refine n_aast 157 C (f := fun _ => none) (N := 6) (t := 1) (vs := [.ref (b + 34), .int (-1 : Int32)]) dX8_init_157 (by decide) rfl rfl (by decide) rfl rfl (by decide) (es1 := (eX8_init_33 b w es)) rfl ?_
  refine n_iinc 158 C (v := (1 : Int32)) [(1, .int (1 : Int32)), (0, .ref (b + 0))] dX8_init_158 hl (j := 0) rfl (by decide) (by decide) rfl (fun ls hl => ?_)
  refine n_goto 161 137 C dX8_init_161 (by decide) ?_
  refine n_iload_n 137 C dX8_init_137 rfl (lv_at hl 0 rfl) ?_
  refine n_bipush 138 C (v := (6 : Int32)) dX8_init_138 (by decide) ?_
  refine n_ge_f 140 164 C dX8_init_140 (by decide) (by decide) ?_
  refine n_aload_n 143 C dX8_init_143 rfl (lv_at hl 1 rfl) ?_
  refine n_getr 144 C (v := .ref (b + 1)) dX8_init_144 fl_X8_11 (by decide) rfl rfl ?_
  refine n_iload_n 147 C dX8_init_147 rfl (lv_at hl 0 rfl) ?_
  refine n_new 148 C (ci := 6) (N := 2) (fs := [.null, .int 0]) dX8_init_148 rfl rfl wc_X8_9 wi_X7 wt_X7 tyX7 tyX7_ok fd_X7 rfl (Nat.le_of_ble_eq_true rfl) (Nat.le_of_ble_eq_true rfl) (es1 := (eX8_init_34 b w es)) rfl ?_
  refine n_dup 151 C dX8_init_151 rfl ?_
  refine n_bipush 152 C (v := (40 : Int32)) dX8_init_152 (by decide) ?_
  refine n_ctorI 154 C (i := 35) (es1 := (eX8_init_35 b w es)) [.ref (b + 35), .int (1 : Int32), .ref (b + 1)] dX8_init_154 wm_X8_77 ⟨hyb_X7_init, hyi_X7_init_i⟩ rfl (ci_X7_init (by decide) (rfl) (by decide) (by decide) (by decide)) ⟨Nat.le_of_ble_eq_true rfl, Nat.le_of_ble_eq_true rfl⟩ rfl hl.1 (Nat.le_of_ble_eq_true rfl) rfl rfl ⟨Nat.le_of_ble_eq_true rfl, Nat.le_of_ble_eq_true rfl⟩ ?_
  refine n_aast 157 C (f := va_up (fun _ => none) (Int32.toNatClampNeg (0 : Int32)) (some (b + 33))) (N := 6) (t := 1) (vs := [.ref (b + 36), .int (-1 : Int32)]) dX8_init_157 (by decide) rfl rfl (by decide) rfl rfl (by decide) (es1 := (eX8_init_36 b w es)) rfl ?_
  refine n_iinc 158 C (v := (2 : Int32)) [(1, .int (2 : Int32)), (0, .ref (b + 0))] dX8_init_158 hl (j := 0) rfl (by decide) (by decide) rfl (fun ls hl => ?_)
  refine n_goto 161 137 C dX8_init_161 (by decide) ?_
  refine n_iload_n 137 C dX8_init_137 rfl (lv_at hl 0 rfl) ?_
  refine n_bipush 138 C (v := (6 : Int32)) dX8_init_138 (by decide) ?_
  refine n_ge_f 140 164 C dX8_init_140 (by decide) (by decide) ?_
  refine n_aload_n 143 C dX8_init_143 rfl (lv_at hl 1 rfl) ?_
  refine n_getr 144 C (v := .ref (b + 1)) dX8_init_144 fl_X8_11 (by decide) rfl rfl ?_
  refine n_iload_n 147 C dX8_init_147 rfl (lv_at hl 0 rfl) ?_
  refine n_new 148 C (ci := 6) (N := 2) (fs := [.null, .int 0]) dX8_init_148 rfl rfl wc_X8_9 wi_X7 wt_X7 tyX7 tyX7_ok fd_X7 rfl (Nat.le_of_ble_eq_true rfl) (Nat.le_of_ble_eq_true rfl) (es1 := (eX8_init_37 b w es)) rfl ?_
  refine n_dup 151 C dX8_init_151 rfl ?_
  refine n_bipush 152 C (v := (40 : Int32)) dX8_init_152 (by decide) ?_
  refine n_ctorI 154 C (i := 37) (es1 := (eX8_init_38 b w es)) [.ref (b + 37), .int (2 : Int32), .ref (b + 1)] dX8_init_154 wm_X8_77 ⟨hyb_X7_init, hyi_X7_init_i⟩ rfl (ci_X7_init (by decide) (rfl) (by decide) (by decide) (by decide)) ⟨Nat.le_of_ble_eq_true rfl, Nat.le_of_ble_eq_true rfl⟩ rfl hl.1 (Nat.le_of_ble_eq_true rfl) rfl rfl ⟨Nat.le_of_ble_eq_true rfl, Nat.le_of_ble_eq_true rfl⟩ ?_
  refine n_aast 157 C (f := va_up (va_up (fun _ => none) (Int32.toNatClampNeg (0 : Int32)) (some (b + 33))) (Int32.toNatClampNeg (1 : Int32)) (some (b + 35))) (N := 6) (t := 1) (vs := [.ref (b + 38), .int (-1 : Int32)]) dX8_init_157 (by decide) rfl rfl (by decide) rfl rfl (by decide) (es1 := (eX8_init_39 b w es)) rfl ?_
  refine n_iinc 158 C (v := (3 : Int32)) [(1, .int (3 : Int32)), (0, .ref (b + 0))] dX8_init_158 hl (j := 0) rfl (by decide) (by decide) rfl (fun ls hl => ?_)
  refine n_goto 161 137 C dX8_init_161 (by decide) ?_
  refine n_iload_n 137 C dX8_init_137 rfl (lv_at hl 0 rfl) ?_
  refine n_bipush 138 C (v := (6 : Int32)) dX8_init_138 (by decide) ?_
  refine n_ge_f 140 164 C dX8_init_140 (by decide) (by decide) ?_
  refine n_aload_n 143 C dX8_init_143 rfl (lv_at hl 1 rfl) ?_
  refine n_getr 144 C (v := .ref (b + 1)) dX8_init_144 fl_X8_11 (by decide) rfl rfl ?_
  refine n_iload_n 147 C dX8_init_147 rfl (lv_at hl 0 rfl) ?_
  refine n_new 148 C (ci := 6) (N := 2) (fs := [.null, .int 0]) dX8_init_148 rfl rfl wc_X8_9 wi_X7 wt_X7 tyX7 tyX7_ok fd_X7 rfl (Nat.le_of_ble_eq_true rfl) (Nat.le_of_ble_eq_true rfl) (es1 := (eX8_init_40 b w es)) rfl ?_
  refine n_dup 151 C dX8_init_151 rfl ?_
  refine n_bipush 152 C (v := (40 : Int32)) dX8_init_152 (by decide) ?_
  refine n_ctorI 154 C (i := 39) (es1 := (eX8_init_41 b w es)) [.ref (b + 39), .int (3 : Int32), .ref (b + 1)] dX8_init_154 wm_X8_77 ⟨hyb_X7_init, hyi_X7_init_i⟩ rfl (ci_X7_init (by decide) (rfl) (by decide) (by decide) (by decide)) ⟨Nat.le_of_ble_eq_true rfl, Nat.le_of_ble_eq_true rfl⟩ rfl hl.1 (Nat.le_of_ble_eq_true rfl) rfl rfl ⟨Nat.le_of_ble_eq_true rfl, Nat.le_of_ble_eq_true rfl⟩ ?_
  refine n_aast 157 C (f := va_up (va_up (va_up (fun _ => none) (Int32.toNatClampNeg (0 : Int32)) (some (b + 33))) (Int32.toNatClampNeg (1 : Int32)) (some (b + 35))) (Int32.toNatClampNeg (2 : Int32)) (some (b + 37))) (N := 6) (t := 1) (vs := [.ref (b + 40), .int (-1 : Int32)]) dX8_init_157 (by decide) rfl rfl (by decide) rfl rfl (by decide) (es1 := (eX8_init_42 b w es)) rfl ?_
  refine n_iinc 158 C (v := (4 : Int32)) [(1, .int (4 : Int32)), (0, .ref (b + 0))] dX8_init_158 hl (j := 0) rfl (by decide) (by decide) rfl (fun ls hl => ?_)
  refine n_goto 161 137 C dX8_init_161 (by decide) ?_
  refine n_iload_n 137 C dX8_init_137 rfl (lv_at hl 0 rfl) ?_
  refine n_bipush 138 C (v := (6 : Int32)) dX8_init_138 (by decide) ?_
  refine n_ge_f 140 164 C dX8_init_140 (by decide) (by decide) ?_
  refine n_aload_n 143 C dX8_init_143 rfl (lv_at hl 1 rfl) ?_
  refine n_getr 144 C (v := .ref (b + 1)) dX8_init_144 fl_X8_11 (by decide) rfl rfl ?_
  refine n_iload_n 147 C dX8_init_147 rfl (lv_at hl 0 rfl) ?_
  refine n_new 148 C (ci := 6) (N := 2) (fs := [.null, .int 0]) dX8_init_148 rfl rfl wc_X8_9 wi_X7 wt_X7 tyX7 tyX7_ok fd_X7 rfl (Nat.le_of_ble_eq_true rfl) (Nat.le_of_ble_eq_true rfl) (es1 := (eX8_init_43 b w es)) rfl ?_
  refine n_dup 151 C dX8_init_151 rfl ?_
  refine n_bipush 152 C (v := (40 : Int32)) dX8_init_152 (by decide) ?_
  refine n_ctorI 154 C (i := 41) (es1 := (eX8_init_44 b w es)) [.ref (b + 41), .int (4 : Int32), .ref (b + 1)] dX8_init_154 wm_X8_77 ⟨hyb_X7_init, hyi_X7_init_i⟩ rfl (ci_X7_init (by decide) (rfl) (by decide) (by decide) (by decide)) ⟨Nat.le_of_ble_eq_true rfl, Nat.le_of_ble_eq_true rfl⟩ rfl hl.1 (Nat.le_of_ble_eq_true rfl) rfl rfl ⟨Nat.le_of_ble_eq_true rfl, Nat.le_of_ble_eq_true rfl⟩ ?_
  refine n_aast 157 C (f := va_up (va_up (va_up (va_up (fun _ => none) (Int32.toNatClampNeg (0 : Int32)) (some (b + 33))) (Int32.toNatClampNeg (1 : Int32)) (some (b + 35))) (Int32.toNatClampNeg (2 : Int32)) (some (b + 37))) (Int32.toNatClampNeg (3 : Int32)) (some (b + 39))) (N := 6) (t := 1) (vs := [.ref (b + 42), .int (-1 : Int32)]) dX8_init_157 (by decide) rfl rfl (by decide) rfl rfl (by decide) (es1 := (eX8_init_45 b w es)) rfl ?_
  refine n_iinc 158 C (v := (5 : Int32)) [(1, .int (5 : Int32)), (0, .ref (b + 0))] dX8_init_158 hl (j := 0) rfl (by decide) (by decide) rfl (fun ls hl => ?_)
  refine n_goto 161 137 C dX8_init_161 (by decide) ?_
  refine n_iload_n 137 C dX8_init_137 rfl (lv_at hl 0 rfl) ?_
  refine n_bipush 138 C (v := (6 : Int32)) dX8_init_138 (by decide) ?_
  refine n_ge_f 140 164 C dX8_init_140 (by decide) (by decide) ?_
  refine n_aload_n 143 C dX8_init_143 rfl (lv_at hl 1 rfl) ?_
  refine n_getr 144 C (v := .ref (b + 1)) dX8_init_144 fl_X8_11 (by decide) rfl rfl ?_
  refine n_iload_n 147 C dX8_init_147 rfl (lv_at hl 0 rfl) ?_
  refine n_new 148 C (ci := 6) (N := 2) (fs := [.null, .int 0]) dX8_init_148 rfl rfl wc_X8_9 wi_X7 wt_X7 tyX7 tyX7_ok fd_X7 rfl (Nat.le_of_ble_eq_true rfl) (Nat.le_of_ble_eq_true rfl) (es1 := (eX8_init_46 b w es)) rfl ?_
  refine n_dup 151 C dX8_init_151 rfl ?_
  refine n_bipush 152 C (v := (40 : Int32)) dX8_init_152 (by decide) ?_
  refine n_ctorI 154 C (i := 43) (es1 := (eX8_init_47 b w es)) [.ref (b + 43), .int (5 : Int32), .ref (b + 1)] dX8_init_154 wm_X8_77 ⟨hyb_X7_init, hyi_X7_init_i⟩ rfl (ci_X7_init (by decide) (rfl) (by decide) (by decide) (by decide)) ⟨Nat.le_of_ble_eq_true rfl, Nat.le_of_ble_eq_true rfl⟩ rfl hl.1 (Nat.le_of_ble_eq_true rfl) rfl rfl ⟨Nat.le_of_ble_eq_true rfl, Nat.le_of_ble_eq_true rfl⟩ ?_
  refine n_aast 157 C (f := va_up (va_up (va_up (va_up (va_up (fun _ => none) (Int32.toNatClampNeg (0 : Int32)) (some (b + 33))) (Int32.toNatClampNeg (1 : Int32)) (some (b + 35))) (Int32.toNatClampNeg (2 : Int32)) (some (b + 37))) (Int32.toNatClampNeg (3 : Int32)) (some (b + 39))) (Int32.toNatClampNeg (4 : Int32)) (some (b + 41))) (N := 6) (t := 1) (vs := [.ref (b + 44), .int (-1 : Int32)]) dX8_init_157 (by decide) rfl rfl (by decide) rfl rfl (by decide) (es1 := (eX8_init_48 b w es)) rfl ?_
  refine n_iinc 158 C (v := (6 : Int32)) [(1, .int (6 : Int32)), (0, .ref (b + 0))] dX8_init_158 hl (j := 0) rfl (by decide) (by decide) rfl (fun ls hl => ?_)
  refine n_goto 161 137 C dX8_init_161 (by decide) ?_
  refine n_iload_n 137 C dX8_init_137 rfl (lv_at hl 0 rfl) ?_
  refine n_bipush 138 C (v := (6 : Int32)) dX8_init_138 (by decide) ?_
  refine n_ge_t 140 164 C dX8_init_140 (by decide) (by decide) ?_
  refine n_iconst 164 C (v := (0 : Int32)) dX8_init_164 (by decide) ?_
  refine n_istore_n 165 C [(1, .int (0 : Int32)), (0, .ref (b + 0))] dX8_init_165 rfl hl (by decide) rfl (fun ls hl => ?_)
  refine n_iload_n 166 C dX8_init_166 rfl (lv_at hl 0 rfl) ?_
  refine n_iconst 167 C (v := (4 : Int32)) dX8_init_167 (by decide) ?_
  refine n_ge_f 168 192 C dX8_init_168 (by decide) (by decide) ?_
  refine n_aload_n 171 C dX8_init_171 rfl (lv_at hl 1 rfl) ?_
  refine n_getr 172 C (v := .ref (b + 2)) dX8_init_172 fl_X8_15 (by decide) rfl rfl ?_
  refine n_iload_n 175 C dX8_init_175 rfl (lv_at hl 0 rfl) ?_
  refine n_new 176 C (ci := 6) (N := 2) (fs := [.null, .int 0]) dX8_init_176 rfl rfl wc_X8_9 wi_X7 wt_X7 tyX7 tyX7_ok fd_X7 rfl (Nat.le_of_ble_eq_true rfl) (Nat.le_of_ble_eq_true rfl) (es1 := (eX8_init_49 b w es)) rfl ?_
  refine n_dup 179 C dX8_init_179 rfl ?_
  refine n_bipush 180 C (v := (60 : Int32)) dX8_init_180 (by decide) ?_
  refine n_ctorI 182 C (i := 45) (es1 := (eX8_init_50 b w es)) [.ref (b + 45), .int (0 : Int32), .ref (b + 2)] dX8_init_182 wm_X8_77 ⟨hyb_X7_init, hyi_X7_init_i⟩ rfl (ci_X7_init (by decide) (rfl) (by decide) (by decide) (by decide)) ⟨Nat.le_of_ble_eq_true rfl, Nat.le_of_ble_eq_true rfl⟩ rfl hl.1 (Nat.le_of_ble_eq_true rfl) rfl rfl ⟨Nat.le_of_ble_eq_true rfl, Nat.le_of_ble_eq_true rfl⟩ ?_
  refine n_aast 185 C (f := fun _ => none) (N := 4) (t := 1) (vs := [.ref (b + 46), .int (-1 : Int32)]) dX8_init_185 (by decide) rfl rfl (by decide) rfl rfl (by decide) (es1 := (eX8_init_51 b w es)) rfl ?_
  refine n_iinc 186 C (v := (1 : Int32)) [(1, .int (1 : Int32)), (0, .ref (b + 0))] dX8_init_186 hl (j := 0) rfl (by decide) (by decide) rfl (fun ls hl => ?_)
  refine n_goto 189 166 C dX8_init_189 (by decide) ?_
  refine n_iload_n 166 C dX8_init_166 rfl (lv_at hl 0 rfl) ?_
  refine n_iconst 167 C (v := (4 : Int32)) dX8_init_167 (by decide) ?_
  refine n_ge_f 168 192 C dX8_init_168 (by decide) (by decide) ?_
  refine n_aload_n 171 C dX8_init_171 rfl (lv_at hl 1 rfl) ?_
  refine n_getr 172 C (v := .ref (b + 2)) dX8_init_172 fl_X8_15 (by decide) rfl rfl ?_
  refine n_iload_n 175 C dX8_init_175 rfl (lv_at hl 0 rfl) ?_
  refine n_new 176 C (ci := 6) (N := 2) (fs := [.null, .int 0]) dX8_init_176 rfl rfl wc_X8_9 wi_X7 wt_X7 tyX7 tyX7_ok fd_X7 rfl (Nat.le_of_ble_eq_true rfl) (Nat.le_of_ble_eq_true rfl) (es1 := (eX8_init_52 b w es)) rfl ?_
  refine n_dup 179 C dX8_init_179 rfl ?_
  refine n_bipush 180 C (v := (60 : Int32)) dX8_init_180 (by decide) ?_
  refine n_ctorI 182 C (i := 47) (es1 := (eX8_init_53 b w es)) [.ref (b + 47), .int (1 : Int32), .ref (b + 2)] dX8_init_182 wm_X8_77 ⟨hyb_X7_init, hyi_X7_init_i⟩ rfl (ci_X7_init (by decide) (rfl) (by decide) (by decide) (by decide)) ⟨Nat.le_of_ble_eq_true rfl, Nat.le_of_ble_eq_true rfl⟩ rfl hl.1 (Nat.le_of_ble_eq_true rfl) rfl rfl ⟨Nat.le_of_ble_eq_true rfl, Nat.le_of_ble_eq_true rfl⟩ ?_
  refine n_aast 185 C (f := va_up (fun _ => none) (Int32.toNatClampNeg (0 : Int32)) (some (b + 45))) (N := 4) (t := 1) (vs := [.ref (b + 48), .int (-1 : Int32)]) dX8_init_185 (by decide) rfl rfl (by decide) rfl rfl (by decide) (es1 := (eX8_init_54 b w es)) rfl ?_
  refine n_iinc 186 C (v := (2 : Int32)) [(1, .int (2 : Int32)), (0, .ref (b + 0))] dX8_init_186 hl (j := 0) rfl (by decide) (by decide) rfl (fun ls hl => ?_)
  refine n_goto 189 166 C dX8_init_189 (by decide) ?_
  refine n_iload_n 166 C dX8_init_166 rfl (lv_at hl 0 rfl) ?_
  refine n_iconst 167 C (v := (4 : Int32)) dX8_init_167 (by decide) ?_
  refine n_ge_f 168 192 C dX8_init_168 (by decide) (by decide) ?_
  refine n_aload_n 171 C dX8_init_171 rfl (lv_at hl 1 rfl) ?_
  refine n_getr 172 C (v := .ref (b + 2)) dX8_init_172 fl_X8_15 (by decide) rfl rfl ?_
  refine n_iload_n 175 C dX8_init_175 rfl (lv_at hl 0 rfl) ?_
  refine n_new 176 C (ci := 6) (N := 2) (fs := [.null, .int 0]) dX8_init_176 rfl rfl wc_X8_9 wi_X7 wt_X7 tyX7 tyX7_ok fd_X7 rfl (Nat.le_of_ble_eq_true rfl) (Nat.le_of_ble_eq_true rfl) (es1 := (eX8_init_55 b w es)) rfl ?_
  refine n_dup 179 C dX8_init_179 rfl ?_
  refine n_bipush 180 C (v := (60 : Int32)) dX8_init_180 (by decide) ?_
  refine n_ctorI 182 C (i := 49) (es1 := (eX8_init_56 b w es)) [.ref (b + 49), .int (2 : Int32), .ref (b + 2)] dX8_init_182 wm_X8_77 ⟨hyb_X7_init, hyi_X7_init_i⟩ rfl (ci_X7_init (by decide) (rfl) (by decide) (by decide) (by decide)) ⟨Nat.le_of_ble_eq_true rfl, Nat.le_of_ble_eq_true rfl⟩ rfl hl.1 (Nat.le_of_ble_eq_true rfl) rfl rfl ⟨Nat.le_of_ble_eq_true rfl, Nat.le_of_ble_eq_true rfl⟩ ?_
  refine n_aast 185 C (f := va_up (va_up (fun _ => none) (Int32.toNatClampNeg (0 : Int32)) (some (b + 45))) (Int32.toNatClampNeg (1 : Int32)) (some (b + 47))) (N := 4) (t := 1) (vs := [.ref (b + 50), .int (-1 : Int32)]) dX8_init_185 (by decide) rfl rfl (by decide) rfl rfl (by decide) (es1 := (eX8_init_57 b w es)) rfl ?_
  refine n_iinc 186 C (v := (3 : Int32)) [(1, .int (3 : Int32)), (0, .ref (b + 0))] dX8_init_186 hl (j := 0) rfl (by decide) (by decide) rfl (fun ls hl => ?_)
  refine n_goto 189 166 C dX8_init_189 (by decide) ?_
  refine n_iload_n 166 C dX8_init_166 rfl (lv_at hl 0 rfl) ?_
  refine n_iconst 167 C (v := (4 : Int32)) dX8_init_167 (by decide) ?_
  refine n_ge_f 168 192 C dX8_init_168 (by decide) (by decide) ?_
  refine n_aload_n 171 C dX8_init_171 rfl (lv_at hl 1 rfl) ?_
  refine n_getr 172 C (v := .ref (b + 2)) dX8_init_172 fl_X8_15 (by decide) rfl rfl ?_
  refine n_iload_n 175 C dX8_init_175 rfl (lv_at hl 0 rfl) ?_
  refine n_new 176 C (ci := 6) (N := 2) (fs := [.null, .int 0]) dX8_init_176 rfl rfl wc_X8_9 wi_X7 wt_X7 tyX7 tyX7_ok fd_X7 rfl (Nat.le_of_ble_eq_true rfl) (Nat.le_of_ble_eq_true rfl) (es1 := (eX8_init_58 b w es)) rfl ?_
  refine n_dup 179 C dX8_init_179 rfl ?_
  refine n_bipush 180 C (v := (60 : Int32)) dX8_init_180 (by decide) ?_
  refine n_ctorI 182 C (i := 51) (es1 := (eX8_init_59 b w es)) [.ref (b + 51), .int (3 : Int32), .ref (b + 2)] dX8_init_182 wm_X8_77 ⟨hyb_X7_init, hyi_X7_init_i⟩ rfl (ci_X7_init (by decide) (rfl) (by decide) (by decide) (by decide)) ⟨Nat.le_of_ble_eq_true rfl, Nat.le_of_ble_eq_true rfl⟩ rfl hl.1 (Nat.le_of_ble_eq_true rfl) rfl rfl ⟨Nat.le_of_ble_eq_true rfl, Nat.le_of_ble_eq_true rfl⟩ ?_
  refine n_aast 185 C (f := va_up (va_up (va_up (fun _ => none) (Int32.toNatClampNeg (0 : Int32)) (some (b + 45))) (Int32.toNatClampNeg (1 : Int32)) (some (b + 47))) (Int32.toNatClampNeg (2 : Int32)) (some (b + 49))) (N := 4) (t := 1) (vs := [.ref (b + 52), .int (-1 : Int32)]) dX8_init_185 (by decide) rfl rfl (by decide) rfl rfl (by decide) (es1 := (eX8_init_60 b w es)) rfl ?_
  refine n_iinc 186 C (v := (4 : Int32)) [(1, .int (4 : Int32)), (0, .ref (b + 0))] dX8_init_186 hl (j := 0) rfl (by decide) (by decide) rfl (fun ls hl => ?_)
  refine n_goto 189 166 C dX8_init_189 (by decide) ?_
  refine n_iload_n 166 C dX8_init_166 rfl (lv_at hl 0 rfl) ?_
  refine n_iconst 167 C (v := (4 : Int32)) dX8_init_167 (by decide) ?_
  refine n_ge_t 168 192 C dX8_init_168 (by decide) (by decide) ?_
  refine n_iconst 192 C (v := (0 : Int32)) dX8_init_192 (by decide) ?_
  refine n_istore_n 193 C [(1, .int (0 : Int32)), (0, .ref (b + 0))] dX8_init_193 rfl hl (by decide) rfl (fun ls hl => ?_)
  refine n_iload_n 194 C dX8_init_194 rfl (lv_at hl 0 rfl) ?_
  refine n_iconst 195 C (v := (3 : Int32)) dX8_init_195 (by decide) ?_
  refine n_ge_f 196 222 C dX8_init_196 (by decide) (by decide) ?_
  refine n_aload_n 199 C dX8_init_199 rfl (lv_at hl 1 rfl) ?_
  refine n_getr 200 C (v := .ref (b + 24)) dX8_init_200 fl_X8_44 (by decide) rfl rfl ?_
  refine n_iload_n 203 C dX8_init_203 rfl (lv_at hl 0 rfl) ?_
  refine n_new 204 C (ci := 3) (N := 12) (fs := [.null, .null, .null, .null, .null, .int 0, .int 0, .int 0, .int 0, .int 0, .int 0, .int 0]) dX8_init_204 rfl rfl wc_X8_32 wi_X4 wt_X4 tyX4 tyX4_ok fd_X4 rfl (Nat.le_of_ble_eq_true rfl) (Nat.le_of_ble_eq_true rfl) (es1 := (eX8_init_61 b w es)) rfl ?_
  refine n_dup 207 C dX8_init_207 rfl ?_
  refine n_aload_n 208 C dX8_init_208 rfl (lv_at hl 1 rfl) ?_
  refine n_getr 209 C (v := .ref (b + 3)) dX8_init_209 fl_X8_21 (by decide) rfl rfl ?_
  refine n_ctorI 212 C (i := 53) (es1 := (eX8_init_62 b w es)) [.ref (b + 53), .int (0 : Int32), .ref (b + 24)] dX8_init_212 wm_X8_34 ⟨hyb_X4_init, hyi_X4_init_i⟩ rfl (ci_X4_init (by decide) (rfl)) ⟨Nat.le_of_ble_eq_true rfl, Nat.le_of_ble_eq_true rfl⟩ rfl hl.1 (Nat.le_of_ble_eq_true rfl) rfl rfl ⟨Nat.le_of_ble_eq_true rfl, Nat.le_of_ble_eq_true rfl⟩ ?_
  refine n_aast 215 C (f := fun _ => none) (N := 3) (t := 2) (vs := [.ref (b + 3), .ref (b + 54), .ref (b + 55), .ref (b + 56), .ref (b + 57), .int 0, .int 0, .int 0, .int 0, .int 0, .int 0, .int 0]) dX8_init_215 (by decide) rfl rfl (by decide) rfl rfl (by decide) (es1 := (eX8_init_63 b w es)) rfl ?_
  refine n_iinc 216 C (v := (1 : Int32)) [(1, .int (1 : Int32)), (0, .ref (b + 0))] dX8_init_216 hl (j := 0) rfl (by decide) (by decide) rfl (fun ls hl => ?_)
  refine n_goto 219 194 C dX8_init_219 (by decide) ?_
  refine n_iload_n 194 C dX8_init_194 rfl (lv_at hl 0 rfl) ?_
  refine n_iconst 195 C (v := (3 : Int32)) dX8_init_195 (by decide) ?_
  refine n_ge_f 196 222 C dX8_init_196 (by decide) (by decide) ?_
  refine n_aload_n 199 C dX8_init_199 rfl (lv_at hl 1 rfl) ?_
  refine n_getr 200 C (v := .ref (b + 24)) dX8_init_200 fl_X8_44 (by decide) rfl rfl ?_
  refine n_iload_n 203 C dX8_init_203 rfl (lv_at hl 0 rfl) ?_
  refine n_new 204 C (ci := 3) (N := 12) (fs := [.null, .null, .null, .null, .null, .int 0, .int 0, .int 0, .int 0, .int 0, .int 0, .int 0]) dX8_init_204 rfl rfl wc_X8_32 wi_X4 wt_X4 tyX4 tyX4_ok fd_X4 rfl (Nat.le_of_ble_eq_true rfl) (Nat.le_of_ble_eq_true rfl) (es1 := (eX8_init_64 b w es)) rfl ?_
  refine n_dup 207 C dX8_init_207 rfl ?_
  refine n_aload_n 208 C dX8_init_208 rfl (lv_at hl 1 rfl) ?_
  refine n_getr 209 C (v := .ref (b + 3)) dX8_init_209 fl_X8_21 (by decide) rfl rfl ?_
  refine n_ctorI 212 C (i := 58) (es1 := (eX8_init_65 b w es)) [.ref (b + 58), .int (1 : Int32), .ref (b + 24)] dX8_init_212 wm_X8_34 ⟨hyb_X4_init, hyi_X4_init_i⟩ rfl (ci_X4_init (by decide) (rfl)) ⟨Nat.le_of_ble_eq_true rfl, Nat.le_of_ble_eq_true rfl⟩ rfl hl.1 (Nat.le_of_ble_eq_true rfl) rfl rfl ⟨Nat.le_of_ble_eq_true rfl, Nat.le_of_ble_eq_true rfl⟩ ?_
  refine n_aast 215 C (f := va_up (fun _ => none) (Int32.toNatClampNeg (0 : Int32)) (some (b + 53))) (N := 3) (t := 2) (vs := [.ref (b + 3), .ref (b + 59), .ref (b + 60), .ref (b + 61), .ref (b + 62), .int 0, .int 0, .int 0, .int 0, .int 0, .int 0, .int 0]) dX8_init_215 (by decide) rfl rfl (by decide) rfl rfl (by decide) (es1 := (eX8_init_66 b w es)) rfl ?_
  refine n_iinc 216 C (v := (2 : Int32)) [(1, .int (2 : Int32)), (0, .ref (b + 0))] dX8_init_216 hl (j := 0) rfl (by decide) (by decide) rfl (fun ls hl => ?_)
  refine n_goto 219 194 C dX8_init_219 (by decide) ?_
  refine n_iload_n 194 C dX8_init_194 rfl (lv_at hl 0 rfl) ?_
  refine n_iconst 195 C (v := (3 : Int32)) dX8_init_195 (by decide) ?_
  refine n_ge_f 196 222 C dX8_init_196 (by decide) (by decide) ?_
  refine n_aload_n 199 C dX8_init_199 rfl (lv_at hl 1 rfl) ?_
  refine n_getr 200 C (v := .ref (b + 24)) dX8_init_200 fl_X8_44 (by decide) rfl rfl ?_
  refine n_iload_n 203 C dX8_init_203 rfl (lv_at hl 0 rfl) ?_
  refine n_new 204 C (ci := 3) (N := 12) (fs := [.null, .null, .null, .null, .null, .int 0, .int 0, .int 0, .int 0, .int 0, .int 0, .int 0]) dX8_init_204 rfl rfl wc_X8_32 wi_X4 wt_X4 tyX4 tyX4_ok fd_X4 rfl (Nat.le_of_ble_eq_true rfl) (Nat.le_of_ble_eq_true rfl) (es1 := (eX8_init_67 b w es)) rfl ?_
  refine n_dup 207 C dX8_init_207 rfl ?_
  refine n_aload_n 208 C dX8_init_208 rfl (lv_at hl 1 rfl) ?_
  refine n_getr 209 C (v := .ref (b + 3)) dX8_init_209 fl_X8_21 (by decide) rfl rfl ?_
  refine n_ctorI 212 C (i := 63) (es1 := (eX8_init_68 b w es)) [.ref (b + 63), .int (2 : Int32), .ref (b + 24)] dX8_init_212 wm_X8_34 ⟨hyb_X4_init, hyi_X4_init_i⟩ rfl (ci_X4_init (by decide) (rfl)) ⟨Nat.le_of_ble_eq_true rfl, Nat.le_of_ble_eq_true rfl⟩ rfl hl.1 (Nat.le_of_ble_eq_true rfl) rfl rfl ⟨Nat.le_of_ble_eq_true rfl, Nat.le_of_ble_eq_true rfl⟩ ?_
  refine n_aast 215 C (f := va_up (va_up (fun _ => none) (Int32.toNatClampNeg (0 : Int32)) (some (b + 53))) (Int32.toNatClampNeg (1 : Int32)) (some (b + 58))) (N := 3) (t := 2) (vs := [.ref (b + 3), .ref (b + 64), .ref (b + 65), .ref (b + 66), .ref (b + 67), .int 0, .int 0, .int 0, .int 0, .int 0, .int 0, .int 0]) dX8_init_215 (by decide) rfl rfl (by decide) rfl rfl (by decide) (es1 := (eX8_init_69 b w es)) rfl ?_
  refine n_iinc 216 C (v := (3 : Int32)) [(1, .int (3 : Int32)), (0, .ref (b + 0))] dX8_init_216 hl (j := 0) rfl (by decide) (by decide) rfl (fun ls hl => ?_)
  refine n_goto 219 194 C dX8_init_219 (by decide) ?_
  refine n_iload_n 194 C dX8_init_194 rfl (lv_at hl 0 rfl) ?_
  refine n_iconst 195 C (v := (3 : Int32)) dX8_init_195 (by decide) ?_
  refine n_ge_t 196 222 C dX8_init_196 (by decide) (by decide) ?_
  exact n_return 222 C hr dX8_init_222 rfl
theorem dX9_init_0 : decode cX9_init 0 = .ok (.aload_n 0, 1) := by decide +kernel
theorem dX9_init_1 : decode cX9_init 1 = .ok (.invokespecial 1, 3) := by decide +kernel
theorem dX9_init_4 : decode cX9_init 4 = .ok (.aload_n 0, 1) := by decide +kernel
theorem dX9_init_5 : decode cX9_init 5 = .ok (.sipush 2810, 3) := by decide +kernel
theorem dX9_init_8 : decode cX9_init 8 = .ok (.newarray .int, 2) := by decide +kernel
theorem dX9_init_10 : decode cX9_init 10 = .ok (.putfield 7, 3) := by decide +kernel
theorem dX9_init_13 : decode cX9_init 13 = .ok (.aload_n 0, 1) := by decide +kernel
theorem dX9_init_14 : decode cX9_init 14 = .ok (.bipush 6, 2) := by decide +kernel
theorem dX9_init_16 : decode cX9_init 16 = .ok (.newarray .int, 2) := by decide +kernel
theorem dX9_init_18 : decode cX9_init 18 = .ok (.putfield 13, 3) := by decide +kernel
theorem dX9_init_21 : decode cX9_init 21 = .ok (.aload_n 0, 1) := by decide +kernel
theorem dX9_init_22 : decode cX9_init 22 = .ok (.bipush 6, 2) := by decide +kernel
theorem dX9_init_24 : decode cX9_init 24 = .ok (.newarray .int, 2) := by decide +kernel
theorem dX9_init_26 : decode cX9_init 26 = .ok (.putfield 16, 3) := by decide +kernel
theorem dX9_init_29 : decode cX9_init 29 = .ok (.aload_n 0, 1) := by decide +kernel
theorem dX9_init_30 : decode cX9_init 30 = .ok (.bipush 6, 2) := by decide +kernel
theorem dX9_init_32 : decode cX9_init 32 = .ok (.newarray .int, 2) := by decide +kernel
theorem dX9_init_34 : decode cX9_init 34 = .ok (.putfield 19, 3) := by decide +kernel
theorem dX9_init_37 : decode cX9_init 37 = .ok (.aload_n 0, 1) := by decide +kernel
theorem dX9_init_38 : decode cX9_init 38 = .ok (.bipush 6, 2) := by decide +kernel
theorem dX9_init_40 : decode cX9_init 40 = .ok (.newarray .int, 2) := by decide +kernel
theorem dX9_init_42 : decode cX9_init 42 = .ok (.dup, 1) := by decide +kernel
theorem dX9_init_43 : decode cX9_init 43 = .ok (.iconst 0, 1) := by decide +kernel
theorem dX9_init_44 : decode cX9_init 44 = .ok (.iconst (-1), 1) := by decide +kernel
theorem dX9_init_45 : decode cX9_init 45 = .ok (.iastore, 1) := by decide +kernel
theorem dX9_init_46 : decode cX9_init 46 = .ok (.dup, 1) := by decide +kernel
theorem dX9_init_47 : decode cX9_init 47 = .ok (.iconst 1, 1) := by decide +kernel
theorem dX9_init_48 : decode cX9_init 48 = .ok (.iconst (-1), 1) := by decide +kernel
theorem dX9_init_49 : decode cX9_init 49 = .ok (.iastore, 1) := by decide +kernel
theorem dX9_init_50 : decode cX9_init 50 = .ok (.dup, 1) := by decide +kernel
theorem dX9_init_51 : decode cX9_init 51 = .ok (.iconst 2, 1) := by decide +kernel
theorem dX9_init_52 : decode cX9_init 52 = .ok (.iconst (-1), 1) := by decide +kernel
theorem dX9_init_53 : decode cX9_init 53 = .ok (.iastore, 1) := by decide +kernel
theorem dX9_init_54 : decode cX9_init 54 = .ok (.dup, 1) := by decide +kernel
theorem dX9_init_55 : decode cX9_init 55 = .ok (.iconst 3, 1) := by decide +kernel
theorem dX9_init_56 : decode cX9_init 56 = .ok (.iconst (-1), 1) := by decide +kernel
theorem dX9_init_57 : decode cX9_init 57 = .ok (.iastore, 1) := by decide +kernel
theorem dX9_init_58 : decode cX9_init 58 = .ok (.dup, 1) := by decide +kernel
theorem dX9_init_59 : decode cX9_init 59 = .ok (.iconst 4, 1) := by decide +kernel
theorem dX9_init_60 : decode cX9_init 60 = .ok (.iconst (-1), 1) := by decide +kernel
theorem dX9_init_61 : decode cX9_init 61 = .ok (.iastore, 1) := by decide +kernel
theorem dX9_init_62 : decode cX9_init 62 = .ok (.dup, 1) := by decide +kernel
theorem dX9_init_63 : decode cX9_init 63 = .ok (.iconst 5, 1) := by decide +kernel
theorem dX9_init_64 : decode cX9_init 64 = .ok (.iconst (-1), 1) := by decide +kernel
theorem dX9_init_65 : decode cX9_init 65 = .ok (.iastore, 1) := by decide +kernel
theorem dX9_init_66 : decode cX9_init 66 = .ok (.putfield 22, 3) := by decide +kernel
theorem dX9_init_69 : decode cX9_init 69 = .ok (.aload_n 0, 1) := by decide +kernel
theorem dX9_init_70 : decode cX9_init 70 = .ok (.sipush 240, 3) := by decide +kernel
theorem dX9_init_73 : decode cX9_init 73 = .ok (.newarray .int, 2) := by decide +kernel
theorem dX9_init_75 : decode cX9_init 75 = .ok (.putfield 25, 3) := by decide +kernel
theorem dX9_init_78 : decode cX9_init 78 = .ok (.aload_n 0, 1) := by decide +kernel
theorem dX9_init_79 : decode cX9_init 79 = .ok (.iconst 4, 1) := by decide +kernel
theorem dX9_init_80 : decode cX9_init 80 = .ok (.newarray .int, 2) := by decide +kernel
theorem dX9_init_82 : decode cX9_init 82 = .ok (.dup, 1) := by decide +kernel
theorem dX9_init_83 : decode cX9_init 83 = .ok (.iconst 0, 1) := by decide +kernel
theorem dX9_init_84 : decode cX9_init 84 = .ok (.iconst (-1), 1) := by decide +kernel
theorem dX9_init_85 : decode cX9_init 85 = .ok (.iastore, 1) := by decide +kernel
theorem dX9_init_86 : decode cX9_init 86 = .ok (.dup, 1) := by decide +kernel
theorem dX9_init_87 : decode cX9_init 87 = .ok (.iconst 1, 1) := by decide +kernel
theorem dX9_init_88 : decode cX9_init 88 = .ok (.iconst (-1), 1) := by decide +kernel
theorem dX9_init_89 : decode cX9_init 89 = .ok (.iastore, 1) := by decide +kernel
theorem dX9_init_90 : decode cX9_init 90 = .ok (.dup, 1) := by decide +kernel
theorem dX9_init_91 : decode cX9_init 91 = .ok (.iconst 2, 1) := by decide +kernel
theorem dX9_init_92 : decode cX9_init 92 = .ok (.iconst (-1), 1) := by decide +kernel
theorem dX9_init_93 : decode cX9_init 93 = .ok (.iastore, 1) := by decide +kernel
theorem dX9_init_94 : decode cX9_init 94 = .ok (.dup, 1) := by decide +kernel
theorem dX9_init_95 : decode cX9_init 95 = .ok (.iconst 3, 1) := by decide +kernel
theorem dX9_init_96 : decode cX9_init 96 = .ok (.iconst (-1), 1) := by decide +kernel
theorem dX9_init_97 : decode cX9_init 97 = .ok (.iastore, 1) := by decide +kernel
theorem dX9_init_98 : decode cX9_init 98 = .ok (.putfield 28, 3) := by decide +kernel
theorem dX9_init_101 : decode cX9_init 101 = .ok (.aload_n 0, 1) := by decide +kernel
theorem dX9_init_102 : decode cX9_init 102 = .ok (.sipush 240, 3) := by decide +kernel
theorem dX9_init_105 : decode cX9_init 105 = .ok (.newarray .int, 2) := by decide +kernel
theorem dX9_init_107 : decode cX9_init 107 = .ok (.putfield 31, 3) := by decide +kernel
theorem dX9_init_110 : decode cX9_init 110 = .ok (.aload_n 0, 1) := by decide +kernel
theorem dX9_init_111 : decode cX9_init 111 = .ok (.lconst 1, 1) := by decide +kernel
theorem dX9_init_112 : decode cX9_init 112 = .ok (.putfield 34, 3) := by decide +kernel
theorem dX9_init_115 : decode cX9_init 115 = .ok (.aload_n 0, 1) := by decide +kernel
theorem dX9_init_116 : decode cX9_init 116 = .ok (.bipush 6, 2) := by decide +kernel
theorem dX9_init_118 : decode cX9_init 118 = .ok (.newarray .int, 2) := by decide +kernel
theorem dX9_init_120 : decode cX9_init 120 = .ok (.putfield 38, 3) := by decide +kernel
theorem dX9_init_123 : decode cX9_init 123 = .ok (.aload_n 0, 1) := by decide +kernel
theorem dX9_init_124 : decode cX9_init 124 = .ok (.bipush 6, 2) := by decide +kernel
theorem dX9_init_126 : decode cX9_init 126 = .ok (.newarray .int, 2) := by decide +kernel
theorem dX9_init_128 : decode cX9_init 128 = .ok (.putfield 41, 3) := by decide +kernel
theorem dX9_init_131 : decode cX9_init 131 = .ok (.aload_n 0, 1) := by decide +kernel
theorem dX9_init_132 : decode cX9_init 132 = .ok (.bipush 18, 2) := by decide +kernel
theorem dX9_init_134 : decode cX9_init 134 = .ok (.newarray .int, 2) := by decide +kernel
theorem dX9_init_136 : decode cX9_init 136 = .ok (.putfield 44, 3) := by decide +kernel
theorem dX9_init_139 : decode cX9_init 139 = .ok (.aload_n 0, 1) := by decide +kernel
theorem dX9_init_140 : decode cX9_init 140 = .ok (.bipush 6, 2) := by decide +kernel
theorem dX9_init_142 : decode cX9_init 142 = .ok (.newarray .int, 2) := by decide +kernel
theorem dX9_init_144 : decode cX9_init 144 = .ok (.putfield 47, 3) := by decide +kernel
theorem dX9_init_147 : decode cX9_init 147 = .ok (.aload_n 0, 1) := by decide +kernel
theorem dX9_init_148 : decode cX9_init 148 = .ok (.bipush 6, 2) := by decide +kernel
theorem dX9_init_150 : decode cX9_init 150 = .ok (.newarray .int, 2) := by decide +kernel
theorem dX9_init_152 : decode cX9_init 152 = .ok (.putfield 50, 3) := by decide +kernel
theorem dX9_init_155 : decode cX9_init 155 = .ok (.aload_n 0, 1) := by decide +kernel
theorem dX9_init_156 : decode cX9_init 156 = .ok (.bipush 7, 2) := by decide +kernel
theorem dX9_init_158 : decode cX9_init 158 = .ok (.newarray .int, 2) := by decide +kernel
theorem dX9_init_160 : decode cX9_init 160 = .ok (.putfield 53, 3) := by decide +kernel
theorem dX9_init_163 : decode cX9_init 163 = .ok (.iconst 1, 1) := by decide +kernel
theorem dX9_init_164 : decode cX9_init 164 = .ok (.istore_n 1, 1) := by decide +kernel
theorem dX9_init_165 : decode cX9_init 165 = .ok (.iload_n 1, 1) := by decide +kernel
theorem dX9_init_166 : decode cX9_init 166 = .ok (.iconst 4, 1) := by decide +kernel
theorem dX9_init_167 : decode cX9_init 167 = .ok (.if_icmp .ge 22, 3) := by decide +kernel
theorem dX9_init_170 : decode cX9_init 170 = .ok (.aload_n 0, 1) := by decide +kernel
theorem dX9_init_171 : decode cX9_init 171 = .ok (.getfield 7, 3) := by decide +kernel
theorem dX9_init_174 : decode cX9_init 174 = .ok (.sipush 698, 3) := by decide +kernel
theorem dX9_init_177 : decode cX9_init 177 = .ok (.iload_n 1, 1) := by decide +kernel
theorem dX9_init_178 : decode cX9_init 178 = .ok (.imul, 1) := by decide +kernel
theorem dX9_init_179 : decode cX9_init 179 = .ok (.iconst 0, 1) := by decide +kernel
theorem dX9_init_180 : decode cX9_init 180 = .ok (.iadd, 1) := by decide +kernel
theorem dX9_init_181 : decode cX9_init 181 = .ok (.iconst (-1), 1) := by decide +kernel
theorem dX9_init_182 : decode cX9_init 182 = .ok (.iastore, 1) := by decide +kernel
theorem dX9_init_183 : decode cX9_init 183 = .ok (.iinc 1 1, 3) := by decide +kernel
theorem dX9_init_186 : decode cX9_init 186 = .ok (.goto (-21), 3) := by decide +kernel
theorem dX9_init_189 : decode cX9_init 189 = .ok (.return_, 1) := by decide +kernel
def eX9_init_1 (b n i : Nat) (w : zWd) (es : Nat → va_E) : Nat → va_E := va_up es n (.inl (w.2.1 0, 2810, .inl (fun _ => 0)))
def eX9_init_2 (b n i : Nat) (w : zWd) (es : Nat → va_E) : Nat → va_E := va_up (eX9_init_1 b n i w es) i (.inr (8, [.ref (b + n), .int 0, .int 0, .null, .null, .null, .null, .null, .null, .null, .int 0, .long 0, .long 0, .int 0, .null, .int 0, .int 0, .int 0, .int 0, .int 0, .int 0, .null, .int 0, .null, .null, .null, .null]))
def eX9_init_3 (b n i : Nat) (w : zWd) (es : Nat → va_E) : Nat → va_E := va_up (eX9_init_2 b n i w es) (n + 1) (.inl (w.2.1 0, 6, .inl (fun _ => 0)))
def eX9_init_4 (b n i : Nat) (w : zWd) (es : Nat → va_E) : Nat → va_E := va_up (eX9_init_3 b n i w es) i (.inr (8, [.ref (b + n), .int 0, .int 0, .ref (b + (n + 1)), .null, .null, .null, .null, .null, .null, .int 0, .long 0, .long 0, .int 0, .null, .int 0, .int 0, .int 0, .int 0, .int 0, .int 0, .null, .int 0, .null, .null, .null, .null]))
def eX9_init_5 (b n i : Nat) (w : zWd) (es : Nat → va_E) : Nat → va_E := va_up (eX9_init_4 b n i w es) (n + 2) (.inl (w.2.1 0, 6, .inl (fun _ => 0)))
def eX9_init_6 (b n i : Nat) (w : zWd) (es : Nat → va_E) : Nat → va_E := va_up (eX9_init_5 b n i w es) i (.inr (8, [.ref (b + n), .int 0, .int 0, .ref (b + (n + 1)), .ref (b + (n + 2)), .null, .null, .null, .null, .null, .int 0, .long 0, .long 0, .int 0, .null, .int 0, .int 0, .int 0, .int 0, .int 0, .int 0, .null, .int 0, .null, .null, .null, .null]))
def eX9_init_7 (b n i : Nat) (w : zWd) (es : Nat → va_E) : Nat → va_E := va_up (eX9_init_6 b n i w es) (n + 3) (.inl (w.2.1 0, 6, .inl (fun _ => 0)))
def eX9_init_8 (b n i : Nat) (w : zWd) (es : Nat → va_E) : Nat → va_E := va_up (eX9_init_7 b n i w es) i (.inr (8, [.ref (b + n), .int 0, .int 0, .ref (b + (n + 1)), .ref (b + (n + 2)), .ref (b + (n + 3)), .null, .null, .null, .null, .int 0, .long 0, .long 0, .int 0, .null, .int 0, .int 0, .int 0, .int 0, .int 0, .int 0, .null, .int 0, .null, .null, .null, .null]))
def eX9_init_9 (b n i : Nat) (w : zWd) (es : Nat → va_E) : Nat → va_E := va_up (eX9_init_8 b n i w es) (n + 4) (.inl (w.2.1 0, 6, .inl (fun _ => 0)))
def eX9_init_10 (b n i : Nat) (w : zWd) (es : Nat → va_E) : Nat → va_E := va_up (eX9_init_9 b n i w es) (n + 4) (.inl (w.2.1 0, 6, .inl (upd (fun _ => 0) (Int32.toNatClampNeg (0 : Int32)) (-1 : Int32))))
def eX9_init_11 (b n i : Nat) (w : zWd) (es : Nat → va_E) : Nat → va_E := va_up (eX9_init_10 b n i w es) (n + 4) (.inl (w.2.1 0, 6, .inl (upd (upd (fun _ => 0) (Int32.toNatClampNeg (0 : Int32)) (-1 : Int32)) (Int32.toNatClampNeg (1 : Int32)) (-1 : Int32))))
def eX9_init_12 (b n i : Nat) (w : zWd) (es : Nat → va_E) : Nat → va_E := va_up (eX9_init_11 b n i w es) (n + 4) (.inl (w.2.1 0, 6, .inl (upd (upd (upd (fun _ => 0) (Int32.toNatClampNeg (0 : Int32)) (-1 : Int32)) (Int32.toNatClampNeg (1 : Int32)) (-1 : Int32)) (Int32.toNatClampNeg (2 : Int32)) (-1 : Int32))))
def eX9_init_13 (b n i : Nat) (w : zWd) (es : Nat → va_E) : Nat → va_E := va_up (eX9_init_12 b n i w es) (n + 4) (.inl (w.2.1 0, 6, .inl (upd (upd (upd (upd (fun _ => 0) (Int32.toNatClampNeg (0 : Int32)) (-1 : Int32)) (Int32.toNatClampNeg (1 : Int32)) (-1 : Int32)) (Int32.toNatClampNeg (2 : Int32)) (-1 : Int32)) (Int32.toNatClampNeg (3 : Int32)) (-1 : Int32))))
def eX9_init_14 (b n i : Nat) (w : zWd) (es : Nat → va_E) : Nat → va_E := va_up (eX9_init_13 b n i w es) (n + 4) (.inl (w.2.1 0, 6, .inl (upd (upd (upd (upd (upd (fun _ => 0) (Int32.toNatClampNeg (0 : Int32)) (-1 : Int32)) (Int32.toNatClampNeg (1 : Int32)) (-1 : Int32)) (Int32.toNatClampNeg (2 : Int32)) (-1 : Int32)) (Int32.toNatClampNeg (3 : Int32)) (-1 : Int32)) (Int32.toNatClampNeg (4 : Int32)) (-1 : Int32))))
def eX9_init_15 (b n i : Nat) (w : zWd) (es : Nat → va_E) : Nat → va_E := va_up (eX9_init_14 b n i w es) (n + 4) (.inl (w.2.1 0, 6, .inl (upd (upd (upd (upd (upd (upd (fun _ => 0) (Int32.toNatClampNeg (0 : Int32)) (-1 : Int32)) (Int32.toNatClampNeg (1 : Int32)) (-1 : Int32)) (Int32.toNatClampNeg (2 : Int32)) (-1 : Int32)) (Int32.toNatClampNeg (3 : Int32)) (-1 : Int32)) (Int32.toNatClampNeg (4 : Int32)) (-1 : Int32)) (Int32.toNatClampNeg (5 : Int32)) (-1 : Int32))))
def eX9_init_16 (b n i : Nat) (w : zWd) (es : Nat → va_E) : Nat → va_E := va_up (eX9_init_15 b n i w es) i (.inr (8, [.ref (b + n), .int 0, .int 0, .ref (b + (n + 1)), .ref (b + (n + 2)), .ref (b + (n + 3)), .ref (b + (n + 4)), .null, .null, .null, .int 0, .long 0, .long 0, .int 0, .null, .int 0, .int 0, .int 0, .int 0, .int 0, .int 0, .null, .int 0, .null, .null, .null, .null]))
def eX9_init_17 (b n i : Nat) (w : zWd) (es : Nat → va_E) : Nat → va_E := va_up (eX9_init_16 b n i w es) (n + 5) (.inl (w.2.1 0, 240, .inl (fun _ => 0)))
def eX9_init_18 (b n i : Nat) (w : zWd) (es : Nat → va_E) : Nat → va_E := va_up (eX9_init_17 b n i w es) i (.inr (8, [.ref (b + n), .int 0, .int 0, .ref (b + (n + 1)), .ref (b + (n + 2)), .ref (b + (n + 3)), .ref (b + (n + 4)), .ref (b + (n + 5)), .null, .null, .int 0, .long 0, .long 0, .int 0, .null, .int 0, .int 0, .int 0, .int 0, .int 0, .int 0, .null, .int 0, .null, .null, .null, .null]))
def eX9_init_19 (b n i : Nat) (w : zWd) (es : Nat → va_E) : Nat → va_E := va_up (eX9_init_18 b n i w es) (n + 6) (.inl (w.2.1 0, 4, .inl (fun _ => 0)))
def eX9_init_20 (b n i : Nat) (w : zWd) (es : Nat → va_E) : Nat → va_E := va_up (eX9_init_19 b n i w es) (n + 6) (.inl (w.2.1 0, 4, .inl (upd (fun _ => 0) (Int32.toNatClampNeg (0 : Int32)) (-1 : Int32))))
def eX9_init_21 (b n i : Nat) (w : zWd) (es : Nat → va_E) : Nat → va_E := va_up (eX9_init_20 b n i w es) (n + 6) (.inl (w.2.1 0, 4, .inl (upd (upd (fun _ => 0) (Int32.toNatClampNeg (0 : Int32)) (-1 : Int32)) (Int32.toNatClampNeg (1 : Int32)) (-1 : Int32))))
def eX9_init_22 (b n i : Nat) (w : zWd) (es : Nat → va_E) : Nat → va_E := va_up (eX9_init_21 b n i w es) (n + 6) (.inl (w.2.1 0, 4, .inl (upd (upd (upd (fun _ => 0) (Int32.toNatClampNeg (0 : Int32)) (-1 : Int32)) (Int32.toNatClampNeg (1 : Int32)) (-1 : Int32)) (Int32.toNatClampNeg (2 : Int32)) (-1 : Int32))))
def eX9_init_23 (b n i : Nat) (w : zWd) (es : Nat → va_E) : Nat → va_E := va_up (eX9_init_22 b n i w es) (n + 6) (.inl (w.2.1 0, 4, .inl (upd (upd (upd (upd (fun _ => 0) (Int32.toNatClampNeg (0 : Int32)) (-1 : Int32)) (Int32.toNatClampNeg (1 : Int32)) (-1 : Int32)) (Int32.toNatClampNeg (2 : Int32)) (-1 : Int32)) (Int32.toNatClampNeg (3 : Int32)) (-1 : Int32))))
def eX9_init_24 (b n i : Nat) (w : zWd) (es : Nat → va_E) : Nat → va_E := va_up (eX9_init_23 b n i w es) i (.inr (8, [.ref (b + n), .int 0, .int 0, .ref (b + (n + 1)), .ref (b + (n + 2)), .ref (b + (n + 3)), .ref (b + (n + 4)), .ref (b + (n + 5)), .ref (b + (n + 6)), .null, .int 0, .long 0, .long 0, .int 0, .null, .int 0, .int 0, .int 0, .int 0, .int 0, .int 0, .null, .int 0, .null, .null, .null, .null]))
def eX9_init_25 (b n i : Nat) (w : zWd) (es : Nat → va_E) : Nat → va_E := va_up (eX9_init_24 b n i w es) (n + 7) (.inl (w.2.1 0, 240, .inl (fun _ => 0)))
def eX9_init_26 (b n i : Nat) (w : zWd) (es : Nat → va_E) : Nat → va_E := va_up (eX9_init_25 b n i w es) i (.inr (8, [.ref (b + n), .int 0, .int 0, .ref (b + (n + 1)), .ref (b + (n + 2)), .ref (b + (n + 3)), .ref (b + (n + 4)), .ref (b + (n + 5)), .ref (b + (n + 6)), .ref (b + (n + 7)), .int 0, .long 0, .long 0, .int 0, .null, .int 0, .int 0, .int 0, .int 0, .int 0, .int 0, .null, .int 0, .null, .null, .null, .null]))
def eX9_init_27 (b n i : Nat) (w : zWd) (es : Nat → va_E) : Nat → va_E := va_up (eX9_init_26 b n i w es) i (.inr (8, [.ref (b + n), .int 0, .int 0, .ref (b + (n + 1)), .ref (b + (n + 2)), .ref (b + (n + 3)), .ref (b + (n + 4)), .ref (b + (n + 5)), .ref (b + (n + 6)), .ref (b + (n + 7)), .int 0, .long 0, .long (1 : Int64), .int 0, .null, .int 0, .int 0, .int 0, .int 0, .int 0, .int 0, .null, .int 0, .null, .null, .null, .null]))
def eX9_init_28 (b n i : Nat) (w : zWd) (es : Nat → va_E) : Nat → va_E := va_up (eX9_init_27 b n i w es) (n + 8) (.inl (w.2.1 0, 6, .inl (fun _ => 0)))
def eX9_init_29 (b n i : Nat) (w : zWd) (es : Nat → va_E) : Nat → va_E := va_up (eX9_init_28 b n i w es) i (.inr (8, [.ref (b + n), .int 0, .int 0, .ref (b + (n + 1)), .ref (b + (n + 2)), .ref (b + (n + 3)), .ref (b + (n + 4)), .ref (b + (n + 5)), .ref (b + (n + 6)), .ref (b + (n + 7)), .int 0, .long 0, .long (1 : Int64), .int 0, .ref (b + (n + 8)), .int 0, .int 0, .int 0, .int 0, .int 0, .int 0, .null, .int 0, .null, .null, .null, .null]))
def eX9_init_30 (b n i : Nat) (w : zWd) (es : Nat → va_E) : Nat → va_E := va_up (eX9_init_29 b n i w es) (n + 9) (.inl (w.2.1 0, 6, .inl (fun _ => 0)))
def eX9_init_31 (b n i : Nat) (w : zWd) (es : Nat → va_E) : Nat → va_E := va_up (eX9_init_30 b n i w es) i (.inr (8, [.ref (b + n), .int 0, .int 0, .ref (b + (n + 1)), .ref (b + (n + 2)), .ref (b + (n + 3)), .ref (b + (n + 4)), .ref (b + (n + 5)), .ref (b + (n + 6)), .ref (b + (n + 7)), .int 0, .long 0, .long (1 : Int64), .int 0, .ref (b + (n + 8)), .int 0, .int 0, .int 0, .int 0, .int 0, .int 0, .ref (b + (n + 9)), .int 0, .null, .null, .null, .null]))
def eX9_init_32 (b n i : Nat) (w : zWd) (es : Nat → va_E) : Nat → va_E := va_up (eX9_init_31 b n i w es) (n + 10) (.inl (w.2.1 0, 18, .inl (fun _ => 0)))
def eX9_init_33 (b n i : Nat) (w : zWd) (es : Nat → va_E) : Nat → va_E := va_up (eX9_init_32 b n i w es) i (.inr (8, [.ref (b + n), .int 0, .int 0, .ref (b + (n + 1)), .ref (b + (n + 2)), .ref (b + (n + 3)), .ref (b + (n + 4)), .ref (b + (n + 5)), .ref (b + (n + 6)), .ref (b + (n + 7)), .int 0, .long 0, .long (1 : Int64), .int 0, .ref (b + (n + 8)), .int 0, .int 0, .int 0, .int 0, .int 0, .int 0, .ref (b + (n + 9)), .int 0, .ref (b + (n + 10)), .null, .null, .null]))
def eX9_init_34 (b n i : Nat) (w : zWd) (es : Nat → va_E) : Nat → va_E := va_up (eX9_init_33 b n i w es) (n + 11) (.inl (w.2.1 0, 6, .inl (fun _ => 0)))
def eX9_init_35 (b n i : Nat) (w : zWd) (es : Nat → va_E) : Nat → va_E := va_up (eX9_init_34 b n i w es) i (.inr (8, [.ref (b + n), .int 0, .int 0, .ref (b + (n + 1)), .ref (b + (n + 2)), .ref (b + (n + 3)), .ref (b + (n + 4)), .ref (b + (n + 5)), .ref (b + (n + 6)), .ref (b + (n + 7)), .int 0, .long 0, .long (1 : Int64), .int 0, .ref (b + (n + 8)), .int 0, .int 0, .int 0, .int 0, .int 0, .int 0, .ref (b + (n + 9)), .int 0, .ref (b + (n + 10)), .ref (b + (n + 11)), .null, .null]))
def eX9_init_36 (b n i : Nat) (w : zWd) (es : Nat → va_E) : Nat → va_E := va_up (eX9_init_35 b n i w es) (n + 12) (.inl (w.2.1 0, 6, .inl (fun _ => 0)))
def eX9_init_37 (b n i : Nat) (w : zWd) (es : Nat → va_E) : Nat → va_E := va_up (eX9_init_36 b n i w es) i (.inr (8, [.ref (b + n), .int 0, .int 0, .ref (b + (n + 1)), .ref (b + (n + 2)), .ref (b + (n + 3)), .ref (b + (n + 4)), .ref (b + (n + 5)), .ref (b + (n + 6)), .ref (b + (n + 7)), .int 0, .long 0, .long (1 : Int64), .int 0, .ref (b + (n + 8)), .int 0, .int 0, .int 0, .int 0, .int 0, .int 0, .ref (b + (n + 9)), .int 0, .ref (b + (n + 10)), .ref (b + (n + 11)), .ref (b + (n + 12)), .null]))
def eX9_init_38 (b n i : Nat) (w : zWd) (es : Nat → va_E) : Nat → va_E := va_up (eX9_init_37 b n i w es) (n + 13) (.inl (w.2.1 0, 7, .inl (fun _ => 0)))
def eX9_init_39 (b n i : Nat) (w : zWd) (es : Nat → va_E) : Nat → va_E := va_up (eX9_init_38 b n i w es) i (.inr (8, [.ref (b + n), .int 0, .int 0, .ref (b + (n + 1)), .ref (b + (n + 2)), .ref (b + (n + 3)), .ref (b + (n + 4)), .ref (b + (n + 5)), .ref (b + (n + 6)), .ref (b + (n + 7)), .int 0, .long 0, .long (1 : Int64), .int 0, .ref (b + (n + 8)), .int 0, .int 0, .int 0, .int 0, .int 0, .int 0, .ref (b + (n + 9)), .int 0, .ref (b + (n + 10)), .ref (b + (n + 11)), .ref (b + (n + 12)), .ref (b + (n + 13))]))
def eX9_init_40 (b n i : Nat) (w : zWd) (es : Nat → va_E) : Nat → va_E := va_up (eX9_init_39 b n i w es) n (.inl (w.2.1 0, 2810, .inl (upd (fun _ => 0) (Int32.toNatClampNeg (698 : Int32)) (-1 : Int32))))
def eX9_init_41 (b n i : Nat) (w : zWd) (es : Nat → va_E) : Nat → va_E := va_up (eX9_init_40 b n i w es) n (.inl (w.2.1 0, 2810, .inl (upd (upd (fun _ => 0) (Int32.toNatClampNeg (698 : Int32)) (-1 : Int32)) (Int32.toNatClampNeg (1396 : Int32)) (-1 : Int32))))
def eX9_init_42 (b n i : Nat) (w : zWd) (es : Nat → va_E) : Nat → va_E := va_up (eX9_init_41 b n i w es) n (.inl (w.2.1 0, 2810, .inl (upd (upd (upd (fun _ => 0) (Int32.toNatClampNeg (698 : Int32)) (-1 : Int32)) (Int32.toNatClampNeg (1396 : Int32)) (-1 : Int32)) (Int32.toNatClampNeg (2094 : Int32)) (-1 : Int32))))
set_option maxRecDepth 100000 in
set_option maxHeartbeats 4000000 in
theorem ci_X9_init {w : zWd} {l0 : Launch} {b : Nat} {es : Nat → va_E} {n i : Nat} (hi : i < n) (he : es i = .inr (8, [.null, .int 0, .int 0, .null, .null, .null, .null, .null, .null, .null, .int 0, .long 0, .long 0, .int 0, .null, .int 0, .int 0, .int 0, .int 0, .int 0, .int 0, .null, .int 0, .null, .null, .null, .null])) : zNet w l0 yX9_init cX9_init 2 1 14 (3367) b [.ref (b + i)] n es (n + 14) (eX9_init_42 b n i w es) := by
  refine zNet_of (by decide +kernel) rfl (Nat.le_of_ble_eq_true rfl) ?_
  intro p e s m below meth c ls hin hr C hl
  refine n_aload_n 0 C dX9_init_0 rfl (lv_at hl 0 rfl) ?_
  refine n_obj 1 C dX9_init_1 wm_X9_1 wOi wOc hl.1 (Nat.le_of_ble_eq_true rfl) (Nat.le_of_ble_eq_true rfl) ?_
  refine n_aload_n 4 C dX9_init_4 rfl (lv_at hl 0 rfl) ?_
  refine n_sipush 5 C (v := (2810 : Int32)) dX9_init_5 (by decide) ?_
  refine n_newi 8 C (N := 2810) dX9_init_8 wArr (by decide) (by decide) (by decide) rfl (Nat.le_of_ble_eq_true rfl) (Nat.le_of_ble_eq_true rfl) (es1 := (eX9_init_1 b n i w es)) rfl ?_
  refine n_putF 10 C (fs := [.null, .int 0, .int 0, .null, .null, .null, .null, .null, .null, .null, .int 0, .long 0, .long 0, .int 0, .null, .int 0, .int 0, .int 0, .int 0, .int 0, .int 0, .null, .int 0, .null, .null, .null, .null]) (v := .ref (b + n)) hin dX9_init_10 fl_X9_7 ff_8_0 (by omega) (by exact (up_n (by omega)).trans (he)) (Nat.le_of_ble_eq_true rfl) rfl rfl (es1 := (eX9_init_2 b n i w es)) rfl ?_
  refine n_aload_n 13 C dX9_init_13 rfl (lv_at hl 0 rfl) ?_
  refine n_bipush 14 C (v := (6 : Int32)) dX9_init_14 (by decide) ?_
  refine n_newi 16 C (N := 6) dX9_init_16 wArr (by decide) (by decide) (by decide) rfl (Nat.le_of_ble_eq_true rfl) (Nat.le_of_ble_eq_true rfl) (es1 := (eX9_init_3 b n i w es)) rfl ?_
  refine n_putF 18 C (fs := [.ref (b + n), .int 0, .int 0, .null, .null, .null, .null, .null, .null, .null, .int 0, .long 0, .long 0, .int 0, .null, .int 0, .int 0, .int 0, .int 0, .int 0, .int 0, .null, .int 0, .null, .null, .null, .null]) (v := .ref (b + (n + 1))) hin dX9_init_18 fl_X9_13 ff_8_3 (by omega) (by exact (up_n (by omega)).trans (up_s)) (Nat.le_of_ble_eq_true rfl) rfl rfl (es1 := (eX9_init_4 b n i w es)) rfl ?_
  refine n_aload_n 21 C dX9_init_21 rfl (lv_at hl 0 rfl) ?_
  refine n_bipush 22 C (v := (6 : Int32)) dX9_init_22 (by decide) ?_
  refine n_newi 24 C (N := 6) dX9_init_24 wArr (by decide) (by decide) (by decide) rfl (Nat.le_of_ble_eq_true rfl) (Nat.le_of_ble_eq_true rfl) (es1 := (eX9_init_5 b n i w es)) rfl ?_
  refine n_putF 26 C (fs := [.ref (b + n), .int 0, .int 0, .ref (b + (n + 1)), .null, .null, .null, .null, .null, .null, .int 0, .long 0, .long 0, .int 0, .null, .int 0, .int 0, .int 0, .int 0, .int 0, .int 0, .null, .int 0, .null, .null, .null, .null]) (v := .ref (b + (n + 2))) hin dX9_init_26 fl_X9_16 ff_8_4 (by omega) (by exact (up_n (by omega)).trans (up_s)) (Nat.le_of_ble_eq_true rfl) rfl rfl (es1 := (eX9_init_6 b n i w es)) rfl ?_
  refine n_aload_n 29 C dX9_init_29 rfl (lv_at hl 0 rfl) ?_
  refine n_bipush 30 C (v := (6 : Int32)) dX9_init_30 (by decide) ?_
  refine n_newi 32 C (N := 6) dX9_init_32 wArr (by decide) (by decide) (by decide) rfl (Nat.le_of_ble_eq_true rfl) (Nat.le_of_ble_eq_true rfl) (es1 := (eX9_init_7 b n i w es)) rfl ?_
  refine n_putF 34 C (fs := [.ref (b + n), .int 0, .int 0, .ref (b + (n + 1)), .ref (b + (n + 2)), .null, .null, .null, .null, .null, .int 0, .long 0, .long 0, .int 0, .null, .int 0, .int 0, .int 0, .int 0, .int 0, .int 0, .null, .int 0, .null, .null, .null, .null]) (v := .ref (b + (n + 3))) hin dX9_init_34 fl_X9_19 ff_8_5 (by omega) (by exact (up_n (by omega)).trans (up_s)) (Nat.le_of_ble_eq_true rfl) rfl rfl (es1 := (eX9_init_8 b n i w es)) rfl ?_
  refine n_aload_n 37 C dX9_init_37 rfl (lv_at hl 0 rfl) ?_
  refine n_bipush 38 C (v := (6 : Int32)) dX9_init_38 (by decide) ?_
  refine n_newi 40 C (N := 6) dX9_init_40 wArr (by decide) (by decide) (by decide) rfl (Nat.le_of_ble_eq_true rfl) (Nat.le_of_ble_eq_true rfl) (es1 := (eX9_init_9 b n i w es)) rfl ?_
  refine n_dup 42 C dX9_init_42 rfl ?_
  refine n_iconst 43 C (v := (0 : Int32)) dX9_init_43 (by decide) ?_
  refine n_iconst 44 C (v := (-1 : Int32)) dX9_init_44 (by decide) ?_
  refine n_iast 45 C (f := fun _ => 0) (N := 6) dX9_init_45 (by omega) (by exact up_s) (by decide) (es1 := (eX9_init_10 b n i w es)) rfl ?_
  refine n_dup 46 C dX9_init_46 rfl ?_
  refine n_iconst 47 C (v := (1 : Int32)) dX9_init_47 (by decide) ?_
  refine n_iconst 48 C (v := (-1 : Int32)) dX9_init_48 (by decide) ?_
  refine n_iast 49 C (f := upd (fun _ => 0) (Int32.toNatClampNeg (0 : Int32)) (-1 : Int32)) (N := 6) dX9_init_49 (by omega) (by exact up_s) (by decide) (es1 := (eX9_init_11 b n i w es)) rfl ?_
  refine n_dup 50 C dX9_init_50 rfl ?_
  refine n_iconst 51 C (v := (2 : Int32)) dX9_init_51 (by decide) ?_
  refine n_iconst 52 C (v := (-1 : Int32)) dX9_init_52 (by decide) ?_
  refine n_iast 53 C (f := upd (upd (fun _ => 0) (Int32.toNatClampNeg (0 : Int32)) (-1 : Int32)) (Int32.toNatClampNeg (1 : Int32)) (-1 : Int32)) (N := 6) dX9_init_53 (by omega) (by exact up_s) (by decide) (es1 := (eX9_init_12 b n i w es)) rfl ?_
  refine n_dup 54 C dX9_init_54 rfl ?_
  refine n_iconst 55 C (v := (3 : Int32)) dX9_init_55 (by decide) ?_
  refine n_iconst 56 C (v := (-1 : Int32)) dX9_init_56 (by decide) ?_
  refine n_iast 57 C (f := upd (upd (upd (fun _ => 0) (Int32.toNatClampNeg (0 : Int32)) (-1 : Int32)) (Int32.toNatClampNeg (1 : Int32)) (-1 : Int32)) (Int32.toNatClampNeg (2 : Int32)) (-1 : Int32)) (N := 6) dX9_init_57 (by omega) (by exact up_s) (by decide) (es1 := (eX9_init_13 b n i w es)) rfl ?_
  refine n_dup 58 C dX9_init_58 rfl ?_
  refine n_iconst 59 C (v := (4 : Int32)) dX9_init_59 (by decide) ?_
  refine n_iconst 60 C (v := (-1 : Int32)) dX9_init_60 (by decide) ?_
  refine n_iast 61 C (f := upd (upd (upd (upd (fun _ => 0) (Int32.toNatClampNeg (0 : Int32)) (-1 : Int32)) (Int32.toNatClampNeg (1 : Int32)) (-1 : Int32)) (Int32.toNatClampNeg (2 : Int32)) (-1 : Int32)) (Int32.toNatClampNeg (3 : Int32)) (-1 : Int32)) (N := 6) dX9_init_61 (by omega) (by exact up_s) (by decide) (es1 := (eX9_init_14 b n i w es)) rfl ?_
  refine n_dup 62 C dX9_init_62 rfl ?_
  refine n_iconst 63 C (v := (5 : Int32)) dX9_init_63 (by decide) ?_
  refine n_iconst 64 C (v := (-1 : Int32)) dX9_init_64 (by decide) ?_
  refine n_iast 65 C (f := upd (upd (upd (upd (upd (fun _ => 0) (Int32.toNatClampNeg (0 : Int32)) (-1 : Int32)) (Int32.toNatClampNeg (1 : Int32)) (-1 : Int32)) (Int32.toNatClampNeg (2 : Int32)) (-1 : Int32)) (Int32.toNatClampNeg (3 : Int32)) (-1 : Int32)) (Int32.toNatClampNeg (4 : Int32)) (-1 : Int32)) (N := 6) dX9_init_65 (by omega) (by exact up_s) (by decide) (es1 := (eX9_init_15 b n i w es)) rfl ?_
  refine n_putF 66 C (fs := [.ref (b + n), .int 0, .int 0, .ref (b + (n + 1)), .ref (b + (n + 2)), .ref (b + (n + 3)), .null, .null, .null, .null, .int 0, .long 0, .long 0, .int 0, .null, .int 0, .int 0, .int 0, .int 0, .int 0, .int 0, .null, .int 0, .null, .null, .null, .null]) (v := .ref (b + (n + 4))) hin dX9_init_66 fl_X9_22 ff_8_6 (by omega) (by exact (up_n (by omega)).trans ((up_n (by omega)).trans ((up_n (by omega)).trans ((up_n (by omega)).trans ((up_n (by omega)).trans ((up_n (by omega)).trans ((up_n (by omega)).trans (up_s)))))))) (Nat.le_of_ble_eq_true rfl) rfl rfl (es1 := (eX9_init_16 b n i w es)) rfl ?_
  refine n_aload_n 69 C dX9_init_69 rfl (lv_at hl 0 rfl) ?_
  refine n_sipush 70 C (v := (240 : Int32)) dX9_init_70 (by decide) ?_
  refine n_newi 73 C (N := 240) dX9_init_73 wArr (by decide) (by decide) (by decide) rfl (Nat.le_of_ble_eq_true rfl) (Nat.le_of_ble_eq_true rfl) (es1 := (eX9_init_17 b n i w es)) rfl ?_
  refine n_putF 75 C (fs := [.ref (b + n), .int 0, .int 0, .ref (b + (n + 1)), .ref (b + (n + 2)), .ref (b + (n + 3)), .ref (b + (n + 4)), .null, .null, .null, .int 0, .long 0, .long 0, .int 0, .null, .int 0, .int 0, .int 0, .int 0, .int 0, .int 0, .null, .int 0, .null, .null, .null, .null]) (v := .ref (b + (n + 5))) hin dX9_init_75 fl_X9_25 ff_8_7 (by omega) (by exact (up_n (by omega)).trans (up_s)) (Nat.le_of_ble_eq_true rfl) rfl rfl (es1 := (eX9_init_18 b n i w es)) rfl ?_
  refine n_aload_n 78 C dX9_init_78 rfl (lv_at hl 0 rfl) ?_
  refine n_iconst 79 C (v := (4 : Int32)) dX9_init_79 (by decide) ?_
  refine n_newi 80 C (N := 4) dX9_init_80 wArr (by decide) (by decide) (by decide) rfl (Nat.le_of_ble_eq_true rfl) (Nat.le_of_ble_eq_true rfl) (es1 := (eX9_init_19 b n i w es)) rfl ?_
  refine n_dup 82 C dX9_init_82 rfl ?_
  refine n_iconst 83 C (v := (0 : Int32)) dX9_init_83 (by decide) ?_
  refine n_iconst 84 C (v := (-1 : Int32)) dX9_init_84 (by decide) ?_
  refine n_iast 85 C (f := fun _ => 0) (N := 4) dX9_init_85 (by omega) (by exact up_s) (by decide) (es1 := (eX9_init_20 b n i w es)) rfl ?_
  refine n_dup 86 C dX9_init_86 rfl ?_
  refine n_iconst 87 C (v := (1 : Int32)) dX9_init_87 (by decide) ?_
  refine n_iconst 88 C (v := (-1 : Int32)) dX9_init_88 (by decide) ?_
  refine n_iast 89 C (f := upd (fun _ => 0) (Int32.toNatClampNeg (0 : Int32)) (-1 : Int32)) (N := 4) dX9_init_89 (by omega) (by exact up_s) (by decide) (es1 := (eX9_init_21 b n i w es)) rfl ?_
  refine n_dup 90 C dX9_init_90 rfl ?_
  refine n_iconst 91 C (v := (2 : Int32)) dX9_init_91 (by decide) ?_
  refine n_iconst 92 C (v := (-1 : Int32)) dX9_init_92 (by decide) ?_
  refine n_iast 93 C (f := upd (upd (fun _ => 0) (Int32.toNatClampNeg (0 : Int32)) (-1 : Int32)) (Int32.toNatClampNeg (1 : Int32)) (-1 : Int32)) (N := 4) dX9_init_93 (by omega) (by exact up_s) (by decide) (es1 := (eX9_init_22 b n i w es)) rfl ?_
  refine n_dup 94 C dX9_init_94 rfl ?_
  refine n_iconst 95 C (v := (3 : Int32)) dX9_init_95 (by decide) ?_
  refine n_iconst 96 C (v := (-1 : Int32)) dX9_init_96 (by decide) ?_
  refine n_iast 97 C (f := upd (upd (upd (fun _ => 0) (Int32.toNatClampNeg (0 : Int32)) (-1 : Int32)) (Int32.toNatClampNeg (1 : Int32)) (-1 : Int32)) (Int32.toNatClampNeg (2 : Int32)) (-1 : Int32)) (N := 4) dX9_init_97 (by omega) (by exact up_s) (by decide) (es1 := (eX9_init_23 b n i w es)) rfl ?_
  refine n_putF 98 C (fs := [.ref (b + n), .int 0, .int 0, .ref (b + (n + 1)), .ref (b + (n + 2)), .ref (b + (n + 3)), .ref (b + (n + 4)), .ref (b + (n + 5)), .null, .null, .int 0, .long 0, .long 0, .int 0, .null, .int 0, .int 0, .int 0, .int 0, .int 0, .int 0, .null, .int 0, .null, .null, .null, .null]) (v := .ref (b + (n + 6))) hin dX9_init_98 fl_X9_28 ff_8_8 (by omega) (by exact (up_n (by omega)).trans ((up_n (by omega)).trans ((up_n (by omega)).trans ((up_n (by omega)).trans ((up_n (by omega)).trans (up_s)))))) (Nat.le_of_ble_eq_true rfl) rfl rfl (es1 := (eX9_init_24 b n i w es)) rfl ?_
  refine n_aload_n 101 C dX9_init_101 rfl (lv_at hl 0 rfl) ?_
  refine n_sipush 102 C (v := (240 : Int32)) dX9_init_102 (by decide) ?_
  refine n_newi 105 C (N := 240) dX9_init_105 wArr (by decide) (by decide) (by decide) rfl (Nat.le_of_ble_eq_true rfl) (Nat.le_of_ble_eq_true rfl) (es1 := (eX9_init_25 b n i w es)) rfl ?_
  refine n_putF 107 C (fs := [.ref (b + n), .int 0, .int 0, .ref (b + (n + 1)), .ref (b + (n + 2)), .ref (b + (n + 3)), .ref (b + (n + 4)), .ref (b + (n + 5)), .ref (b + (n + 6)), .null, .int 0, .long 0, .long 0, .int 0, .null, .int 0, .int 0, .int 0, .int 0, .int 0, .int 0, .null, .int 0, .null, .null, .null, .null]) (v := .ref (b + (n + 7))) hin dX9_init_107 fl_X9_31 ff_8_9 (by omega) (by exact (up_n (by omega)).trans (up_s)) (Nat.le_of_ble_eq_true rfl) rfl rfl (es1 := (eX9_init_26 b n i w es)) rfl ?_
  refine n_aload_n 110 C dX9_init_110 rfl (lv_at hl 0 rfl) ?_
  refine n_lconst 111 C (v := 1) dX9_init_111 (by decide) ?_
  refine n_putN 112 C (fs := [.ref (b + n), .int 0, .int 0, .ref (b + (n + 1)), .ref (b + (n + 2)), .ref (b + (n + 3)), .ref (b + (n + 4)), .ref (b + (n + 5)), .ref (b + (n + 6)), .ref (b + (n + 7)), .int 0, .long 0, .long 0, .int 0, .null, .int 0, .int 0, .int 0, .int 0, .int 0, .int 0, .null, .int 0, .null, .null, .null, .null]) (v := .long (1 : Int64)) dX9_init_112 fl_X9_34 fp_8_12 (by omega) (by exact up_s) (Nat.le_of_ble_eq_true rfl) rfl rfl (es1 := (eX9_init_27 b n i w es)) rfl ?_
  refine n_aload_n 115 C dX9_init_115 rfl (lv_at hl 0 rfl) ?_
  refine n_bipush 116 C (v := (6 : Int32)) dX9_init_116 (by decide) ?_
  refine n_newi 118 C (N := 6) dX9_init_118 wArr (by decide) (by decide) (by decide) rfl (Nat.le_of_ble_eq_true rfl) (Nat.le_of_ble_eq_true rfl) (es1 := (eX9_init_28 b n i w es)) rfl ?_
  refine n_putF 120 C (fs := [.ref (b + n), .int 0, .int 0, .ref (b + (n + 1)), .ref (b + (n + 2)), .ref (b + (n + 3)), .ref (b + (n + 4)), .ref (b + (n + 5)), .ref (b + (n + 6)), .ref (b + (n + 7)), .int 0, .long 0, .long (1 : Int64), .int 0, .null, .int 0, .int 0, .int 0, .int 0, .int 0, .int 0, .null, .int 0, .null, .null, .null, .null]) (v := .ref (b + (n + 8))) hin dX9_init_120 fl_X9_38 ff_8_14 (by omega) (by exact (up_n (by omega)).trans (up_s)) (Nat.le_of_ble_eq_true rfl) rfl rfl (es1 := (eX9_init_29 b n i w es)) rfl ?_
  refine n_aload_n 123 C dX9_init_123 rfl (lv_at hl 0 rfl) ?_
  refine n_bipush 124 C (v := (6 : Int32)) dX9_init_124 (by decide) ?_
  refine n_newi 126 C (N := 6) dX9_init_126 wArr (by decide) (by decide) (by decide) rfl (Nat.le_of_ble_eq_true rfl) (Nat.le_of_ble_eq_true rfl) (es1 := (eX9_init_30 b n i w es)) rfl ?_
  refine n_putF 128 C (fs := [.ref (b + n), .int 0, .int 0, .ref (b + (n + 1)), .ref (b + (n + 2)), .ref (b + (n + 3)), .ref (b + (n + 4)), .ref (b + (n + 5)), .ref (b + (n + 6)), .ref (b + (n + 7)), .int 0, .long 0, .long (1 : Int64), .int 0, .ref (b + (n + 8)), .int 0, .int 0, .int 0, .int 0, .int 0, .int 0, .null, .int 0, .null, .null, .null, .null]) (v := .ref (b + (n + 9))) hin dX9_init_128 fl_X9_41 ff_8_21 (by omega) (by exact (up_n (by omega)).trans (up_s)) (Nat.le_of_ble_eq_true rfl) rfl rfl (es1 := (eX9_init_31 b n i w es)) rfl ?_
  refine n_aload_n 131 C dX9_init_131 rfl (lv_at hl 0 rfl) ?_
  refine n_bipush 132 C (v := (18 : Int32)) dX9_init_132 (by decide) ?_
  refine n_newi 134 C (N := 18) dX9_init_134 wArr (by decide) (by decide) (by decide) rfl (Nat.le_of_ble_eq_true rfl) (Nat.le_of_ble_eq_true rfl) (es1 := (eX9_init_32 b n i w es)) rfl ?_
  refine n_putF 136 C (fs := [.ref (b + n), .int 0, .int 0, .ref (b + (n + 1)), .ref (b + (n + 2)), .ref (b + (n + 3)), .ref (b + (n + 4)), .ref (b + (n + 5)), .ref (b + (n + 6)), .ref (b + (n + 7)), .int 0, .long 0, .long (1 : Int64), .int 0, .ref (b + (n + 8)), .int 0, .int 0, .int 0, .int 0, .int 0, .int 0, .ref (b + (n + 9)), .int 0, .null, .null, .null, .null]) (v := .ref (b + (n + 10))) hin dX9_init_136 fl_X9_44 ff_8_23 (by omega) (by exact (up_n (by omega)).trans (up_s)) (Nat.le_of_ble_eq_true rfl) rfl rfl (es1 := (eX9_init_33 b n i w es)) rfl ?_
  refine n_aload_n 139 C dX9_init_139 rfl (lv_at hl 0 rfl) ?_
  refine n_bipush 140 C (v := (6 : Int32)) dX9_init_140 (by decide) ?_
  refine n_newi 142 C (N := 6) dX9_init_142 wArr (by decide) (by decide) (by decide) rfl (Nat.le_of_ble_eq_true rfl) (Nat.le_of_ble_eq_true rfl) (es1 := (eX9_init_34 b n i w es)) rfl ?_
  refine n_putF 144 C (fs := [.ref (b + n), .int 0, .int 0, .ref (b + (n + 1)), .ref (b + (n + 2)), .ref (b + (n + 3)), .ref (b + (n + 4)), .ref (b + (n + 5)), .ref (b + (n + 6)), .ref (b + (n + 7)), .int 0, .long 0, .long (1 : Int64), .int 0, .ref (b + (n + 8)), .int 0, .int 0, .int 0, .int 0, .int 0, .int 0, .ref (b + (n + 9)), .int 0, .ref (b + (n + 10)), .null, .null, .null]) (v := .ref (b + (n + 11))) hin dX9_init_144 fl_X9_47 ff_8_24 (by omega) (by exact (up_n (by omega)).trans (up_s)) (Nat.le_of_ble_eq_true rfl) rfl rfl (es1 := (eX9_init_35 b n i w es)) rfl ?_
  refine n_aload_n 147 C dX9_init_147 rfl (lv_at hl 0 rfl) ?_
  refine n_bipush 148 C (v := (6 : Int32)) dX9_init_148 (by decide) ?_
  refine n_newi 150 C (N := 6) dX9_init_150 wArr (by decide) (by decide) (by decide) rfl (Nat.le_of_ble_eq_true rfl) (Nat.le_of_ble_eq_true rfl) (es1 := (eX9_init_36 b n i w es)) rfl ?_
  refine n_putF 152 C (fs := [.ref (b + n), .int 0, .int 0, .ref (b + (n + 1)), .ref (b + (n + 2)), .ref (b + (n + 3)), .ref (b + (n + 4)), .ref (b + (n + 5)), .ref (b + (n + 6)), .ref (b + (n + 7)), .int 0, .long 0, .long (1 : Int64), .int 0, .ref (b + (n + 8)), .int 0, .int 0, .int 0, .int 0, .int 0, .int 0, .ref (b + (n + 9)), .int 0, .ref (b + (n + 10)), .ref (b + (n + 11)), .null, .null]) (v := .ref (b + (n + 12))) hin dX9_init_152 fl_X9_50 ff_8_25 (by omega) (by exact (up_n (by omega)).trans (up_s)) (Nat.le_of_ble_eq_true rfl) rfl rfl (es1 := (eX9_init_37 b n i w es)) rfl ?_
  refine n_aload_n 155 C dX9_init_155 rfl (lv_at hl 0 rfl) ?_
  refine n_bipush 156 C (v := (7 : Int32)) dX9_init_156 (by decide) ?_
  refine n_newi 158 C (N := 7) dX9_init_158 wArr (by decide) (by decide) (by decide) rfl (Nat.le_of_ble_eq_true rfl) (Nat.le_of_ble_eq_true rfl) (es1 := (eX9_init_38 b n i w es)) rfl ?_
  refine n_putF 160 C (fs := [.ref (b + n), .int 0, .int 0, .ref (b + (n + 1)), .ref (b + (n + 2)), .ref (b + (n + 3)), .ref (b + (n + 4)), .ref (b + (n + 5)), .ref (b + (n + 6)), .ref (b + (n + 7)), .int 0, .long 0, .long (1 : Int64), .int 0, .ref (b + (n + 8)), .int 0, .int 0, .int 0, .int 0, .int 0, .int 0, .ref (b + (n + 9)), .int 0, .ref (b + (n + 10)), .ref (b + (n + 11)), .ref (b + (n + 12)), .null]) (v := .ref (b + (n + 13))) hin dX9_init_160 fl_X9_53 ff_8_26 (by omega) (by exact (up_n (by omega)).trans (up_s)) (Nat.le_of_ble_eq_true rfl) rfl rfl (es1 := (eX9_init_39 b n i w es)) rfl ?_
  refine n_iconst 163 C (v := (1 : Int32)) dX9_init_163 (by decide) ?_
  refine n_istore_n 164 C [(1, .int (1 : Int32)), (0, .ref (b + i))] dX9_init_164 rfl hl (by decide) rfl (fun ls hl => ?_)
  refine n_iload_n 165 C dX9_init_165 rfl (lv_at hl 0 rfl) ?_
  refine n_iconst 166 C (v := (4 : Int32)) dX9_init_166 (by decide) ?_
  refine n_ge_f 167 189 C dX9_init_167 (by decide) (by decide) ?_
  refine n_aload_n 170 C dX9_init_170 rfl (lv_at hl 1 rfl) ?_
  refine n_getr 171 C (v := .ref (b + n)) dX9_init_171 fl_X9_7 (by omega) (by exact up_s) rfl ?_
  refine n_sipush 174 C (v := (698 : Int32)) dX9_init_174 (by decide) ?_
  refine n_iload_n 177 C dX9_init_177 rfl (lv_at hl 0 rfl) ?_
  refine n_imul 178 C (z := (698 : Int32)) dX9_init_178 (by decide) ?_
  refine n_iconst 179 C (v := (0 : Int32)) dX9_init_179 (by decide) ?_
  refine n_iadd 180 C (z := (698 : Int32)) dX9_init_180 (by decide) ?_
  refine n_iconst 181 C (v := (-1 : Int32)) dX9_init_181 (by decide) ?_
  refine n_iast 182 C (f := fun _ => 0) (N := 2810) dX9_init_182 (by omega) (by exact (up_n (by omega)).trans ((up_n (by omega)).trans ((up_n (by omega)).trans ((up_n (by omega)).trans ((up_n (by omega)).trans ((up_n (by omega)).trans ((up_n (by omega)).trans ((up_n (by omega)).trans ((up_n (by omega)).trans ((up_n (by omega)).trans ((up_n (by omega)).trans ((up_n (by omega)).trans ((up_n (by omega)).trans ((up_n (by omega)).trans ((up_n (by omega)).trans ((up_n (by omega)).trans ((up_n (by omega)).trans ((up_n (by omega)).trans ((up_n (by omega)).trans ((up_n (by omega)).trans ((up_n (by omega)).trans ((up_n (by omega)).trans ((up_n (by omega)).trans ((up_n (by omega)).trans ((up_n (by omega)).trans ((up_n (by omega)).trans ((up_n (by omega)).trans ((up_n (by omega)).trans ((up_n (by omega)).trans ((up_n (by omega)).trans ((up_n (by omega)).trans ((up_n (by omega)).trans ((up_n (by omega)).trans ((up_n (by omega)).trans ((up_n (by omega)).trans ((up_n (by omega)).trans ((up_n (by omega)).trans ((up_n (by omega)).trans (up_s))))))))))))))))))))))))))))))))))))))) (by decide) (es1 := (eX9_init_40 b n i w es)) rfl ?_
  refine n_iinc 183 C (v := (2 : Int32)) [(1, .int (2 : Int32)), (0, .ref (b + i))] dX9_init_183 hl (j := 0) rfl (by decide) (by decide) rfl (fun ls hl => ?_)
  refine n_goto 186 165 C dX9_init_186 (by decide) ?_
  refine n_iload_n 165 C dX9_init_165 rfl (lv_at hl 0 rfl) ?_
  refine n_iconst 166 C (v := (4 : Int32)) dX9_init_166 (by decide) ?_
  refine n_ge_f 167 189 C dX9_init_167 (by decide) (by decide) ?_
  refine n_aload_n 170 C dX9_init_170 rfl (lv_at hl 1 rfl) ?_
  refine n_getr 171 C (v := .ref (b + n)) dX9_init_171 fl_X9_7 (by omega) (by exact (up_n (by omega)).trans (up_s)) rfl ?_
  refine n_sipush 174 C (v := (698 : Int32)) dX9_init_174 (by decide) ?_
  refine n_iload_n 177 C dX9_init_177 rfl (lv_at hl 0 rfl) ?_
  refine n_imul 178 C (z := (1396 : Int32)) dX9_init_178 (by decide) ?_
  refine n_iconst 179 C (v := (0 : Int32)) dX9_init_179 (by decide) ?_
  refine n_iadd 180 C (z := (1396 : Int32)) dX9_init_180 (by decide) ?_
  refine n_iconst 181 C (v := (-1 : Int32)) dX9_init_181 (by decide) ?_
  refine n_iast 182 C (f := upd (fun _ => 0) (Int32.toNatClampNeg (698 : Int32)) (-1 : Int32)) (N := 2810) dX9_init_182 (by omega) (by exact up_s) (by decide) (es1 := (eX9_init_41 b n i w es)) rfl ?_
  refine n_iinc 183 C (v := (3 : Int32)) [(1, .int (3 : Int32)), (0, .ref (b + i))] dX9_init_183 hl (j := 0) rfl (by decide) (by decide) rfl (fun ls hl => ?_)
  refine n_goto 186 165 C dX9_init_186 (by decide) ?_
  refine n_iload_n 165 C dX9_init_165 rfl (lv_at hl 0 rfl) ?_
  refine n_iconst 166 C (v := (4 : Int32)) dX9_init_166 (by decide) ?_
  refine n_ge_f 167 189 C dX9_init_167 (by decide) (by decide) ?_
  refine n_aload_n 170 C dX9_init_170 rfl (lv_at hl 1 rfl) ?_
  refine n_getr 171 C (v := .ref (b + n)) dX9_init_171 fl_X9_7 (by omega) (by exact (up_n (by omega)).trans ((up_n (by omega)).trans (up_s))) rfl ?_
  refine n_sipush 174 C (v := (698 : Int32)) dX9_init_174 (by decide) ?_
  refine n_iload_n 177 C dX9_init_177 rfl (lv_at hl 0 rfl) ?_
  refine n_imul 178 C (z := (2094 : Int32)) dX9_init_178 (by decide) ?_
  refine n_iconst 179 C (v := (0 : Int32)) dX9_init_179 (by decide) ?_
  refine n_iadd 180 C (z := (2094 : Int32)) dX9_init_180 (by decide) ?_
  refine n_iconst 181 C (v := (-1 : Int32)) dX9_init_181 (by decide) ?_
  refine n_iast 182 C (f := upd (upd (fun _ => 0) (Int32.toNatClampNeg (698 : Int32)) (-1 : Int32)) (Int32.toNatClampNeg (1396 : Int32)) (-1 : Int32)) (N := 2810) dX9_init_182 (by omega) (by exact up_s) (by decide) (es1 := (eX9_init_42 b n i w es)) rfl ?_
  refine n_iinc 183 C (v := (4 : Int32)) [(1, .int (4 : Int32)), (0, .ref (b + i))] dX9_init_183 hl (j := 0) rfl (by decide) (by decide) rfl (fun ls hl => ?_)
  refine n_goto 186 165 C dX9_init_186 (by decide) ?_
  refine n_iload_n 165 C dX9_init_165 rfl (lv_at hl 0 rfl) ?_
  refine n_iconst 166 C (v := (4 : Int32)) dX9_init_166 (by decide) ?_
  refine n_ge_t 167 189 C dX9_init_167 (by decide) (by decide) ?_
  exact n_return 189 C hr dX9_init_189 rfl
