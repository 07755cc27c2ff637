theorem cl_L_10 : Cond.classLink RL 10 RX12 ∈ lG ∧ Cond.instantiable RX12 55 ∈ lG ∧ Cond.initialized RX12 ∈ lG := ⟨inT (i := 1086) (by decide +kernel) rfl, inT (i := 1087) (by decide +kernel) rfl, inT (i := 13) (by decide +kernel) rfl⟩
theorem cl_L_7 : Cond.classLink RL 7 RX11 ∈ lG ∧ Cond.instantiable RX11 13 ∈ lG ∧ Cond.initialized RX11 ∈ lG := ⟨inT (i := 18) (by decide +kernel) rfl, inT (i := 19) (by decide +kernel) rfl, inT (i := 1) (by decide +kernel) rfl⟩
theorem cl_X11_16 : Cond.classLink RX11 16 RX8 ∈ lG ∧ Cond.instantiable RX8 9 ∈ lG ∧ Cond.initialized RX8 ∈ lG := ⟨inT (i := 97) (by decide +kernel) rfl, inT (i := 98) (by decide +kernel) rfl, inT (i := 3) (by decide +kernel) rfl⟩
theorem cl_X11_23 : Cond.classLink RX11 23 RX9 ∈ lG ∧ Cond.instantiable RX9 8 ∈ lG ∧ Cond.initialized RX9 ∈ lG := ⟨inT (i := 131) (by decide +kernel) rfl, inT (i := 132) (by decide +kernel) rfl, inT (i := 4) (by decide +kernel) rfl⟩
theorem cl_X11_34 : Cond.classLink RX11 34 RX3 ∈ lG ∧ Cond.instantiable RX3 7 ∈ lG ∧ Cond.initialized RX3 ∈ lG := ⟨inT (i := 164) (by decide +kernel) rfl, inT (i := 166) (by decide +kernel) rfl, inT (i := 5) (by decide +kernel) rfl⟩
theorem cl_X11_43 : Cond.classLink RX11 43 RX6 ∈ lG ∧ Cond.instantiable RX6 4 ∈ lG ∧ Cond.initialized RX6 ∈ lG := ⟨inT (i := 194) (by decide +kernel) rfl, inT (i := 195) (by decide +kernel) rfl, inT (i := 6) (by decide +kernel) rfl⟩
theorem cl_X11_52 : Cond.classLink RX11 52 RX5 ∈ lG ∧ Cond.instantiable RX5 3 ∈ lG ∧ Cond.initialized RX5 ∈ lG := ⟨inT (i := 213) (by decide +kernel) rfl, inT (i := 214) (by decide +kernel) rfl, inT (i := 7) (by decide +kernel) rfl⟩
theorem cl_X11_61 : Cond.classLink RX11 61 RX1 ∈ lG ∧ Cond.instantiable RX1 5 ∈ lG ∧ Cond.initialized RX1 ∈ lG := ⟨inT (i := 229) (by decide +kernel) rfl, inT (i := 230) (by decide +kernel) rfl, inT (i := 8) (by decide +kernel) rfl⟩
theorem cl_X11_68 : Cond.classLink RX11 68 RX2 ∈ lG ∧ Cond.instantiable RX2 4 ∈ lG ∧ Cond.initialized RX2 ∈ lG := ⟨inT (i := 251) (by decide +kernel) rfl, inT (i := 252) (by decide +kernel) rfl, inT (i := 9) (by decide +kernel) rfl⟩
theorem cl_X11_7 : Cond.classLink RX11 7 RX7 ∈ lG ∧ Cond.instantiable RX7 11 ∈ lG ∧ Cond.initialized RX7 ∈ lG := ⟨inT (i := 26) (by decide +kernel) rfl, inT (i := 27) (by decide +kernel) rfl, inT (i := 2) (by decide +kernel) rfl⟩
theorem cl_X11_77 : Cond.classLink RX11 77 RX4 ∈ lG ∧ Cond.instantiable RX4 9 ∈ lG ∧ Cond.initialized RX4 ∈ lG := ⟨inT (i := 271) (by decide +kernel) rfl, inT (i := 272) (by decide +kernel) rfl, inT (i := 10) (by decide +kernel) rfl⟩
theorem cl_X11_84 : Cond.classLink RX11 84 RX10 ∈ lG ∧ Cond.instantiable RX10 4 ∈ lG ∧ Cond.initialized RX10 ∈ lG := ⟨inT (i := 306) (by decide +kernel) rfl, inT (i := 308) (by decide +kernel) rfl, inT (i := 11) (by decide +kernel) rfl⟩
theorem cl_X11_91 : Cond.classLink RX11 91 RX0 ∈ lG ∧ Cond.instantiable RX0 5 ∈ lG ∧ Cond.initialized RX0 ∈ lG := ⟨inT (i := 333) (by decide +kernel) rfl, inT (i := 334) (by decide +kernel) rfl, inT (i := 12) (by decide +kernel) rfl⟩
theorem ac_int : Cond.arrayClass .int ∈ lG := inT (i := 96) (by decide +kernel) rfl
theorem ac_long : Cond.arrayClass .long ∈ lG := inT (i := 332) (by decide +kernel) rfl
theorem ac_byte : Cond.arrayClass .byte ∈ lG := inT (i := 1257) (by decide +kernel) rfl
theorem ac_short : Cond.arrayClass .short ∈ lG := inT (i := 1258) (by decide +kernel) rfl
theorem gd_app {rs : List (Option Nat)} {q : Option Nat} {j : Nat} (h : j = rs.length) : ∀ x : Nat, (rs ++ [q]).getD x none = if x = j then q else rs.getD x none := by
  intro x
  subst h
  by_cases hx : x = rs.length
  · subst hx; simp
  · rw [if_neg hx]
    simp only [List.getD_eq_getElem?_getD]
    by_cases hl : x < rs.length
    · rw [List.getElem?_append_left hl]
    · rw [List.getElem?_eq_none (by simp; omega), List.getElem?_eq_none (by omega)]
def SC_0 : Sg := (fun _ _ => 0, fun _ _ => 0)
def SC_1 : Sg := sI SC_0 1 8 1
def SC_2 : Sg := sI SC_1 16 0 0
def SC_3 : Sg := sI SC_2 18 0 1
def SC_4 : Sg := sI SC_3 20 0 2
def SC_5 : Sg := sI SC_4 22 0 3
def SC_6 : Sg := sI SC_5 24 0 4
def SC_7 : Sg := sI SC_6 26 0 5
def SC_8 : Sg := sI SC_7 38 3 (-2)
def SC_9 : Sg := sI SC_8 45 0 (-2)
def SC_10 : Sg := sI SC_9 47 0 (-2)
def SC_11 : Sg := sI SC_10 49 0 (-2)
def SC_12 : Sg := sI SC_11 51 0 (-2)
def SC_13 : Sg := sI SC_12 53 0 (-2)
def SC_14 : Sg := sI SC_13 55 0 (-2)
def SC_15 : Sg := sI SC_14 67 0 1
def SC_16 : Sg := sI SC_15 67 1 0
def SC_17 : Sg := sI SC_16 67 2 0
def SC_18 : Sg := sI SC_17 91 0 (-1)
def SC_19 : Sg := sI SC_18 91 1 (-1)
def SC_20 : Sg := sI SC_19 91 2 (-1)
def SC_21 : Sg := sI SC_20 91 3 (-1)
def SC_22 : Sg := sI SC_21 91 4 (-1)
def SC_23 : Sg := sI SC_22 91 5 (-1)
def GC_0 : List aC := []
abbrev ksb_X11 : List (Bool ⊕ Option Nat) := [.inr none, .inr none, .inr none, .inr none, .inl false, .inr none, .inr none, .inr none, .inr none, .inr none, .inr none, .inr none, .inr none]
def dvl_X11 : List Value := [.null, .null, .null, .null, .int 0, .null, .null, .null, .null, .null, .null, .null, .null]
theorem dv_X11 : ∀ j, j < 13 → defaultValue (tyX11 j) = vp_V dvl_X11 j := by decide +kernel
abbrev sh_0 : aC := .inr (11, [.inr none, .inr none, .inr none, .inr none, .inl false, .inr none, .inr none, .inr none, .inr none, .inr none, .inr none, .inr none, .inr none])
def GC_1 : List aC := [sh_0]
abbrev ksb_X7 : List (Bool ⊕ Option Nat) := [.inr none, .inr none, .inr none, .inr none, .inl false, .inr none, .inr none, .inl false, .inl false, .inl false, .inl false]
def dvl_X7 : List Value := [.null, .null, .null, .null, .int 0, .null, .null, .int 0, .int 0, .int 0, .int 0]
theorem dv_X7 : ∀ j, j < 11 → defaultValue (tyX7 j) = vp_V dvl_X7 j := by decide +kernel
abbrev sh_1 : aC := .inr (7, [.inr none, .inr none, .inr none, .inr none, .inl false, .inr none, .inr none, .inl false, .inl false, .inl false, .inl false])
def GC_2 : List aC := [sh_0, sh_1]
abbrev sh_2 : aC := .inl (.int, 6, [])
def GC_3 : List aC := [sh_0, sh_1, sh_2]
abbrev sh_3 : aC := .inr (7, [.inr (some 2), .inr none, .inr none, .inr none, .inl false, .inr none, .inr none, .inl false, .inl false, .inl false, .inl false])
def GC_4 : List aC := [sh_0, sh_3, sh_2]
def GC_5 : List aC := [sh_0, sh_3, sh_2, sh_2]
abbrev sh_4 : aC := .inr (7, [.inr (some 2), .inr (some 3), .inr none, .inr none, .inl false, .inr none, .inr none, .inl false, .inl false, .inl false, .inl false])
def GC_6 : List aC := [sh_0, sh_4, sh_2, sh_2]
def GC_7 : List aC := [sh_0, sh_4, sh_2, sh_2, sh_2]
abbrev sh_5 : aC := .inr (7, [.inr (some 2), .inr (some 3), .inr (some 4), .inr none, .inl false, .inr none, .inr none, .inl false, .inl false, .inl false, .inl false])
def GC_8 : List aC := [sh_0, sh_5, sh_2, sh_2, sh_2]
def GC_9 : List aC := [sh_0, sh_5, sh_2, sh_2, sh_2, sh_2]
abbrev sh_6 : aC := .inr (7, [.inr (some 2), .inr (some 3), .inr (some 4), .inr (some 5), .inl false, .inr none, .inr none, .inl false, .inl false, .inl false, .inl false])
def GC_10 : List aC := [sh_0, sh_6, sh_2, sh_2, sh_2, sh_2]
abbrev sh_7 : aC := .inl (.int, 8, [])
def GC_11 : List aC := [sh_0, sh_6, sh_2, sh_2, sh_2, sh_2, sh_7]
abbrev sh_8 : aC := .inr (7, [.inr (some 2), .inr (some 3), .inr (some 4), .inr (some 5), .inl false, .inr (some 6), .inr none, .inl false, .inl false, .inl false, .inl false])
def GC_12 : List aC := [sh_0, sh_8, sh_2, sh_2, sh_2, sh_2, sh_7]
def GC_13 : List aC := [sh_0, sh_8, sh_2, sh_2, sh_2, sh_2, sh_7, sh_7]
abbrev sh_9 : aC := .inr (7, [.inr (some 2), .inr (some 3), .inr (some 4), .inr (some 5), .inl false, .inr (some 6), .inr (some 7), .inl false, .inl false, .inl false, .inl false])
def GC_14 : List aC := [sh_0, sh_9, sh_2, sh_2, sh_2, sh_2, sh_7, sh_7]
abbrev sh_10 : aC := .inr (11, [.inr (some 1), .inr none, .inr none, .inr none, .inl false, .inr none, .inr none, .inr none, .inr none, .inr none, .inr none, .inr none, .inr none])
def GC_15 : List aC := [sh_10, sh_9, sh_2, sh_2, sh_2, sh_2, sh_7, sh_7]
abbrev ksb_X8 : List (Bool ⊕ Option Nat) := [.inr none, .inl false, .inr none, .inl false, .inl false, .inl false, .inl false, .inl false, .inl false]
def dvl_X8 : List Value := [.null, .int 0, .null, .int 0, .int 0, .int 0, .int 0, .int 0, .int 0]
theorem dv_X8 : ∀ j, j < 9 → defaultValue (tyX8 j) = vp_V dvl_X8 j := by decide +kernel
abbrev sh_11 : aC := .inr (8, [.inr none, .inl false, .inr none, .inl false, .inl false, .inl false, .inl false, .inl false, .inl false])
def GC_16 : List aC := [sh_10, sh_9, sh_2, sh_2, sh_2, sh_2, sh_7, sh_7, sh_11]
abbrev sh_12 : aC := .inl (.int, 120, [])
def GC_17 : List aC := [sh_10, sh_9, sh_2, sh_2, sh_2, sh_2, sh_7, sh_7, sh_11, sh_12]
abbrev sh_13 : aC := .inr (8, [.inr (some 9), .inl false, .inr none, .inl false, .inl false, .inl false, .inl false, .inl false, .inl false])
def GC_18 : List aC := [sh_10, sh_9, sh_2, sh_2, sh_2, sh_2, sh_7, sh_7, sh_13, sh_12]
def GC_19 : List aC := [sh_10, sh_9, sh_2, sh_2, sh_2, sh_2, sh_7, sh_7, sh_13, sh_12, sh_12]
abbrev sh_14 : aC := .inr (8, [.inr (some 9), .inl false, .inr (some 10), .inl false, .inl false, .inl false, .inl false, .inl false, .inl false])
def GC_20 : List aC := [sh_10, sh_9, sh_2, sh_2, sh_2, sh_2, sh_7, sh_7, sh_14, sh_12, sh_12]
abbrev sh_15 : aC := .inr (11, [.inr (some 1), .inr (some 8), .inr none, .inr none, .inl false, .inr none, .inr none, .inr none, .inr none, .inr none, .inr none, .inr none, .inr none])
def GC_21 : List aC := [sh_15, sh_9, sh_2, sh_2, sh_2, sh_2, sh_7, sh_7, sh_14, sh_12, sh_12]
abbrev ksb_X9 : List (Bool ⊕ Option Nat) := [.inr none, .inl false, .inr none, .inl false, .inl false, .inl false, .inl false, .inl false]
def dvl_X9 : List Value := [.null, .int 0, .null, .int 0, .int 0, .int 0, .int 0, .int 0]
theorem dv_X9 : ∀ j, j < 8 → defaultValue (tyX9 j) = vp_V dvl_X9 j := by decide +kernel
abbrev sh_16 : aC := .inr (9, [.inr none, .inl false, .inr none, .inl false, .inl false, .inl false, .inl false, .inl false])
def GC_22 : List aC := [sh_15, sh_9, sh_2, sh_2, sh_2, sh_2, sh_7, sh_7, sh_14, sh_12, sh_12, sh_16]
def GC_23 : List aC := [sh_15, sh_9, sh_2, sh_2, sh_2, sh_2, sh_7, sh_7, sh_14, sh_12, sh_12, sh_16, sh_12]
abbrev sh_17 : aC := .inr (9, [.inr (some 12), .inl false, .inr none, .inl false, .inl false, .inl false, .inl false, .inl false])
def GC_24 : List aC := [sh_15, sh_9, sh_2, sh_2, sh_2, sh_2, sh_7, sh_7, sh_14, sh_12, sh_12, sh_17, sh_12]
def GC_25 : List aC := [sh_15, sh_9, sh_2, sh_2, sh_2, sh_2, sh_7, sh_7, sh_14, sh_12, sh_12, sh_17, sh_12, sh_12]
abbrev sh_18 : aC := .inr (9, [.inr (some 12), .inl false, .inr (some 13), .inl false, .inl false, .inl false, .inl false, .inl false])
def GC_26 : List aC := [sh_15, sh_9, sh_2, sh_2, sh_2, sh_2, sh_7, sh_7, sh_14, sh_12, sh_12, sh_18, sh_12, sh_12]
abbrev sh_19 : aC := .inr (11, [.inr (some 1), .inr (some 8), .inr (some 11), .inr none, .inl false, .inr none, .inr none, .inr none, .inr none, .inr none, .inr none, .inr none, .inr none])
def GC_27 : List aC := [sh_19, sh_9, sh_2, sh_2, sh_2, sh_2, sh_7, sh_7, sh_14, sh_12, sh_12, sh_18, sh_12, sh_12]
def GC_28 : List aC := [sh_19, sh_9, sh_2, sh_2, sh_2, sh_2, sh_7, sh_7, sh_14, sh_12, sh_12, sh_18, sh_12, sh_12, sh_12]
abbrev sh_20 : aC := .inr (11, [.inr (some 1), .inr (some 8), .inr (some 11), .inr (some 14), .inl false, .inr none, .inr none, .inr none, .inr none, .inr none, .inr none, .inr none, .inr none])
def GC_29 : List aC := [sh_20, sh_9, sh_2, sh_2, sh_2, sh_2, sh_7, sh_7, sh_14, sh_12, sh_12, sh_18, sh_12, sh_12, sh_12]
abbrev sh_21 : aC := .inl (.object "CoachmenFace$Coach", 6, [])
def GC_30 : List aC := [sh_20, sh_9, sh_2, sh_2, sh_2, sh_2, sh_7, sh_7, sh_14, sh_12, sh_12, sh_18, sh_12, sh_12, sh_12, sh_21]
abbrev sh_22 : aC := .inr (11, [.inr (some 1), .inr (some 8), .inr (some 11), .inr (some 14), .inl false, .inr (some 15), .inr none, .inr none, .inr none, .inr none, .inr none, .inr none, .inr none])
def GC_31 : List aC := [sh_22, sh_9, sh_2, sh_2, sh_2, sh_2, sh_7, sh_7, sh_14, sh_12, sh_12, sh_18, sh_12, sh_12, sh_12, sh_21]
abbrev ksb_X3 : List (Bool ⊕ Option Nat) := [.inl false, .inr none, .inr none, .inr none, .inl false, .inl false, .inl false]
def dvl_X3 : List Value := [.int 0, .null, .null, .null, .int 0, .int 0, .int 0]
theorem dv_X3 : ∀ j, j < 7 → defaultValue (tyX3 j) = vp_V dvl_X3 j := by decide +kernel
abbrev sh_23 : aC := .inr (3, [.inl false, .inr none, .inr none, .inr none, .inl false, .inl false, .inl false])
def GC_32 : List aC := [sh_22, sh_9, sh_2, sh_2, sh_2, sh_2, sh_7, sh_7, sh_14, sh_12, sh_12, sh_18, sh_12, sh_12, sh_12, sh_21, sh_23]
abbrev sh_24 : aC := .inl (.int, 480, [])
def GC_33 : List aC := [sh_22, sh_9, sh_2, sh_2, sh_2, sh_2, sh_7, sh_7, sh_14, sh_12, sh_12, sh_18, sh_12, sh_12, sh_12, sh_21, sh_23, sh_24]
abbrev sh_25 : aC := .inr (3, [.inl false, .inr none, .inr none, .inr (some 17), .inl false, .inl false, .inl false])
def GC_34 : List aC := [sh_22, sh_9, sh_2, sh_2, sh_2, sh_2, sh_7, sh_7, sh_14, sh_12, sh_12, sh_18, sh_12, sh_12, sh_12, sh_21, sh_25, sh_24]
abbrev sh_26 : aC := .inr (3, [.inl false, .inr (some 1), .inr none, .inr (some 17), .inl false, .inl false, .inl false])
def GC_35 : List aC := [sh_22, sh_9, sh_2, sh_2, sh_2, sh_2, sh_7, sh_7, sh_14, sh_12, sh_12, sh_18, sh_12, sh_12, sh_12, sh_21, sh_26, sh_24]
abbrev sh_27 : aC := .inr (3, [.inl false, .inr (some 1), .inr (some 8), .inr (some 17), .inl false, .inl false, .inl false])
def GC_36 : List aC := [sh_22, sh_9, sh_2, sh_2, sh_2, sh_2, sh_7, sh_7, sh_14, sh_12, sh_12, sh_18, sh_12, sh_12, sh_12, sh_21, sh_27, sh_24]
abbrev sh_28 : aC := .inl (.object "CoachmenFace$Coach", 6, [some 16])
def GC_37 : List aC := [sh_22, sh_9, sh_2, sh_2, sh_2, sh_2, sh_7, sh_7, sh_14, sh_12, sh_12, sh_18, sh_12, sh_12, sh_12, sh_28, sh_27, sh_24]
def GC_38 : List aC := [sh_22, sh_9, sh_2, sh_2, sh_2, sh_2, sh_7, sh_7, sh_14, sh_12, sh_12, sh_18, sh_12, sh_12, sh_12, sh_28, sh_27, sh_24, sh_23]
def GC_39 : List aC := [sh_22, sh_9, sh_2, sh_2, sh_2, sh_2, sh_7, sh_7, sh_14, sh_12, sh_12, sh_18, sh_12, sh_12, sh_12, sh_28, sh_27, sh_24, sh_23, sh_24]
abbrev sh_29 : aC := .inr (3, [.inl false, .inr none, .inr none, .inr (some 19), .inl false, .inl false, .inl false])
def GC_40 : List aC := [sh_22, sh_9, sh_2, sh_2, sh_2, sh_2, sh_7, sh_7, sh_14, sh_12, sh_12, sh_18, sh_12, sh_12, sh_12, sh_28, sh_27, sh_24, sh_29, sh_24]
abbrev sh_30 : aC := .inr (3, [.inl false, .inr (some 1), .inr none, .inr (some 19), .inl false, .inl false, .inl false])
def GC_41 : List aC := [sh_22, sh_9, sh_2, sh_2, sh_2, sh_2, sh_7, sh_7, sh_14, sh_12, sh_12, sh_18, sh_12, sh_12, sh_12, sh_28, sh_27, sh_24, sh_30, sh_24]
abbrev sh_31 : aC := .inr (3, [.inl false, .inr (some 1), .inr (some 8), .inr (some 19), .inl false, .inl false, .inl false])
def GC_42 : List aC := [sh_22, sh_9, sh_2, sh_2, sh_2, sh_2, sh_7, sh_7, sh_14, sh_12, sh_12, sh_18, sh_12, sh_12, sh_12, sh_28, sh_27, sh_24, sh_31, sh_24]
abbrev sh_32 : aC := .inl (.object "CoachmenFace$Coach", 6, [some 16, some 18])
def GC_43 : List aC := [sh_22, sh_9, sh_2, sh_2, sh_2, sh_2, sh_7, sh_7, sh_14, sh_12, sh_12, sh_18, sh_12, sh_12, sh_12, sh_32, sh_27, sh_24, sh_31, sh_24]
def GC_44 : List aC := [sh_22, sh_9, sh_2, sh_2, sh_2, sh_2, sh_7, sh_7, sh_14, sh_12, sh_12, sh_18, sh_12, sh_12, sh_12, sh_32, sh_27, sh_24, sh_31, sh_24, sh_23]
def GC_45 : List aC := [sh_22, sh_9, sh_2, sh_2, sh_2, sh_2, sh_7, sh_7, sh_14, sh_12, sh_12, sh_18, sh_12, sh_12, sh_12, sh_32, sh_27, sh_24, sh_31, sh_24, sh_23, sh_24]
abbrev sh_33 : aC := .inr (3, [.inl false, .inr none, .inr none, .inr (some 21), .inl false, .inl false, .inl false])
def GC_46 : List aC := [sh_22, sh_9, sh_2, sh_2, sh_2, sh_2, sh_7, sh_7, sh_14, sh_12, sh_12, sh_18, sh_12, sh_12, sh_12, sh_32, sh_27, sh_24, sh_31, sh_24, sh_33, sh_24]
abbrev sh_34 : aC := .inr (3, [.inl false, .inr (some 1), .inr none, .inr (some 21), .inl false, .inl false, .inl false])
def GC_47 : List aC := [sh_22, sh_9, sh_2, sh_2, sh_2, sh_2, sh_7, sh_7, sh_14, sh_12, sh_12, sh_18, sh_12, sh_12, sh_12, sh_32, sh_27, sh_24, sh_31, sh_24, sh_34, sh_24]
abbrev sh_35 : aC := .inr (3, [.inl false, .inr (some 1), .inr (some 8), .inr (some 21), .inl false, .inl false, .inl false])
def GC_48 : List aC := [sh_22, sh_9, sh_2, sh_2, sh_2, sh_2, sh_7, sh_7, sh_14, sh_12, sh_12, sh_18, sh_12, sh_12, sh_12, sh_32, sh_27, sh_24, sh_31, sh_24, sh_35, sh_24]
abbrev sh_36 : aC := .inl (.object "CoachmenFace$Coach", 6, [some 16, some 18, some 20])
def GC_49 : List aC := [sh_22, sh_9, sh_2, sh_2, sh_2, sh_2, sh_7, sh_7, sh_14, sh_12, sh_12, sh_18, sh_12, sh_12, sh_12, sh_36, sh_27, sh_24, sh_31, sh_24, sh_35, sh_24]
def GC_50 : List aC := [sh_22, sh_9, sh_2, sh_2, sh_2, sh_2, sh_7, sh_7, sh_14, sh_12, sh_12, sh_18, sh_12, sh_12, sh_12, sh_36, sh_27, sh_24, sh_31, sh_24, sh_35, sh_24, sh_23]
def GC_51 : List aC := [sh_22, sh_9, sh_2, sh_2, sh_2, sh_2, sh_7, sh_7, sh_14, sh_12, sh_12, sh_18, sh_12, sh_12, sh_12, sh_36, sh_27, sh_24, sh_31, sh_24, sh_35, sh_24, sh_23, sh_24]
abbrev sh_37 : aC := .inr (3, [.inl false, .inr none, .inr none, .inr (some 23), .inl false, .inl false, .inl false])
def GC_52 : List aC := [sh_22, sh_9, sh_2, sh_2, sh_2, sh_2, sh_7, sh_7, sh_14, sh_12, sh_12, sh_18, sh_12, sh_12, sh_12, sh_36, sh_27, sh_24, sh_31, sh_24, sh_35, sh_24, sh_37, sh_24]
abbrev sh_38 : aC := .inr (3, [.inl false, .inr (some 1), .inr none, .inr (some 23), .inl false, .inl false, .inl false])
def GC_53 : List aC := [sh_22, sh_9, sh_2, sh_2, sh_2, sh_2, sh_7, sh_7, sh_14, sh_12, sh_12, sh_18, sh_12, sh_12, sh_12, sh_36, sh_27, sh_24, sh_31, sh_24, sh_35, sh_24, sh_38, sh_24]
abbrev sh_39 : aC := .inr (3, [.inl false, .inr (some 1), .inr (some 8), .inr (some 23), .inl false, .inl false, .inl false])
def GC_54 : List aC := [sh_22, sh_9, sh_2, sh_2, sh_2, sh_2, sh_7, sh_7, sh_14, sh_12, sh_12, sh_18, sh_12, sh_12, sh_12, sh_36, sh_27, sh_24, sh_31, sh_24, sh_35, sh_24, sh_39, sh_24]
abbrev sh_40 : aC := .inl (.object "CoachmenFace$Coach", 6, [some 16, some 18, some 20, some 22])
def GC_55 : List aC := [sh_22, sh_9, sh_2, sh_2, sh_2, sh_2, sh_7, sh_7, sh_14, sh_12, sh_12, sh_18, sh_12, sh_12, sh_12, sh_40, sh_27, sh_24, sh_31, sh_24, sh_35, sh_24, sh_39, sh_24]
def GC_56 : List aC := [sh_22, sh_9, sh_2, sh_2, sh_2, sh_2, sh_7, sh_7, sh_14, sh_12, sh_12, sh_18, sh_12, sh_12, sh_12, sh_40, sh_27, sh_24, sh_31, sh_24, sh_35, sh_24, sh_39, sh_24, sh_23]
def GC_57 : List aC := [sh_22, sh_9, sh_2, sh_2, sh_2, sh_2, sh_7, sh_7, sh_14, sh_12, sh_12, sh_18, sh_12, sh_12, sh_12, sh_40, sh_27, sh_24, sh_31, sh_24, sh_35, sh_24, sh_39, sh_24, sh_23, sh_24]
abbrev sh_41 : aC := .inr (3, [.inl false, .inr none, .inr none, .inr (some 25), .inl false, .inl false, .inl false])
def GC_58 : List aC := [sh_22, sh_9, sh_2, sh_2, sh_2, sh_2, sh_7, sh_7, sh_14, sh_12, sh_12, sh_18, sh_12, sh_12, sh_12, sh_40, sh_27, sh_24, sh_31, sh_24, sh_35, sh_24, sh_39, sh_24, sh_41, sh_24]
abbrev sh_42 : aC := .inr (3, [.inl false, .inr (some 1), .inr none, .inr (some 25), .inl false, .inl false, .inl false])
def GC_59 : List aC := [sh_22, sh_9, sh_2, sh_2, sh_2, sh_2, sh_7, sh_7, sh_14, sh_12, sh_12, sh_18, sh_12, sh_12, sh_12, sh_40, sh_27, sh_24, sh_31, sh_24, sh_35, sh_24, sh_39, sh_24, sh_42, sh_24]
abbrev sh_43 : aC := .inr (3, [.inl false, .inr (some 1), .inr (some 8), .inr (some 25), .inl false, .inl false, .inl false])
def GC_60 : List aC := [sh_22, sh_9, sh_2, sh_2, sh_2, sh_2, sh_7, sh_7, sh_14, sh_12, sh_12, sh_18, sh_12, sh_12, sh_12, sh_40, sh_27, sh_24, sh_31, sh_24, sh_35, sh_24, sh_39, sh_24, sh_43, sh_24]
abbrev sh_44 : aC := .inl (.object "CoachmenFace$Coach", 6, [some 16, some 18, some 20, some 22, some 24])
def GC_61 : List aC := [sh_22, sh_9, sh_2, sh_2, sh_2, sh_2, sh_7, sh_7, sh_14, sh_12, sh_12, sh_18, sh_12, sh_12, sh_12, sh_44, sh_27, sh_24, sh_31, sh_24, sh_35, sh_24, sh_39, sh_24, sh_43, sh_24]
def GC_62 : List aC := [sh_22, sh_9, sh_2, sh_2, sh_2, sh_2, sh_7, sh_7, sh_14, sh_12, sh_12, sh_18, sh_12, sh_12, sh_12, sh_44, sh_27, sh_24, sh_31, sh_24, sh_35, sh_24, sh_39, sh_24, sh_43, sh_24, sh_23]
def GC_63 : List aC := [sh_22, sh_9, sh_2, sh_2, sh_2, sh_2, sh_7, sh_7, sh_14, sh_12, sh_12, sh_18, sh_12, sh_12, sh_12, sh_44, sh_27, sh_24, sh_31, sh_24, sh_35, sh_24, sh_39, sh_24, sh_43, sh_24, sh_23, sh_24]
abbrev sh_45 : aC := .inr (3, [.inl false, .inr none, .inr none, .inr (some 27), .inl false, .inl false, .inl false])
def GC_64 : List aC := [sh_22, sh_9, sh_2, sh_2, sh_2, sh_2, sh_7, sh_7, sh_14, sh_12, sh_12, sh_18, sh_12, sh_12, sh_12, sh_44, sh_27, sh_24, sh_31, sh_24, sh_35, sh_24, sh_39, sh_24, sh_43, sh_24, sh_45, sh_24]
abbrev sh_46 : aC := .inr (3, [.inl false, .inr (some 1), .inr none, .inr (some 27), .inl false, .inl false, .inl false])
def GC_65 : List aC := [sh_22, sh_9, sh_2, sh_2, sh_2, sh_2, sh_7, sh_7, sh_14, sh_12, sh_12, sh_18, sh_12, sh_12, sh_12, sh_44, sh_27, sh_24, sh_31, sh_24, sh_35, sh_24, sh_39, sh_24, sh_43, sh_24, sh_46, sh_24]
abbrev sh_47 : aC := .inr (3, [.inl false, .inr (some 1), .inr (some 8), .inr (some 27), .inl false, .inl false, .inl false])
def GC_66 : List aC := [sh_22, sh_9, sh_2, sh_2, sh_2, sh_2, sh_7, sh_7, sh_14, sh_12, sh_12, sh_18, sh_12, sh_12, sh_12, sh_44, sh_27, sh_24, sh_31, sh_24, sh_35, sh_24, sh_39, sh_24, sh_43, sh_24, sh_47, sh_24]
abbrev sh_48 : aC := .inl (.object "CoachmenFace$Coach", 6, [some 16, some 18, some 20, some 22, some 24, some 26])
def GC_67 : List aC := [sh_22, sh_9, sh_2, sh_2, sh_2, sh_2, sh_7, sh_7, sh_14, sh_12, sh_12, sh_18, sh_12, sh_12, sh_12, sh_48, sh_27, sh_24, sh_31, sh_24, sh_35, sh_24, sh_39, sh_24, sh_43, sh_24, sh_47, sh_24]
abbrev ksb_X6 : List (Bool ⊕ Option Nat) := [.inr none, .inr none, .inr none, .inr none]
def dvl_X6 : List Value := [.null, .null, .null, .null]
theorem dv_X6 : ∀ j, j < 4 → defaultValue (tyX6 j) = vp_V dvl_X6 j := by decide +kernel
abbrev sh_49 : aC := .inr (6, [.inr none, .inr none, .inr none, .inr none])
def GC_68 : List aC := [sh_22, sh_9, sh_2, sh_2, sh_2, sh_2, sh_7, sh_7, sh_14, sh_12, sh_12, sh_18, sh_12, sh_12, sh_12, sh_48, sh_27, sh_24, sh_31, sh_24, sh_35, sh_24, sh_39, sh_24, sh_43, sh_24, sh_47, sh_24, sh_49]
abbrev sh_50 : aC := .inl (.int, 366, [])
def GC_69 : List aC := [sh_22, sh_9, sh_2, sh_2, sh_2, sh_2, sh_7, sh_7, sh_14, sh_12, sh_12, sh_18, sh_12, sh_12, sh_12, sh_48, sh_27, sh_24, sh_31, sh_24, sh_35, sh_24, sh_39, sh_24, sh_43, sh_24, sh_47, sh_24, sh_49, sh_50]
abbrev sh_51 : aC := .inr (6, [.inr none, .inr none, .inr (some 29), .inr none])
def GC_70 : List aC := [sh_22, sh_9, sh_2, sh_2, sh_2, sh_2, sh_7, sh_7, sh_14, sh_12, sh_12, sh_18, sh_12, sh_12, sh_12, sh_48, sh_27, sh_24, sh_31, sh_24, sh_35, sh_24, sh_39, sh_24, sh_43, sh_24, sh_47, sh_24, sh_51, sh_50]
def GC_71 : List aC := [sh_22, sh_9, sh_2, sh_2, sh_2, sh_2, sh_7, sh_7, sh_14, sh_12, sh_12, sh_18, sh_12, sh_12, sh_12, sh_48, sh_27, sh_24, sh_31, sh_24, sh_35, sh_24, sh_39, sh_24, sh_43, sh_24, sh_47, sh_24, sh_51, sh_50, sh_7]
abbrev sh_52 : aC := .inr (6, [.inr none, .inr none, .inr (some 29), .inr (some 30)])
def GC_72 : List aC := [sh_22, sh_9, sh_2, sh_2, sh_2, sh_2, sh_7, sh_7, sh_14, sh_12, sh_12, sh_18, sh_12, sh_12, sh_12, sh_48, sh_27, sh_24, sh_31, sh_24, sh_35, sh_24, sh_39, sh_24, sh_43, sh_24, sh_47, sh_24, sh_52, sh_50, sh_7]
abbrev sh_53 : aC := .inr (6, [.inr (some 1), .inr none, .inr (some 29), .inr (some 30)])
def GC_73 : List aC := [sh_22, sh_9, sh_2, sh_2, sh_2, sh_2, sh_7, sh_7, sh_14, sh_12, sh_12, sh_18, sh_12, sh_12, sh_12, sh_48, sh_27, sh_24, sh_31, sh_24, sh_35, sh_24, sh_39, sh_24, sh_43, sh_24, sh_47, sh_24, sh_53, sh_50, sh_7]
abbrev sh_54 : aC := .inr (6, [.inr (some 1), .inr (some 15), .inr (some 29), .inr (some 30)])
def GC_74 : List aC := [sh_22, sh_9, sh_2, sh_2, sh_2, sh_2, sh_7, sh_7, sh_14, sh_12, sh_12, sh_18, sh_12, sh_12, sh_12, sh_48, sh_27, sh_24, sh_31, sh_24, sh_35, sh_24, sh_39, sh_24, sh_43, sh_24, sh_47, sh_24, sh_54, sh_50, sh_7]
abbrev sh_55 : aC := .inr (11, [.inr (some 1), .inr (some 8), .inr (some 11), .inr (some 14), .inl false, .inr (some 15), .inr (some 28), .inr none, .inr none, .inr none, .inr none, .inr none, .inr none])
def GC_75 : List aC := [sh_55, sh_9, sh_2, sh_2, sh_2, sh_2, sh_7, sh_7, sh_14, sh_12, sh_12, sh_18, sh_12, sh_12, sh_12, sh_48, sh_27, sh_24, sh_31, sh_24, sh_35, sh_24, sh_39, sh_24, sh_43, sh_24, sh_47, sh_24, sh_54, sh_50, sh_7]
abbrev ksb_X5 : List (Bool ⊕ Option Nat) := [.inr none, .inr none, .inr none]
def dvl_X5 : List Value := [.null, .null, .null]
theorem dv_X5 : ∀ j, j < 3 → defaultValue (tyX5 j) = vp_V dvl_X5 j := by decide +kernel
abbrev sh_56 : aC := .inr (5, [.inr none, .inr none, .inr none])
def GC_76 : List aC := [sh_55, sh_9, sh_2, sh_2, sh_2, sh_2, sh_7, sh_7, sh_14, sh_12, sh_12, sh_18, sh_12, sh_12, sh_12, sh_48, sh_27, sh_24, sh_31, sh_24, sh_35, sh_24, sh_39, sh_24, sh_43, sh_24, sh_47, sh_24, sh_54, sh_50, sh_7, sh_56]
abbrev sh_57 : aC := .inr (5, [.inr (some 1), .inr none, .inr none])
def GC_77 : List aC := [sh_55, sh_9, sh_2, sh_2, sh_2, sh_2, sh_7, sh_7, sh_14, sh_12, sh_12, sh_18, sh_12, sh_12, sh_12, sh_48, sh_27, sh_24, sh_31, sh_24, sh_35, sh_24, sh_39, sh_24, sh_43, sh_24, sh_47, sh_24, sh_54, sh_50, sh_7, sh_57]
abbrev sh_58 : aC := .inr (5, [.inr (some 1), .inr (some 15), .inr none])
def GC_78 : List aC := [sh_55, sh_9, sh_2, sh_2, sh_2, sh_2, sh_7, sh_7, sh_14, sh_12, sh_12, sh_18, sh_12, sh_12, sh_12, sh_48, sh_27, sh_24, sh_31, sh_24, sh_35, sh_24, sh_39, sh_24, sh_43, sh_24, sh_47, sh_24, sh_54, sh_50, sh_7, sh_58]
abbrev sh_59 : aC := .inr (5, [.inr (some 1), .inr (some 15), .inr (some 28)])
def GC_79 : List aC := [sh_55, sh_9, sh_2, sh_2, sh_2, sh_2, sh_7, sh_7, sh_14, sh_12, sh_12, sh_18, sh_12, sh_12, sh_12, sh_48, sh_27, sh_24, sh_31, sh_24, sh_35, sh_24, sh_39, sh_24, sh_43, sh_24, sh_47, sh_24, sh_54, sh_50, sh_7, sh_59]
abbrev sh_60 : aC := .inr (11, [.inr (some 1), .inr (some 8), .inr (some 11), .inr (some 14), .inl false, .inr (some 15), .inr (some 28), .inr (some 31), .inr none, .inr none, .inr none, .inr none, .inr none])
def GC_80 : List aC := [sh_60, sh_9, sh_2, sh_2, sh_2, sh_2, sh_7, sh_7, sh_14, sh_12, sh_12, sh_18, sh_12, sh_12, sh_12, sh_48, sh_27, sh_24, sh_31, sh_24, sh_35, sh_24, sh_39, sh_24, sh_43, sh_24, sh_47, sh_24, sh_54, sh_50, sh_7, sh_59]
abbrev ksb_X1 : List (Bool ⊕ Option Nat) := [.inr none, .inr none, .inr none, .inr none, .inr none]
def dvl_X1 : List Value := [.null, .null, .null, .null, .null]
theorem dv_X1 : ∀ j, j < 5 → defaultValue (tyX1 j) = vp_V dvl_X1 j := by decide +kernel
abbrev sh_61 : aC := .inr (1, [.inr none, .inr none, .inr none, .inr none, .inr none])
def GC_81 : List aC := [sh_60, sh_9, sh_2, sh_2, sh_2, sh_2, sh_7, sh_7, sh_14, sh_12, sh_12, sh_18, sh_12, sh_12, sh_12, sh_48, sh_27, sh_24, sh_31, sh_24, sh_35, sh_24, sh_39, sh_24, sh_43, sh_24, sh_47, sh_24, sh_54, sh_50, sh_7, sh_59, sh_61]
abbrev sh_62 : aC := .inl (.int, 2048, [])
def GC_82 : List aC := [sh_60, sh_9, sh_2, sh_2, sh_2, sh_2, sh_7, sh_7, sh_14, sh_12, sh_12, sh_18, sh_12, sh_12, sh_12, sh_48, sh_27, sh_24, sh_31, sh_24, sh_35, sh_24, sh_39, sh_24, sh_43, sh_24, sh_47, sh_24, sh_54, sh_50, sh_7, sh_59, sh_61, sh_62]
abbrev sh_63 : aC := .inr (1, [.inr none, .inr none, .inr (some 33), .inr none, .inr none])
def GC_83 : List aC := [sh_60, sh_9, sh_2, sh_2, sh_2, sh_2, sh_7, sh_7, sh_14, sh_12, sh_12, sh_18, sh_12, sh_12, sh_12, sh_48, sh_27, sh_24, sh_31, sh_24, sh_35, sh_24, sh_39, sh_24, sh_43, sh_24, sh_47, sh_24, sh_54, sh_50, sh_7, sh_59, sh_63, sh_62]
def GC_84 : List aC := [sh_60, sh_9, sh_2, sh_2, sh_2, sh_2, sh_7, sh_7, sh_14, sh_12, sh_12, sh_18, sh_12, sh_12, sh_12, sh_48, sh_27, sh_24, sh_31, sh_24, sh_35, sh_24, sh_39, sh_24, sh_43, sh_24, sh_47, sh_24, sh_54, sh_50, sh_7, sh_59, sh_63, sh_62, sh_62]
abbrev sh_64 : aC := .inr (1, [.inr none, .inr none, .inr (some 33), .inr (some 34), .inr none])
def GC_85 : List aC := [sh_60, sh_9, sh_2, sh_2, sh_2, sh_2, sh_7, sh_7, sh_14, sh_12, sh_12, sh_18, sh_12, sh_12, sh_12, sh_48, sh_27, sh_24, sh_31, sh_24, sh_35, sh_24, sh_39, sh_24, sh_43, sh_24, sh_47, sh_24, sh_54, sh_50, sh_7, sh_59, sh_64, sh_62, sh_62]
def GC_86 : List aC := [sh_60, sh_9, sh_2, sh_2, sh_2, sh_2, sh_7, sh_7, sh_14, sh_12, sh_12, sh_18, sh_12, sh_12, sh_12, sh_48, sh_27, sh_24, sh_31, sh_24, sh_35, sh_24, sh_39, sh_24, sh_43, sh_24, sh_47, sh_24, sh_54, sh_50, sh_7, sh_59, sh_64, sh_62, sh_62, sh_2]
abbrev sh_65 : aC := .inr (1, [.inr none, .inr none, .inr (some 33), .inr (some 34), .inr (some 35)])
def GC_87 : List aC := [sh_60, sh_9, sh_2, sh_2, sh_2, sh_2, sh_7, sh_7, sh_14, sh_12, sh_12, sh_18, sh_12, sh_12, sh_12, sh_48, sh_27, sh_24, sh_31, sh_24, sh_35, sh_24, sh_39, sh_24, sh_43, sh_24, sh_47, sh_24, sh_54, sh_50, sh_7, sh_59, sh_65, sh_62, sh_62, sh_2]
abbrev sh_66 : aC := .inr (1, [.inr (some 1), .inr none, .inr (some 33), .inr (some 34), .inr (some 35)])
def GC_88 : List aC := [sh_60, sh_9, sh_2, sh_2, sh_2, sh_2, sh_7, sh_7, sh_14, sh_12, sh_12, sh_18, sh_12, sh_12, sh_12, sh_48, sh_27, sh_24, sh_31, sh_24, sh_35, sh_24, sh_39, sh_24, sh_43, sh_24, sh_47, sh_24, sh_54, sh_50, sh_7, sh_59, sh_66, sh_62, sh_62, sh_2]
abbrev sh_67 : aC := .inr (1, [.inr (some 1), .inr (some 15), .inr (some 33), .inr (some 34), .inr (some 35)])
def GC_89 : List aC := [sh_60, sh_9, sh_2, sh_2, sh_2, sh_2, sh_7, sh_7, sh_14, sh_12, sh_12, sh_18, sh_12, sh_12, sh_12, sh_48, sh_27, sh_24, sh_31, sh_24, sh_35, sh_24, sh_39, sh_24, sh_43, sh_24, sh_47, sh_24, sh_54, sh_50, sh_7, sh_59, sh_67, sh_62, sh_62, sh_2]
abbrev sh_68 : aC := .inr (11, [.inr (some 1), .inr (some 8), .inr (some 11), .inr (some 14), .inl false, .inr (some 15), .inr (some 28), .inr (some 31), .inr (some 32), .inr none, .inr none, .inr none, .inr none])
def GC_90 : List aC := [sh_68, sh_9, sh_2, sh_2, sh_2, sh_2, sh_7, sh_7, sh_14, sh_12, sh_12, sh_18, sh_12, sh_12, sh_12, sh_48, sh_27, sh_24, sh_31, sh_24, sh_35, sh_24, sh_39, sh_24, sh_43, sh_24, sh_47, sh_24, sh_54, sh_50, sh_7, sh_59, sh_67, sh_62, sh_62, sh_2]
abbrev ksb_X2 : List (Bool ⊕ Option Nat) := [.inr none, .inr none, .inl false, .inl false]
def dvl_X2 : List Value := [.null, .null, .int 0, .int 0]
theorem dv_X2 : ∀ j, j < 4 → defaultValue (tyX2 j) = vp_V dvl_X2 j := by decide +kernel
abbrev sh_69 : aC := .inr (2, [.inr none, .inr none, .inl false, .inl false])
def GC_91 : List aC := [sh_68, sh_9, sh_2, sh_2, sh_2, sh_2, sh_7, sh_7, sh_14, sh_12, sh_12, sh_18, sh_12, sh_12, sh_12, sh_48, sh_27, sh_24, sh_31, sh_24, sh_35, sh_24, sh_39, sh_24, sh_43, sh_24, sh_47, sh_24, sh_54, sh_50, sh_7, sh_59, sh_67, sh_62, sh_62, sh_2, sh_69]
abbrev sh_70 : aC := .inl (.int, 160, [])
def GC_92 : List aC := [sh_68, sh_9, sh_2, sh_2, sh_2, sh_2, sh_7, sh_7, sh_14, sh_12, sh_12, sh_18, sh_12, sh_12, sh_12, sh_48, sh_27, sh_24, sh_31, sh_24, sh_35, sh_24, sh_39, sh_24, sh_43, sh_24, sh_47, sh_24, sh_54, sh_50, sh_7, sh_59, sh_67, sh_62, sh_62, sh_2, sh_69, sh_70]
abbrev sh_71 : aC := .inr (2, [.inr none, .inr (some 37), .inl false, .inl false])
def GC_93 : List aC := [sh_68, sh_9, sh_2, sh_2, sh_2, sh_2, sh_7, sh_7, sh_14, sh_12, sh_12, sh_18, sh_12, sh_12, sh_12, sh_48, sh_27, sh_24, sh_31, sh_24, sh_35, sh_24, sh_39, sh_24, sh_43, sh_24, sh_47, sh_24, sh_54, sh_50, sh_7, sh_59, sh_67, sh_62, sh_62, sh_2, sh_71, sh_70]
abbrev sh_72 : aC := .inr (2, [.inr (some 1), .inr (some 37), .inl false, .inl false])
def GC_94 : List aC := [sh_68, sh_9, sh_2, sh_2, sh_2, sh_2, sh_7, sh_7, sh_14, sh_12, sh_12, sh_18, sh_12, sh_12, sh_12, sh_48, sh_27, sh_24, sh_31, sh_24, sh_35, sh_24, sh_39, sh_24, sh_43, sh_24, sh_47, sh_24, sh_54, sh_50, sh_7, sh_59, sh_67, sh_62, sh_62, sh_2, sh_72, sh_70]
abbrev sh_73 : aC := .inr (11, [.inr (some 1), .inr (some 8), .inr (some 11), .inr (some 14), .inl false, .inr (some 15), .inr (some 28), .inr (some 31), .inr (some 32), .inr (some 36), .inr none, .inr none, .inr none])
def GC_95 : List aC := [sh_73, sh_9, sh_2, sh_2, sh_2, sh_2, sh_7, sh_7, sh_14, sh_12, sh_12, sh_18, sh_12, sh_12, sh_12, sh_48, sh_27, sh_24, sh_31, sh_24, sh_35, sh_24, sh_39, sh_24, sh_43, sh_24, sh_47, sh_24, sh_54, sh_50, sh_7, sh_59, sh_67, sh_62, sh_62, sh_2, sh_72, sh_70]
abbrev ksb_X4 : List (Bool ⊕ Option Nat) := [.inr none, .inr none, .inr none, .inl false, .inl false, .inr none, .inr none, .inr none, .inr none]
def dvl_X4 : List Value := [.null, .null, .null, .int 0, .int 0, .null, .null, .null, .null]
theorem dv_X4 : ∀ j, j < 9 → defaultValue (tyX4 j) = vp_V dvl_X4 j := by decide +kernel
abbrev sh_74 : aC := .inr (4, [.inr none, .inr none, .inr none, .inl false, .inl false, .inr none, .inr none, .inr none, .inr none])
def GC_96 : List aC := [sh_73, sh_9, sh_2, sh_2, sh_2, sh_2, sh_7, sh_7, sh_14, sh_12, sh_12, sh_18, sh_12, sh_12, sh_12, sh_48, sh_27, sh_24, sh_31, sh_24, sh_35, sh_24, sh_39, sh_24, sh_43, sh_24, sh_47, sh_24, sh_54, sh_50, sh_7, sh_59, sh_67, sh_62, sh_62, sh_2, sh_72, sh_70, sh_74]
abbrev sh_75 : aC := .inl (.int, 5, [])
def GC_97 : List aC := [sh_73, sh_9, sh_2, sh_2, sh_2, sh_2, sh_7, sh_7, sh_14, sh_12, sh_12, sh_18, sh_12, sh_12, sh_12, sh_48, sh_27, sh_24, sh_31, sh_24, sh_35, sh_24, sh_39, sh_24, sh_43, sh_24, sh_47, sh_24, sh_54, sh_50, sh_7, sh_59, sh_67, sh_62, sh_62, sh_2, sh_72, sh_70, sh_74, sh_75]
abbrev sh_76 : aC := .inr (4, [.inr none, .inr none, .inr (some 39), .inl false, .inl false, .inr none, .inr none, .inr none, .inr none])
def GC_98 : List aC := [sh_73, sh_9, sh_2, sh_2, sh_2, sh_2, sh_7, sh_7, sh_14, sh_12, sh_12, sh_18, sh_12, sh_12, sh_12, sh_48, sh_27, sh_24, sh_31, sh_24, sh_35, sh_24, sh_39, sh_24, sh_43, sh_24, sh_47, sh_24, sh_54, sh_50, sh_7, sh_59, sh_67, sh_62, sh_62, sh_2, sh_72, sh_70, sh_76, sh_75]
def GC_99 : List aC := [sh_73, sh_9, sh_2, sh_2, sh_2, sh_2, sh_7, sh_7, sh_14, sh_12, sh_12, sh_18, sh_12, sh_12, sh_12, sh_48, sh_27, sh_24, sh_31, sh_24, sh_35, sh_24, sh_39, sh_24, sh_43, sh_24, sh_47, sh_24, sh_54, sh_50, sh_7, sh_59, sh_67, sh_62, sh_62, sh_2, sh_72, sh_70, sh_76, sh_75, sh_2]
abbrev sh_77 : aC := .inr (4, [.inr none, .inr none, .inr (some 39), .inl false, .inl false, .inr (some 40), .inr none, .inr none, .inr none])
def GC_100 : List aC := [sh_73, sh_9, sh_2, sh_2, sh_2, sh_2, sh_7, sh_7, sh_14, sh_12, sh_12, sh_18, sh_12, sh_12, sh_12, sh_48, sh_27, sh_24, sh_31, sh_24, sh_35, sh_24, sh_39, sh_24, sh_43, sh_24, sh_47, sh_24, sh_54, sh_50, sh_7, sh_59, sh_67, sh_62, sh_62, sh_2, sh_72, sh_70, sh_77, sh_75, sh_2]
def GC_101 : List aC := [sh_73, sh_9, sh_2, sh_2, sh_2, sh_2, sh_7, sh_7, sh_14, sh_12, sh_12, sh_18, sh_12, sh_12, sh_12, sh_48, sh_27, sh_24, sh_31, sh_24, sh_35, sh_24, sh_39, sh_24, sh_43, sh_24, sh_47, sh_24, sh_54, sh_50, sh_7, sh_59, sh_67, sh_62, sh_62, sh_2, sh_72, sh_70, sh_77, sh_75, sh_2, sh_2]
abbrev sh_78 : aC := .inr (4, [.inr none, .inr none, .inr (some 39), .inl false, .inl false, .inr (some 40), .inr (some 41), .inr none, .inr none])
def GC_102 : List aC := [sh_73, sh_9, sh_2, sh_2, sh_2, sh_2, sh_7, sh_7, sh_14, sh_12, sh_12, sh_18, sh_12, sh_12, sh_12, sh_48, sh_27, sh_24, sh_31, sh_24, sh_35, sh_24, sh_39, sh_24, sh_43, sh_24, sh_47, sh_24, sh_54, sh_50, sh_7, sh_59, sh_67, sh_62, sh_62, sh_2, sh_72, sh_70, sh_78, sh_75, sh_2, sh_2]
def GC_103 : List aC := [sh_73, sh_9, sh_2, sh_2, sh_2, sh_2, sh_7, sh_7, sh_14, sh_12, sh_12, sh_18, sh_12, sh_12, sh_12, sh_48, sh_27, sh_24, sh_31, sh_24, sh_35, sh_24, sh_39, sh_24, sh_43, sh_24, sh_47, sh_24, sh_54, sh_50, sh_7, sh_59, sh_67, sh_62, sh_62, sh_2, sh_72, sh_70, sh_78, sh_75, sh_2, sh_2, sh_2]
abbrev sh_79 : aC := .inr (4, [.inr none, .inr none, .inr (some 39), .inl false, .inl false, .inr (some 40), .inr (some 41), .inr (some 42), .inr none])
def GC_104 : List aC := [sh_73, sh_9, sh_2, sh_2, sh_2, sh_2, sh_7, sh_7, sh_14, sh_12, sh_12, sh_18, sh_12, sh_12, sh_12, sh_48, sh_27, sh_24, sh_31, sh_24, sh_35, sh_24, sh_39, sh_24, sh_43, sh_24, sh_47, sh_24, sh_54, sh_50, sh_7, sh_59, sh_67, sh_62, sh_62, sh_2, sh_72, sh_70, sh_79, sh_75, sh_2, sh_2, sh_2]
def GC_105 : List aC := [sh_73, sh_9, sh_2, sh_2, sh_2, sh_2, sh_7, sh_7, sh_14, sh_12, sh_12, sh_18, sh_12, sh_12, sh_12, sh_48, sh_27, sh_24, sh_31, sh_24, sh_35, sh_24, sh_39, sh_24, sh_43, sh_24, sh_47, sh_24, sh_54, sh_50, sh_7, sh_59, sh_67, sh_62, sh_62, sh_2, sh_72, sh_70, sh_79, sh_75, sh_2, sh_2, sh_2, sh_75]
abbrev sh_80 : aC := .inr (4, [.inr none, .inr none, .inr (some 39), .inl false, .inl false, .inr (some 40), .inr (some 41), .inr (some 42), .inr (some 43)])
def GC_106 : List aC := [sh_73, sh_9, sh_2, sh_2, sh_2, sh_2, sh_7, sh_7, sh_14, sh_12, sh_12, sh_18, sh_12, sh_12, sh_12, sh_48, sh_27, sh_24, sh_31, sh_24, sh_35, sh_24, sh_39, sh_24, sh_43, sh_24, sh_47, sh_24, sh_54, sh_50, sh_7, sh_59, sh_67, sh_62, sh_62, sh_2, sh_72, sh_70, sh_80, sh_75, sh_2, sh_2, sh_2, sh_75]
abbrev sh_81 : aC := .inr (4, [.inr (some 1), .inr none, .inr (some 39), .inl false, .inl false, .inr (some 40), .inr (some 41), .inr (some 42), .inr (some 43)])
def GC_107 : List aC := [sh_73, sh_9, sh_2, sh_2, sh_2, sh_2, sh_7, sh_7, sh_14, sh_12, sh_12, sh_18, sh_12, sh_12, sh_12, sh_48, sh_27, sh_24, sh_31, sh_24, sh_35, sh_24, sh_39, sh_24, sh_43, sh_24, sh_47, sh_24, sh_54, sh_50, sh_7, sh_59, sh_67, sh_62, sh_62, sh_2, sh_72, sh_70, sh_81, sh_75, sh_2, sh_2, sh_2, sh_75]
abbrev sh_82 : aC := .inr (4, [.inr (some 1), .inr (some 15), .inr (some 39), .inl false, .inl false, .inr (some 40), .inr (some 41), .inr (some 42), .inr (some 43)])
def GC_108 : List aC := [sh_73, sh_9, sh_2, sh_2, sh_2, sh_2, sh_7, sh_7, sh_14, sh_12, sh_12, sh_18, sh_12, sh_12, sh_12, sh_48, sh_27, sh_24, sh_31, sh_24, sh_35, sh_24, sh_39, sh_24, sh_43, sh_24, sh_47, sh_24, sh_54, sh_50, sh_7, sh_59, sh_67, sh_62, sh_62, sh_2, sh_72, sh_70, sh_82, sh_75, sh_2, sh_2, sh_2, sh_75]
abbrev sh_83 : aC := .inr (11, [.inr (some 1), .inr (some 8), .inr (some 11), .inr (some 14), .inl false, .inr (some 15), .inr (some 28), .inr (some 31), .inr (some 32), .inr (some 36), .inr (some 38), .inr none, .inr none])
def GC_109 : List aC := [sh_83, sh_9, sh_2, sh_2, sh_2, sh_2, sh_7, sh_7, sh_14, sh_12, sh_12, sh_18, sh_12, sh_12, sh_12, sh_48, sh_27, sh_24, sh_31, sh_24, sh_35, sh_24, sh_39, sh_24, sh_43, sh_24, sh_47, sh_24, sh_54, sh_50, sh_7, sh_59, sh_67, sh_62, sh_62, sh_2, sh_72, sh_70, sh_82, sh_75, sh_2, sh_2, sh_2, sh_75]
abbrev sh_84 : aC := .inl (.object "CoachmenFace$Shelf", 6, [])
def GC_110 : List aC := [sh_83, sh_9, sh_2, sh_2, sh_2, sh_2, sh_7, sh_7, sh_14, sh_12, sh_12, sh_18, sh_12, sh_12, sh_12, sh_48, sh_27, sh_24, sh_31, sh_24, sh_35, sh_24, sh_39, sh_24, sh_43, sh_24, sh_47, sh_24, sh_54, sh_50, sh_7, sh_59, sh_67, sh_62, sh_62, sh_2, sh_72, sh_70, sh_82, sh_75, sh_2, sh_2, sh_2, sh_75, sh_84]
abbrev sh_85 : aC := .inr (11, [.inr (some 1), .inr (some 8), .inr (some 11), .inr (some 14), .inl false, .inr (some 15), .inr (some 28), .inr (some 31), .inr (some 32), .inr (some 36), .inr (some 38), .inr (some 44), .inr none])
def GC_111 : List aC := [sh_85, sh_9, sh_2, sh_2, sh_2, sh_2, sh_7, sh_7, sh_14, sh_12, sh_12, sh_18, sh_12, sh_12, sh_12, sh_48, sh_27, sh_24, sh_31, sh_24, sh_35, sh_24, sh_39, sh_24, sh_43, sh_24, sh_47, sh_24, sh_54, sh_50, sh_7, sh_59, sh_67, sh_62, sh_62, sh_2, sh_72, sh_70, sh_82, sh_75, sh_2, sh_2, sh_2, sh_75, sh_84]
abbrev ksb_X10 : List (Bool ⊕ Option Nat) := [.inl false, .inl false, .inl false, .inr none]
def dvl_X10 : List Value := [.int 0, .int 0, .int 0, .null]
theorem dv_X10 : ∀ j, j < 4 → defaultValue (tyX10 j) = vp_V dvl_X10 j := by decide +kernel
abbrev sh_86 : aC := .inr (10, [.inl false, .inl false, .inl false, .inr none])
def GC_112 : List aC := [sh_85, sh_9, sh_2, sh_2, sh_2, sh_2, sh_7, sh_7, sh_14, sh_12, sh_12, sh_18, sh_12, sh_12, sh_12, sh_48, sh_27, sh_24, sh_31, sh_24, sh_35, sh_24, sh_39, sh_24, sh_43, sh_24, sh_47, sh_24, sh_54, sh_50, sh_7, sh_59, sh_67, sh_62, sh_62, sh_2, sh_72, sh_70, sh_82, sh_75, sh_2, sh_2, sh_2, sh_75, sh_84, sh_86]
abbrev sh_87 : aC := .inl (.long, 60, [])
def GC_113 : List aC := [sh_85, sh_9, sh_2, sh_2, sh_2, sh_2, sh_7, sh_7, sh_14, sh_12, sh_12, sh_18, sh_12, sh_12, sh_12, sh_48, sh_27, sh_24, sh_31, sh_24, sh_35, sh_24, sh_39, sh_24, sh_43, sh_24, sh_47, sh_24, sh_54, sh_50, sh_7, sh_59, sh_67, sh_62, sh_62, sh_2, sh_72, sh_70, sh_82, sh_75, sh_2, sh_2, sh_2, sh_75, sh_84, sh_86, sh_87]
abbrev sh_88 : aC := .inr (10, [.inl false, .inl false, .inl false, .inr (some 46)])
def GC_114 : List aC := [sh_85, sh_9, sh_2, sh_2, sh_2, sh_2, sh_7, sh_7, sh_14, sh_12, sh_12, sh_18, sh_12, sh_12, sh_12, sh_48, sh_27, sh_24, sh_31, sh_24, sh_35, sh_24, sh_39, sh_24, sh_43, sh_24, sh_47, sh_24, sh_54, sh_50, sh_7, sh_59, sh_67, sh_62, sh_62, sh_2, sh_72, sh_70, sh_82, sh_75, sh_2, sh_2, sh_2, sh_75, sh_84, sh_88, sh_87]
abbrev sh_89 : aC := .inl (.object "CoachmenFace$Shelf", 6, [some 45])
def GC_115 : List aC := [sh_85, sh_9, sh_2, sh_2, sh_2, sh_2, sh_7, sh_7, sh_14, sh_12, sh_12, sh_18, sh_12, sh_12, sh_12, sh_48, sh_27, sh_24, sh_31, sh_24, sh_35, sh_24, sh_39, sh_24, sh_43, sh_24, sh_47, sh_24, sh_54, sh_50, sh_7, sh_59, sh_67, sh_62, sh_62, sh_2, sh_72, sh_70, sh_82, sh_75, sh_2, sh_2, sh_2, sh_75, sh_89, sh_88, sh_87]
def GC_116 : List aC := [sh_85, sh_9, sh_2, sh_2, sh_2, sh_2, sh_7, sh_7, sh_14, sh_12, sh_12, sh_18, sh_12, sh_12, sh_12, sh_48, sh_27, sh_24, sh_31, sh_24, sh_35, sh_24, sh_39, sh_24, sh_43, sh_24, sh_47, sh_24, sh_54, sh_50, sh_7, sh_59, sh_67, sh_62, sh_62, sh_2, sh_72, sh_70, sh_82, sh_75, sh_2, sh_2, sh_2, sh_75, sh_89, sh_88, sh_87, sh_86]
def GC_117 : List aC := [sh_85, sh_9, sh_2, sh_2, sh_2, sh_2, sh_7, sh_7, sh_14, sh_12, sh_12, sh_18, sh_12, sh_12, sh_12, sh_48, sh_27, sh_24, sh_31, sh_24, sh_35, sh_24, sh_39, sh_24, sh_43, sh_24, sh_47, sh_24, sh_54, sh_50, sh_7, sh_59, sh_67, sh_62, sh_62, sh_2, sh_72, sh_70, sh_82, sh_75, sh_2, sh_2, sh_2, sh_75, sh_89, sh_88, sh_87, sh_86, sh_87]
abbrev sh_90 : aC := .inr (10, [.inl false, .inl false, .inl false, .inr (some 48)])
def GC_118 : List aC := [sh_85, sh_9, sh_2, sh_2, sh_2, sh_2, sh_7, sh_7, sh_14, sh_12, sh_12, sh_18, sh_12, sh_12, sh_12, sh_48, sh_27, sh_24, sh_31, sh_24, sh_35, sh_24, sh_39, sh_24, sh_43, sh_24, sh_47, sh_24, sh_54, sh_50, sh_7, sh_59, sh_67, sh_62, sh_62, sh_2, sh_72, sh_70, sh_82, sh_75, sh_2, sh_2, sh_2, sh_75, sh_89, sh_88, sh_87, sh_90, sh_87]
abbrev sh_91 : aC := .inl (.object "CoachmenFace$Shelf", 6, [some 45, some 47])
def GC_119 : List aC := [sh_85, sh_9, sh_2, sh_2, sh_2, sh_2, sh_7, sh_7, sh_14, sh_12, sh_12, sh_18, sh_12, sh_12, sh_12, sh_48, sh_27, sh_24, sh_31, sh_24, sh_35, sh_24, sh_39, sh_24, sh_43, sh_24, sh_47, sh_24, sh_54, sh_50, sh_7, sh_59, sh_67, sh_62, sh_62, sh_2, sh_72, sh_70, sh_82, sh_75, sh_2, sh_2, sh_2, sh_75, sh_91, sh_88, sh_87, sh_90, sh_87]
def GC_120 : List aC := [sh_85, sh_9, sh_2, sh_2, sh_2, sh_2, sh_7, sh_7, sh_14, sh_12, sh_12, sh_18, sh_12, sh_12, sh_12, sh_48, sh_27, sh_24, sh_31, sh_24, sh_35, sh_24, sh_39, sh_24, sh_43, sh_24, sh_47, sh_24, sh_54, sh_50, sh_7, sh_59, sh_67, sh_62, sh_62, sh_2, sh_72, sh_70, sh_82, sh_75, sh_2, sh_2, sh_2, sh_75, sh_91, sh_88, sh_87, sh_90, sh_87, sh_86]
def GC_121 : List aC := [sh_85, sh_9, sh_2, sh_2, sh_2, sh_2, sh_7, sh_7, sh_14, sh_12, sh_12, sh_18, sh_12, sh_12, sh_12, sh_48, sh_27, sh_24, sh_31, sh_24, sh_35, sh_24, sh_39, sh_24, sh_43, sh_24, sh_47, sh_24, sh_54, sh_50, sh_7, sh_59, sh_67, sh_62, sh_62, sh_2, sh_72, sh_70, sh_82, sh_75, sh_2, sh_2, sh_2, sh_75, sh_91, sh_88, sh_87, sh_90, sh_87, sh_86, sh_87]
abbrev sh_92 : aC := .inr (10, [.inl false, .inl false, .inl false, .inr (some 50)])
def GC_122 : List aC := [sh_85, sh_9, sh_2, sh_2, sh_2, sh_2, sh_7, sh_7, sh_14, sh_12, sh_12, sh_18, sh_12, sh_12, sh_12, sh_48, sh_27, sh_24, sh_31, sh_24, sh_35, sh_24, sh_39, sh_24, sh_43, sh_24, sh_47, sh_24, sh_54, sh_50, sh_7, sh_59, sh_67, sh_62, sh_62, sh_2, sh_72, sh_70, sh_82, sh_75, sh_2, sh_2, sh_2, sh_75, sh_91, sh_88, sh_87, sh_90, sh_87, sh_92, sh_87]
abbrev sh_93 : aC := .inl (.object "CoachmenFace$Shelf", 6, [some 45, some 47, some 49])
def GC_123 : List aC := [sh_85, sh_9, sh_2, sh_2, sh_2, sh_2, sh_7, sh_7, sh_14, sh_12, sh_12, sh_18, sh_12, sh_12, sh_12, sh_48, sh_27, sh_24, sh_31, sh_24, sh_35, sh_24, sh_39, sh_24, sh_43, sh_24, sh_47, sh_24, sh_54, sh_50, sh_7, sh_59, sh_67, sh_62, sh_62, sh_2, sh_72, sh_70, sh_82, sh_75, sh_2, sh_2, sh_2, sh_75, sh_93, sh_88, sh_87, sh_90, sh_87, sh_92, sh_87]
def GC_124 : List aC := [sh_85, sh_9, sh_2, sh_2, sh_2, sh_2, sh_7, sh_7, sh_14, sh_12, sh_12, sh_18, sh_12, sh_12, sh_12, sh_48, sh_27, sh_24, sh_31, sh_24, sh_35, sh_24, sh_39, sh_24, sh_43, sh_24, sh_47, sh_24, sh_54, sh_50, sh_7, sh_59, sh_67, sh_62, sh_62, sh_2, sh_72, sh_70, sh_82, sh_75, sh_2, sh_2, sh_2, sh_75, sh_93, sh_88, sh_87, sh_90, sh_87, sh_92, sh_87, sh_86]
def GC_125 : List aC := [sh_85, sh_9, sh_2, sh_2, sh_2, sh_2, sh_7, sh_7, sh_14, sh_12, sh_12, sh_18, sh_12, sh_12, sh_12, sh_48, sh_27, sh_24, sh_31, sh_24, sh_35, sh_24, sh_39, sh_24, sh_43, sh_24, sh_47, sh_24, sh_54, sh_50, sh_7, sh_59, sh_67, sh_62, sh_62, sh_2, sh_72, sh_70, sh_82, sh_75, sh_2, sh_2, sh_2, sh_75, sh_93, sh_88, sh_87, sh_90, sh_87, sh_92, sh_87, sh_86, sh_87]
abbrev sh_94 : aC := .inr (10, [.inl false, .inl false, .inl false, .inr (some 52)])
def GC_126 : List aC := [sh_85, sh_9, sh_2, sh_2, sh_2, sh_2, sh_7, sh_7, sh_14, sh_12, sh_12, sh_18, sh_12, sh_12, sh_12, sh_48, sh_27, sh_24, sh_31, sh_24, sh_35, sh_24, sh_39, sh_24, sh_43, sh_24, sh_47, sh_24, sh_54, sh_50, sh_7, sh_59, sh_67, sh_62, sh_62, sh_2, sh_72, sh_70, sh_82, sh_75, sh_2, sh_2, sh_2, sh_75, sh_93, sh_88, sh_87, sh_90, sh_87, sh_92, sh_87, sh_94, sh_87]
abbrev sh_95 : aC := .inl (.object "CoachmenFace$Shelf", 6, [some 45, some 47, some 49, some 51])
def GC_127 : List aC := [sh_85, sh_9, sh_2, sh_2, sh_2, sh_2, sh_7, sh_7, sh_14, sh_12, sh_12, sh_18, sh_12, sh_12, sh_12, sh_48, sh_27, sh_24, sh_31, sh_24, sh_35, sh_24, sh_39, sh_24, sh_43, sh_24, sh_47, sh_24, sh_54, sh_50, sh_7, sh_59, sh_67, sh_62, sh_62, sh_2, sh_72, sh_70, sh_82, sh_75, sh_2, sh_2, sh_2, sh_75, sh_95, sh_88, sh_87, sh_90, sh_87, sh_92, sh_87, sh_94, sh_87]
def GC_128 : List aC := [sh_85, sh_9, sh_2, sh_2, sh_2, sh_2, sh_7, sh_7, sh_14, sh_12, sh_12, sh_18, sh_12, sh_12, sh_12, sh_48, sh_27, sh_24, sh_31, sh_24, sh_35, sh_24, sh_39, sh_24, sh_43, sh_24, sh_47, sh_24, sh_54, sh_50, sh_7, sh_59, sh_67, sh_62, sh_62, sh_2, sh_72, sh_70, sh_82, sh_75, sh_2, sh_2, sh_2, sh_75, sh_95, sh_88, sh_87, sh_90, sh_87, sh_92, sh_87, sh_94, sh_87, sh_86]
def GC_129 : List aC := [sh_85, sh_9, sh_2, sh_2, sh_2, sh_2, sh_7, sh_7, sh_14, sh_12, sh_12, sh_18, sh_12, sh_12, sh_12, sh_48, sh_27, sh_24, sh_31, sh_24, sh_35, sh_24, sh_39, sh_24, sh_43, sh_24, sh_47, sh_24, sh_54, sh_50, sh_7, sh_59, sh_67, sh_62, sh_62, sh_2, sh_72, sh_70, sh_82, sh_75, sh_2, sh_2, sh_2, sh_75, sh_95, sh_88, sh_87, sh_90, sh_87, sh_92, sh_87, sh_94, sh_87, sh_86, sh_87]
abbrev sh_96 : aC := .inr (10, [.inl false, .inl false, .inl false, .inr (some 54)])
def GC_130 : List aC := [sh_85, sh_9, sh_2, sh_2, sh_2, sh_2, sh_7, sh_7, sh_14, sh_12, sh_12, sh_18, sh_12, sh_12, sh_12, sh_48, sh_27, sh_24, sh_31, sh_24, sh_35, sh_24, sh_39, sh_24, sh_43, sh_24, sh_47, sh_24, sh_54, sh_50, sh_7, sh_59, sh_67, sh_62, sh_62, sh_2, sh_72, sh_70, sh_82, sh_75, sh_2, sh_2, sh_2, sh_75, sh_95, sh_88, sh_87, sh_90, sh_87, sh_92, sh_87, sh_94, sh_87, sh_96, sh_87]
abbrev sh_97 : aC := .inl (.object "CoachmenFace$Shelf", 6, [some 45, some 47, some 49, some 51, some 53])
def GC_131 : List aC := [sh_85, sh_9, sh_2, sh_2, sh_2, sh_2, sh_7, sh_7, sh_14, sh_12, sh_12, sh_18, sh_12, sh_12, sh_12, sh_48, sh_27, sh_24, sh_31, sh_24, sh_35, sh_24, sh_39, sh_24, sh_43, sh_24, sh_47, sh_24, sh_54, sh_50, sh_7, sh_59, sh_67, sh_62, sh_62, sh_2, sh_72, sh_70, sh_82, sh_75, sh_2, sh_2, sh_2, sh_75, sh_97, sh_88, sh_87, sh_90, sh_87, sh_92, sh_87, sh_94, sh_87, sh_96, sh_87]
def GC_132 : List aC := [sh_85, sh_9, sh_2, sh_2, sh_2, sh_2, sh_7, sh_7, sh_14, sh_12, sh_12, sh_18, sh_12, sh_12, sh_12, sh_48, sh_27, sh_24, sh_31, sh_24, sh_35, sh_24, sh_39, sh_24, sh_43, sh_24, sh_47, sh_24, sh_54, sh_50, sh_7, sh_59, sh_67, sh_62, sh_62, sh_2, sh_72, sh_70, sh_82, sh_75, sh_2, sh_2, sh_2, sh_75, sh_97, sh_88, sh_87, sh_90, sh_87, sh_92, sh_87, sh_94, sh_87, sh_96, sh_87, sh_86]
def GC_133 : List aC := [sh_85, sh_9, sh_2, sh_2, sh_2, sh_2, sh_7, sh_7, sh_14, sh_12, sh_12, sh_18, sh_12, sh_12, sh_12, sh_48, sh_27, sh_24, sh_31, sh_24, sh_35, sh_24, sh_39, sh_24, sh_43, sh_24, sh_47, sh_24, sh_54, sh_50, sh_7, sh_59, sh_67, sh_62, sh_62, sh_2, sh_72, sh_70, sh_82, sh_75, sh_2, sh_2, sh_2, sh_75, sh_97, sh_88, sh_87, sh_90, sh_87, sh_92, sh_87, sh_94, sh_87, sh_96, sh_87, sh_86, sh_87]
abbrev sh_98 : aC := .inr (10, [.inl false, .inl false, .inl false, .inr (some 56)])
def GC_134 : List aC := [sh_85, sh_9, sh_2, sh_2, sh_2, sh_2, sh_7, sh_7, sh_14, sh_12, sh_12, sh_18, sh_12, sh_12, sh_12, sh_48, sh_27, sh_24, sh_31, sh_24, sh_35, sh_24, sh_39, sh_24, sh_43, sh_24, sh_47, sh_24, sh_54, sh_50, sh_7, sh_59, sh_67, sh_62, sh_62, sh_2, sh_72, sh_70, sh_82, sh_75, sh_2, sh_2, sh_2, sh_75, sh_97, sh_88, sh_87, sh_90, sh_87, sh_92, sh_87, sh_94, sh_87, sh_96, sh_87, sh_98, sh_87]
abbrev sh_99 : aC := .inl (.object "CoachmenFace$Shelf", 6, [some 45, some 47, some 49, some 51, some 53, some 55])
def GC_135 : List aC := [sh_85, sh_9, sh_2, sh_2, sh_2, sh_2, sh_7, sh_7, sh_14, sh_12, sh_12, sh_18, sh_12, sh_12, sh_12, sh_48, sh_27, sh_24, sh_31, sh_24, sh_35, sh_24, sh_39, sh_24, sh_43, sh_24, sh_47, sh_24, sh_54, sh_50, sh_7, sh_59, sh_67, sh_62, sh_62, sh_2, sh_72, sh_70, sh_82, sh_75, sh_2, sh_2, sh_2, sh_75, sh_99, sh_88, sh_87, sh_90, sh_87, sh_92, sh_87, sh_94, sh_87, sh_96, sh_87, sh_98, sh_87]
abbrev ksb_X0 : List (Bool ⊕ Option Nat) := [.inr none, .inl false, .inr none, .inl false, .inl false]
def dvl_X0 : List Value := [.null, .int 0, .null, .int 0, .int 0]
theorem dv_X0 : ∀ j, j < 5 → defaultValue (tyX0 j) = vp_V dvl_X0 j := by decide +kernel
abbrev sh_100 : aC := .inr (0, [.inr none, .inl false, .inr none, .inl false, .inl false])
def GC_136 : List aC := [sh_85, sh_9, sh_2, sh_2, sh_2, sh_2, sh_7, sh_7, sh_14, sh_12, sh_12, sh_18, sh_12, sh_12, sh_12, sh_48, sh_27, sh_24, sh_31, sh_24, sh_35, sh_24, sh_39, sh_24, sh_43, sh_24, sh_47, sh_24, sh_54, sh_50, sh_7, sh_59, sh_67, sh_62, sh_62, sh_2, sh_72, sh_70, sh_82, sh_75, sh_2, sh_2, sh_2, sh_75, sh_99, sh_88, sh_87, sh_90, sh_87, sh_92, sh_87, sh_94, sh_87, sh_96, sh_87, sh_98, sh_87, sh_100]
abbrev sh_101 : aC := .inl (.int, 50, [])
def GC_137 : List aC := [sh_85, sh_9, sh_2, sh_2, sh_2, sh_2, sh_7, sh_7, sh_14, sh_12, sh_12, sh_18, sh_12, sh_12, sh_12, sh_48, sh_27, sh_24, sh_31, sh_24, sh_35, sh_24, sh_39, sh_24, sh_43, sh_24, sh_47, sh_24, sh_54, sh_50, sh_7, sh_59, sh_67, sh_62, sh_62, sh_2, sh_72, sh_70, sh_82, sh_75, sh_2, sh_2, sh_2, sh_75, sh_99, sh_88, sh_87, sh_90, sh_87, sh_92, sh_87, sh_94, sh_87, sh_96, sh_87, sh_98, sh_87, sh_100, sh_101]
abbrev sh_102 : aC := .inr (0, [.inr (some 58), .inl false, .inr none, .inl false, .inl false])
def GC_138 : List aC := [sh_85, sh_9, sh_2, sh_2, sh_2, sh_2, sh_7, sh_7, sh_14, sh_12, sh_12, sh_18, sh_12, sh_12, sh_12, sh_48, sh_27, sh_24, sh_31, sh_24, sh_35, sh_24, sh_39, sh_24, sh_43, sh_24, sh_47, sh_24, sh_54, sh_50, sh_7, sh_59, sh_67, sh_62, sh_62, sh_2, sh_72, sh_70, sh_82, sh_75, sh_2, sh_2, sh_2, sh_75, sh_99, sh_88, sh_87, sh_90, sh_87, sh_92, sh_87, sh_94, sh_87, sh_96, sh_87, sh_98, sh_87, sh_102, sh_101]
abbrev sh_103 : aC := .inl (.int, 24, [])
def GC_139 : List aC := [sh_85, sh_9, sh_2, sh_2, sh_2, sh_2, sh_7, sh_7, sh_14, sh_12, sh_12, sh_18, sh_12, sh_12, sh_12, sh_48, sh_27, sh_24, sh_31, sh_24, sh_35, sh_24, sh_39, sh_24, sh_43, sh_24, sh_47, sh_24, sh_54, sh_50, sh_7, sh_59, sh_67, sh_62, sh_62, sh_2, sh_72, sh_70, sh_82, sh_75, sh_2, sh_2, sh_2, sh_75, sh_99, sh_88, sh_87, sh_90, sh_87, sh_92, sh_87, sh_94, sh_87, sh_96, sh_87, sh_98, sh_87, sh_102, sh_101, sh_103]
abbrev sh_104 : aC := .inr (0, [.inr (some 58), .inl false, .inr (some 59), .inl false, .inl false])
def GC_140 : List aC := [sh_85, sh_9, sh_2, sh_2, sh_2, sh_2, sh_7, sh_7, sh_14, sh_12, sh_12, sh_18, sh_12, sh_12, sh_12, sh_48, sh_27, sh_24, sh_31, sh_24, sh_35, sh_24, sh_39, sh_24, sh_43, sh_24, sh_47, sh_24, sh_54, sh_50, sh_7, sh_59, sh_67, sh_62, sh_62, sh_2, sh_72, sh_70, sh_82, sh_75, sh_2, sh_2, sh_2, sh_75, sh_99, sh_88, sh_87, sh_90, sh_87, sh_92, sh_87, sh_94, sh_87, sh_96, sh_87, sh_98, sh_87, sh_104, sh_101, sh_103]
abbrev sh_105 : aC := .inr (11, [.inr (some 1), .inr (some 8), .inr (some 11), .inr (some 14), .inl false, .inr (some 15), .inr (some 28), .inr (some 31), .inr (some 32), .inr (some 36), .inr (some 38), .inr (some 44), .inr (some 57)])
def GC_141 : List aC := [sh_105, sh_9, sh_2, sh_2, sh_2, sh_2, sh_7, sh_7, sh_14, sh_12, sh_12, sh_18, sh_12, sh_12, sh_12, sh_48, sh_27, sh_24, sh_31, sh_24, sh_35, sh_24, sh_39, sh_24, sh_43, sh_24, sh_47, sh_24, sh_54, sh_50, sh_7, sh_59, sh_67, sh_62, sh_62, sh_2, sh_72, sh_70, sh_82, sh_75, sh_2, sh_2, sh_2, sh_75, sh_99, sh_88, sh_87, sh_90, sh_87, sh_92, sh_87, sh_94, sh_87, sh_96, sh_87, sh_98, sh_87, sh_104, sh_101, sh_103]
abbrev ksb_X12 : List (Bool ⊕ Option Nat) := [.inl false, .inl false, .inr none, .inr none, .inr none, .inr none, .inl false, .inr none, .inr none, .inr none, .inl false, .inl false, .inr none, .inr none, .inr none, .inr none, .inr none, .inl false, .inl false, .inl false, .inl false, .inl false, .inr none, .inr none, .inr none, .inr none, .inr none, .inr none, .inr none, .inl false, .inl false, .inl false, .inl false, .inr none, .inr none, .inl true, .inl true, .inr none, .inr none, .inr none, .inl false, .inl false, .inl false, .inr none, .inr none, .inr none, .inr none, .inl false, .inr none, .inl false, .inr none, .inr none, .inr none, .inr none, .inr none]
def dvl_X12 : List Value := [.int 0, .int 0, .null, .null, .null, .null, .int 0, .null, .null, .null, .int 0, .int 0, .null, .null, .null, .null, .null, .int 0, .int 0, .int 0, .int 0, .int 0, .null, .null, .null, .null, .null, .null, .null, .int 0, .int 0, .int 0, .int 0, .null, .null, .long 0, .long 0, .null, .null, .null, .int 0, .int 0, .int 0, .null, .null, .null, .null, .int 0, .null, .int 0, .null, .null, .null, .null, .null]
theorem dv_X12 : ∀ j, j < 55 → defaultValue (tyX12 j) = vp_V dvl_X12 j := by decide +kernel
abbrev sh_106 : aC := .inr (12, [.inl false, .inl false, .inr none, .inr none, .inr none, .inr none, .inl false, .inr none, .inr none, .inr none, .inl false, .inl false, .inr none, .inr none, .inr none, .inr none, .inr none, .inl false, .inl false, .inl false, .inl false, .inl false, .inr none, .inr none, .inr none, .inr none, .inr none, .inr none, .inr none, .inl false, .inl false, .inl false, .inl false, .inr none, .inr none, .inl true, .inl true, .inr none, .inr none, .inr none, .inl false, .inl false, .inl false, .inr none, .inr none, .inr none, .inr none, .inl false, .inr none, .inl false, .inr none, .inr none, .inr none, .inr none, .inr none])
def GC_142 : List aC := [sh_105, sh_9, sh_2, sh_2, sh_2, sh_2, sh_7, sh_7, sh_14, sh_12, sh_12, sh_18, sh_12, sh_12, sh_12, sh_48, sh_27, sh_24, sh_31, sh_24, sh_35, sh_24, sh_39, sh_24, sh_43, sh_24, sh_47, sh_24, sh_54, sh_50, sh_7, sh_59, sh_67, sh_62, sh_62, sh_2, sh_72, sh_70, sh_82, sh_75, sh_2, sh_2, sh_2, sh_75, sh_99, sh_88, sh_87, sh_90, sh_87, sh_92, sh_87, sh_94, sh_87, sh_96, sh_87, sh_98, sh_87, sh_104, sh_101, sh_103, sh_106]
def GC_143 : List aC := [sh_105, sh_9, sh_2, sh_2, sh_2, sh_2, sh_7, sh_7, sh_14, sh_12, sh_12, sh_18, sh_12, sh_12, sh_12, sh_48, sh_27, sh_24, sh_31, sh_24, sh_35, sh_24, sh_39, sh_24, sh_43, sh_24, sh_47, sh_24, sh_54, sh_50, sh_7, sh_59, sh_67, sh_62, sh_62, sh_2, sh_72, sh_70, sh_82, sh_75, sh_2, sh_2, sh_2, sh_75, sh_99, sh_88, sh_87, sh_90, sh_87, sh_92, sh_87, sh_94, sh_87, sh_96, sh_87, sh_98, sh_87, sh_104, sh_101, sh_103, sh_106, sh_2]
abbrev sh_107 : aC := .inr (12, [.inl false, .inl false, .inr (some 61), .inr none, .inr none, .inr none, .inl false, .inr none, .inr none, .inr none, .inl false, .inl false, .inr none, .inr none, .inr none, .inr none, .inr none, .inl false, .inl false, .inl false, .inl false, .inl false, .inr none, .inr none, .inr none, .inr none, .inr none, .inr none, .inr none, .inl false, .inl false, .inl false, .inl false, .inr none, .inr none, .inl true, .inl true, .inr none, .inr none, .inr none, .inl false, .inl false, .inl false, .inr none, .inr none, .inr none, .inr none, .inl false, .inr none, .inl false, .inr none, .inr none, .inr none, .inr none, .inr none])
def GC_144 : List aC := [sh_105, sh_9, sh_2, sh_2, sh_2, sh_2, sh_7, sh_7, sh_14, sh_12, sh_12, sh_18, sh_12, sh_12, sh_12, sh_48, sh_27, sh_24, sh_31, sh_24, sh_35, sh_24, sh_39, sh_24, sh_43, sh_24, sh_47, sh_24, sh_54, sh_50, sh_7, sh_59, sh_67, sh_62, sh_62, sh_2, sh_72, sh_70, sh_82, sh_75, sh_2, sh_2, sh_2, sh_75, sh_99, sh_88, sh_87, sh_90, sh_87, sh_92, sh_87, sh_94, sh_87, sh_96, sh_87, sh_98, sh_87, sh_104, sh_101, sh_103, sh_107, sh_2]
def GC_145 : List aC := [sh_105, sh_9, sh_2, sh_2, sh_2, sh_2, sh_7, sh_7, sh_14, sh_12, sh_12, sh_18, sh_12, sh_12, sh_12, sh_48, sh_27, sh_24, sh_31, sh_24, sh_35, sh_24, sh_39, sh_24, sh_43, sh_24, sh_47, sh_24, sh_54, sh_50, sh_7, sh_59, sh_67, sh_62, sh_62, sh_2, sh_72, sh_70, sh_82, sh_75, sh_2, sh_2, sh_2, sh_75, sh_99, sh_88, sh_87, sh_90, sh_87, sh_92, sh_87, sh_94, sh_87, sh_96, sh_87, sh_98, sh_87, sh_104, sh_101, sh_103, sh_107, sh_2, sh_2]
abbrev sh_108 : aC := .inr (12, [.inl false, .inl false, .inr (some 61), .inr (some 62), .inr none, .inr none, .inl false, .inr none, .inr none, .inr none, .inl false, .inl false, .inr none, .inr none, .inr none, .inr none, .inr none, .inl false, .inl false, .inl false, .inl false, .inl false, .inr none, .inr none, .inr none, .inr none, .inr none, .inr none, .inr none, .inl false, .inl false, .inl false, .inl false, .inr none, .inr none, .inl true, .inl true, .inr none, .inr none, .inr none, .inl false, .inl false, .inl false, .inr none, .inr none, .inr none, .inr none, .inl false, .inr none, .inl false, .inr none, .inr none, .inr none, .inr none, .inr none])
def GC_146 : List aC := [sh_105, sh_9, sh_2, sh_2, sh_2, sh_2, sh_7, sh_7, sh_14, sh_12, sh_12, sh_18, sh_12, sh_12, sh_12, sh_48, sh_27, sh_24, sh_31, sh_24, sh_35, sh_24, sh_39, sh_24, sh_43, sh_24, sh_47, sh_24, sh_54, sh_50, sh_7, sh_59, sh_67, sh_62, sh_62, sh_2, sh_72, sh_70, sh_82, sh_75, sh_2, sh_2, sh_2, sh_75, sh_99, sh_88, sh_87, sh_90, sh_87, sh_92, sh_87, sh_94, sh_87, sh_96, sh_87, sh_98, sh_87, sh_104, sh_101, sh_103, sh_108, sh_2, sh_2]
def GC_147 : List aC := [sh_105, sh_9, sh_2, sh_2, sh_2, sh_2, sh_7, sh_7, sh_14, sh_12, sh_12, sh_18, sh_12, sh_12, sh_12, sh_48, sh_27, sh_24, sh_31, sh_24, sh_35, sh_24, sh_39, sh_24, sh_43, sh_24, sh_47, sh_24, sh_54, sh_50, sh_7, sh_59, sh_67, sh_62, sh_62, sh_2, sh_72, sh_70, sh_82, sh_75, sh_2, sh_2, sh_2, sh_75, sh_99, sh_88, sh_87, sh_90, sh_87, sh_92, sh_87, sh_94, sh_87, sh_96, sh_87, sh_98, sh_87, sh_104, sh_101, sh_103, sh_108, sh_2, sh_2, sh_2]
abbrev sh_109 : aC := .inr (12, [.inl false, .inl false, .inr (some 61), .inr (some 62), .inr (some 63), .inr none, .inl false, .inr none, .inr none, .inr none, .inl false, .inl false, .inr none, .inr none, .inr none, .inr none, .inr none, .inl false, .inl false, .inl false, .inl false, .inl false, .inr none, .inr none, .inr none, .inr none, .inr none, .inr none, .inr none, .inl false, .inl false, .inl false, .inl false, .inr none, .inr none, .inl true, .inl true, .inr none, .inr none, .inr none, .inl false, .inl false, .inl false, .inr none, .inr none, .inr none, .inr none, .inl false, .inr none, .inl false, .inr none, .inr none, .inr none, .inr none, .inr none])
def GC_148 : List aC := [sh_105, sh_9, sh_2, sh_2, sh_2, sh_2, sh_7, sh_7, sh_14, sh_12, sh_12, sh_18, sh_12, sh_12, sh_12, sh_48, sh_27, sh_24, sh_31, sh_24, sh_35, sh_24, sh_39, sh_24, sh_43, sh_24, sh_47, sh_24, sh_54, sh_50, sh_7, sh_59, sh_67, sh_62, sh_62, sh_2, sh_72, sh_70, sh_82, sh_75, sh_2, sh_2, sh_2, sh_75, sh_99, sh_88, sh_87, sh_90, sh_87, sh_92, sh_87, sh_94, sh_87, sh_96, sh_87, sh_98, sh_87, sh_104, sh_101, sh_103, sh_109, sh_2, sh_2, sh_2]
def GC_149 : List aC := [sh_105, sh_9, sh_2, sh_2, sh_2, sh_2, sh_7, sh_7, sh_14, sh_12, sh_12, sh_18, sh_12, sh_12, sh_12, sh_48, sh_27, sh_24, sh_31, sh_24, sh_35, sh_24, sh_39, sh_24, sh_43, sh_24, sh_47, sh_24, sh_54, sh_50, sh_7, sh_59, sh_67, sh_62, sh_62, sh_2, sh_72, sh_70, sh_82, sh_75, sh_2, sh_2, sh_2, sh_75, sh_99, sh_88, sh_87, sh_90, sh_87, sh_92, sh_87, sh_94, sh_87, sh_96, sh_87, sh_98, sh_87, sh_104, sh_101, sh_103, sh_109, sh_2, sh_2, sh_2, sh_2]
abbrev sh_110 : aC := .inr (12, [.inl false, .inl false, .inr (some 61), .inr (some 62), .inr (some 63), .inr (some 64), .inl false, .inr none, .inr none, .inr none, .inl false, .inl false, .inr none, .inr none, .inr none, .inr none, .inr none, .inl false, .inl false, .inl false, .inl false, .inl false, .inr none, .inr none, .inr none, .inr none, .inr none, .inr none, .inr none, .inl false, .inl false, .inl false, .inl false, .inr none, .inr none, .inl true, .inl true, .inr none, .inr none, .inr none, .inl false, .inl false, .inl false, .inr none, .inr none, .inr none, .inr none, .inl false, .inr none, .inl false, .inr none, .inr none, .inr none, .inr none, .inr none])
def GC_150 : List aC := [sh_105, sh_9, sh_2, sh_2, sh_2, sh_2, sh_7, sh_7, sh_14, sh_12, sh_12, sh_18, sh_12, sh_12, sh_12, sh_48, sh_27, sh_24, sh_31, sh_24, sh_35, sh_24, sh_39, sh_24, sh_43, sh_24, sh_47, sh_24, sh_54, sh_50, sh_7, sh_59, sh_67, sh_62, sh_62, sh_2, sh_72, sh_70, sh_82, sh_75, sh_2, sh_2, sh_2, sh_75, sh_99, sh_88, sh_87, sh_90, sh_87, sh_92, sh_87, sh_94, sh_87, sh_96, sh_87, sh_98, sh_87, sh_104, sh_101, sh_103, sh_110, sh_2, sh_2, sh_2, sh_2]
def GC_151 : List aC := [sh_105, sh_9, sh_2, sh_2, sh_2, sh_2, sh_7, sh_7, sh_14, sh_12, sh_12, sh_18, sh_12, sh_12, sh_12, sh_48, sh_27, sh_24, sh_31, sh_24, sh_35, sh_24, sh_39, sh_24, sh_43, sh_24, sh_47, sh_24, sh_54, sh_50, sh_7, sh_59, sh_67, sh_62, sh_62, sh_2, sh_72, sh_70, sh_82, sh_75, sh_2, sh_2, sh_2, sh_75, sh_99, sh_88, sh_87, sh_90, sh_87, sh_92, sh_87, sh_94, sh_87, sh_96, sh_87, sh_98, sh_87, sh_104, sh_101, sh_103, sh_110, sh_2, sh_2, sh_2, sh_2, sh_7]
abbrev sh_111 : aC := .inr (12, [.inl false, .inl false, .inr (some 61), .inr (some 62), .inr (some 63), .inr (some 64), .inl false, .inr (some 65), .inr none, .inr none, .inl false, .inl false, .inr none, .inr none, .inr none, .inr none, .inr none, .inl false, .inl false, .inl false, .inl false, .inl false, .inr none, .inr none, .inr none, .inr none, .inr none, .inr none, .inr none, .inl false, .inl false, .inl false, .inl false, .inr none, .inr none, .inl true, .inl true, .inr none, .inr none, .inr none, .inl false, .inl false, .inl false, .inr none, .inr none, .inr none, .inr none, .inl false, .inr none, .inl false, .inr none, .inr none, .inr none, .inr none, .inr none])
def GC_152 : List aC := [sh_105, sh_9, sh_2, sh_2, sh_2, sh_2, sh_7, sh_7, sh_14, sh_12, sh_12, sh_18, sh_12, sh_12, sh_12, sh_48, sh_27, sh_24, sh_31, sh_24, sh_35, sh_24, sh_39, sh_24, sh_43, sh_24, sh_47, sh_24, sh_54, sh_50, sh_7, sh_59, sh_67, sh_62, sh_62, sh_2, sh_72, sh_70, sh_82, sh_75, sh_2, sh_2, sh_2, sh_75, sh_99, sh_88, sh_87, sh_90, sh_87, sh_92, sh_87, sh_94, sh_87, sh_96, sh_87, sh_98, sh_87, sh_104, sh_101, sh_103, sh_111, sh_2, sh_2, sh_2, sh_2, sh_7]
def GC_153 : List aC := [sh_105, sh_9, sh_2, sh_2, sh_2, sh_2, sh_7, sh_7, sh_14, sh_12, sh_12, sh_18, sh_12, sh_12, sh_12, sh_48, sh_27, sh_24, sh_31, sh_24, sh_35, sh_24, sh_39, sh_24, sh_43, sh_24, sh_47, sh_24, sh_54, sh_50, sh_7, sh_59, sh_67, sh_62, sh_62, sh_2, sh_72, sh_70, sh_82, sh_75, sh_2, sh_2, sh_2, sh_75, sh_99, sh_88, sh_87, sh_90, sh_87, sh_92, sh_87, sh_94, sh_87, sh_96, sh_87, sh_98, sh_87, sh_104, sh_101, sh_103, sh_111, sh_2, sh_2, sh_2, sh_2, sh_7, sh_7]
abbrev sh_112 : aC := .inr (12, [.inl false, .inl false, .inr (some 61), .inr (some 62), .inr (some 63), .inr (some 64), .inl false, .inr (some 65), .inr (some 66), .inr none, .inl false, .inl false, .inr none, .inr none, .inr none, .inr none, .inr none, .inl false, .inl false, .inl false, .inl false, .inl false, .inr none, .inr none, .inr none, .inr none, .inr none, .inr none, .inr none, .inl false, .inl false, .inl false, .inl false, .inr none, .inr none, .inl true, .inl true, .inr none, .inr none, .inr none, .inl false, .inl false, .inl false, .inr none, .inr none, .inr none, .inr none, .inl false, .inr none, .inl false, .inr none, .inr none, .inr none, .inr none, .inr none])
def GC_154 : List aC := [sh_105, sh_9, sh_2, sh_2, sh_2, sh_2, sh_7, sh_7, sh_14, sh_12, sh_12, sh_18, sh_12, sh_12, sh_12, sh_48, sh_27, sh_24, sh_31, sh_24, sh_35, sh_24, sh_39, sh_24, sh_43, sh_24, sh_47, sh_24, sh_54, sh_50, sh_7, sh_59, sh_67, sh_62, sh_62, sh_2, sh_72, sh_70, sh_82, sh_75, sh_2, sh_2, sh_2, sh_75, sh_99, sh_88, sh_87, sh_90, sh_87, sh_92, sh_87, sh_94, sh_87, sh_96, sh_87, sh_98, sh_87, sh_104, sh_101, sh_103, sh_112, sh_2, sh_2, sh_2, sh_2, sh_7, sh_7]
abbrev sh_113 : aC := .inl (.int, 3, [])
def GC_155 : List aC := [sh_105, sh_9, sh_2, sh_2, sh_2, sh_2, sh_7, sh_7, sh_14, sh_12, sh_12, sh_18, sh_12, sh_12, sh_12, sh_48, sh_27, sh_24, sh_31, sh_24, sh_35, sh_24, sh_39, sh_24, sh_43, sh_24, sh_47, sh_24, sh_54, sh_50, sh_7, sh_59, sh_67, sh_62, sh_62, sh_2, sh_72, sh_70, sh_82, sh_75, sh_2, sh_2, sh_2, sh_75, sh_99, sh_88, sh_87, sh_90, sh_87, sh_92, sh_87, sh_94, sh_87, sh_96, sh_87, sh_98, sh_87, sh_104, sh_101, sh_103, sh_112, sh_2, sh_2, sh_2, sh_2, sh_7, sh_7, sh_113]
abbrev sh_114 : aC := .inr (12, [.inl false, .inl false, .inr (some 61), .inr (some 62), .inr (some 63), .inr (some 64), .inl false, .inr (some 65), .inr (some 66), .inr (some 67), .inl false, .inl false, .inr none, .inr none, .inr none, .inr none, .inr none, .inl false, .inl false, .inl false, .inl false, .inl false, .inr none, .inr none, .inr none, .inr none, .inr none, .inr none, .inr none, .inl false, .inl false, .inl false, .inl false, .inr none, .inr none, .inl true, .inl true, .inr none, .inr none, .inr none, .inl false, .inl false, .inl false, .inr none, .inr none, .inr none, .inr none, .inl false, .inr none, .inl false, .inr none, .inr none, .inr none, .inr none, .inr none])
def GC_156 : List aC := [sh_105, sh_9, sh_2, sh_2, sh_2, sh_2, sh_7, sh_7, sh_14, sh_12, sh_12, sh_18, sh_12, sh_12, sh_12, sh_48, sh_27, sh_24, sh_31, sh_24, sh_35, sh_24, sh_39, sh_24, sh_43, sh_24, sh_47, sh_24, sh_54, sh_50, sh_7, sh_59, sh_67, sh_62, sh_62, sh_2, sh_72, sh_70, sh_82, sh_75, sh_2, sh_2, sh_2, sh_75, sh_99, sh_88, sh_87, sh_90, sh_87, sh_92, sh_87, sh_94, sh_87, sh_96, sh_87, sh_98, sh_87, sh_104, sh_101, sh_103, sh_114, sh_2, sh_2, sh_2, sh_2, sh_7, sh_7, sh_113]
abbrev sh_115 : aC := .inl (.int, 40, [])
def GC_157 : List aC := [sh_105, sh_9, sh_2, sh_2, sh_2, sh_2, sh_7, sh_7, sh_14, sh_12, sh_12, sh_18, sh_12, sh_12, sh_12, sh_48, sh_27, sh_24, sh_31, sh_24, sh_35, sh_24, sh_39, sh_24, sh_43, sh_24, sh_47, sh_24, sh_54, sh_50, sh_7, sh_59, sh_67, sh_62, sh_62, sh_2, sh_72, sh_70, sh_82, sh_75, sh_2, sh_2, sh_2, sh_75, sh_99, sh_88, sh_87, sh_90, sh_87, sh_92, sh_87, sh_94, sh_87, sh_96, sh_87, sh_98, sh_87, sh_104, sh_101, sh_103, sh_114, sh_2, sh_2, sh_2, sh_2, sh_7, sh_7, sh_113, sh_115]
abbrev sh_116 : aC := .inr (12, [.inl false, .inl false, .inr (some 61), .inr (some 62), .inr (some 63), .inr (some 64), .inl false, .inr (some 65), .inr (some 66), .inr (some 67), .inl false, .inl false, .inr (some 68), .inr none, .inr none, .inr none, .inr none, .inl false, .inl false, .inl false, .inl false, .inl false, .inr none, .inr none, .inr none, .inr none, .inr none, .inr none, .inr none, .inl false, .inl false, .inl false, .inl false, .inr none, .inr none, .inl true, .inl true, .inr none, .inr none, .inr none, .inl false, .inl false, .inl false, .inr none, .inr none, .inr none, .inr none, .inl false, .inr none, .inl false, .inr none, .inr none, .inr none, .inr none, .inr none])
def GC_158 : List aC := [sh_105, sh_9, sh_2, sh_2, sh_2, sh_2, sh_7, sh_7, sh_14, sh_12, sh_12, sh_18, sh_12, sh_12, sh_12, sh_48, sh_27, sh_24, sh_31, sh_24, sh_35, sh_24, sh_39, sh_24, sh_43, sh_24, sh_47, sh_24, sh_54, sh_50, sh_7, sh_59, sh_67, sh_62, sh_62, sh_2, sh_72, sh_70, sh_82, sh_75, sh_2, sh_2, sh_2, sh_75, sh_99, sh_88, sh_87, sh_90, sh_87, sh_92, sh_87, sh_94, sh_87, sh_96, sh_87, sh_98, sh_87, sh_104, sh_101, sh_103, sh_116, sh_2, sh_2, sh_2, sh_2, sh_7, sh_7, sh_113, sh_115]
def GC_159 : List aC := [sh_105, sh_9, sh_2, sh_2, sh_2, sh_2, sh_7, sh_7, sh_14, sh_12, sh_12, sh_18, sh_12, sh_12, sh_12, sh_48, sh_27, sh_24, sh_31, sh_24, sh_35, sh_24, sh_39, sh_24, sh_43, sh_24, sh_47, sh_24, sh_54, sh_50, sh_7, sh_59, sh_67, sh_62, sh_62, sh_2, sh_72, sh_70, sh_82, sh_75, sh_2, sh_2, sh_2, sh_75, sh_99, sh_88, sh_87, sh_90, sh_87, sh_92, sh_87, sh_94, sh_87, sh_96, sh_87, sh_98, sh_87, sh_104, sh_101, sh_103, sh_116, sh_2, sh_2, sh_2, sh_2, sh_7, sh_7, sh_113, sh_115, sh_115]
abbrev sh_117 : aC := .inr (12, [.inl false, .inl false, .inr (some 61), .inr (some 62), .inr (some 63), .inr (some 64), .inl false, .inr (some 65), .inr (some 66), .inr (some 67), .inl false, .inl false, .inr (some 68), .inr (some 69), .inr none, .inr none, .inr none, .inl false, .inl false, .inl false, .inl false, .inl false, .inr none, .inr none, .inr none, .inr none, .inr none, .inr none, .inr none, .inl false, .inl false, .inl false, .inl false, .inr none, .inr none, .inl true, .inl true, .inr none, .inr none, .inr none, .inl false, .inl false, .inl false, .inr none, .inr none, .inr none, .inr none, .inl false, .inr none, .inl false, .inr none, .inr none, .inr none, .inr none, .inr none])
def GC_160 : List aC := [sh_105, sh_9, sh_2, sh_2, sh_2, sh_2, sh_7, sh_7, sh_14, sh_12, sh_12, sh_18, sh_12, sh_12, sh_12, sh_48, sh_27, sh_24, sh_31, sh_24, sh_35, sh_24, sh_39, sh_24, sh_43, sh_24, sh_47, sh_24, sh_54, sh_50, sh_7, sh_59, sh_67, sh_62, sh_62, sh_2, sh_72, sh_70, sh_82, sh_75, sh_2, sh_2, sh_2, sh_75, sh_99, sh_88, sh_87, sh_90, sh_87, sh_92, sh_87, sh_94, sh_87, sh_96, sh_87, sh_98, sh_87, sh_104, sh_101, sh_103, sh_117, sh_2, sh_2, sh_2, sh_2, sh_7, sh_7, sh_113, sh_115, sh_115]
def GC_161 : List aC := [sh_105, sh_9, sh_2, sh_2, sh_2, sh_2, sh_7, sh_7, sh_14, sh_12, sh_12, sh_18, sh_12, sh_12, sh_12, sh_48, sh_27, sh_24, sh_31, sh_24, sh_35, sh_24, sh_39, sh_24, sh_43, sh_24, sh_47, sh_24, sh_54, sh_50, sh_7, sh_59, sh_67, sh_62, sh_62, sh_2, sh_72, sh_70, sh_82, sh_75, sh_2, sh_2, sh_2, sh_75, sh_99, sh_88, sh_87, sh_90, sh_87, sh_92, sh_87, sh_94, sh_87, sh_96, sh_87, sh_98, sh_87, sh_104, sh_101, sh_103, sh_117, sh_2, sh_2, sh_2, sh_2, sh_7, sh_7, sh_113, sh_115, sh_115, sh_115]
abbrev sh_118 : aC := .inr (12, [.inl false, .inl false, .inr (some 61), .inr (some 62), .inr (some 63), .inr (some 64), .inl false, .inr (some 65), .inr (some 66), .inr (some 67), .inl false, .inl false, .inr (some 68), .inr (some 69), .inr (some 70), .inr none, .inr none, .inl false, .inl false, .inl false, .inl false, .inl false, .inr none, .inr none, .inr none, .inr none, .inr none, .inr none, .inr none, .inl false, .inl false, .inl false, .inl false, .inr none, .inr none, .inl true, .inl true, .inr none, .inr none, .inr none, .inl false, .inl false, .inl false, .inr none, .inr none, .inr none, .inr none, .inl false, .inr none, .inl false, .inr none, .inr none, .inr none, .inr none, .inr none])
def GC_162 : List aC := [sh_105, sh_9, sh_2, sh_2, sh_2, sh_2, sh_7, sh_7, sh_14, sh_12, sh_12, sh_18, sh_12, sh_12, sh_12, sh_48, sh_27, sh_24, sh_31, sh_24, sh_35, sh_24, sh_39, sh_24, sh_43, sh_24, sh_47, sh_24, sh_54, sh_50, sh_7, sh_59, sh_67, sh_62, sh_62, sh_2, sh_72, sh_70, sh_82, sh_75, sh_2, sh_2, sh_2, sh_75, sh_99, sh_88, sh_87, sh_90, sh_87, sh_92, sh_87, sh_94, sh_87, sh_96, sh_87, sh_98, sh_87, sh_104, sh_101, sh_103, sh_118, sh_2, sh_2, sh_2, sh_2, sh_7, sh_7, sh_113, sh_115, sh_115, sh_115]
def GC_163 : List aC := [sh_105, sh_9, sh_2, sh_2, sh_2, sh_2, sh_7, sh_7, sh_14, sh_12, sh_12, sh_18, sh_12, sh_12, sh_12, sh_48, sh_27, sh_24, sh_31, sh_24, sh_35, sh_24, sh_39, sh_24, sh_43, sh_24, sh_47, sh_24, sh_54, sh_50, sh_7, sh_59, sh_67, sh_62, sh_62, sh_2, sh_72, sh_70, sh_82, sh_75, sh_2, sh_2, sh_2, sh_75, sh_99, sh_88, sh_87, sh_90, sh_87, sh_92, sh_87, sh_94, sh_87, sh_96, sh_87, sh_98, sh_87, sh_104, sh_101, sh_103, sh_118, sh_2, sh_2, sh_2, sh_2, sh_7, sh_7, sh_113, sh_115, sh_115, sh_115, sh_115]
abbrev sh_119 : aC := .inr (12, [.inl false, .inl false, .inr (some 61), .inr (some 62), .inr (some 63), .inr (some 64), .inl false, .inr (some 65), .inr (some 66), .inr (some 67), .inl false, .inl false, .inr (some 68), .inr (some 69), .inr (some 70), .inr (some 71), .inr none, .inl false, .inl false, .inl false, .inl false, .inl false, .inr none, .inr none, .inr none, .inr none, .inr none, .inr none, .inr none, .inl false, .inl false, .inl false, .inl false, .inr none, .inr none, .inl true, .inl true, .inr none, .inr none, .inr none, .inl false, .inl false, .inl false, .inr none, .inr none, .inr none, .inr none, .inl false, .inr none, .inl false, .inr none, .inr none, .inr none, .inr none, .inr none])
def GC_164 : List aC := [sh_105, sh_9, sh_2, sh_2, sh_2, sh_2, sh_7, sh_7, sh_14, sh_12, sh_12, sh_18, sh_12, sh_12, sh_12, sh_48, sh_27, sh_24, sh_31, sh_24, sh_35, sh_24, sh_39, sh_24, sh_43, sh_24, sh_47, sh_24, sh_54, sh_50, sh_7, sh_59, sh_67, sh_62, sh_62, sh_2, sh_72, sh_70, sh_82, sh_75, sh_2, sh_2, sh_2, sh_75, sh_99, sh_88, sh_87, sh_90, sh_87, sh_92, sh_87, sh_94, sh_87, sh_96, sh_87, sh_98, sh_87, sh_104, sh_101, sh_103, sh_119, sh_2, sh_2, sh_2, sh_2, sh_7, sh_7, sh_113, sh_115, sh_115, sh_115, sh_115]
abbrev sh_120 : aC := .inl (.byte, 120, [])
def GC_165 : List aC := [sh_105, sh_9, sh_2, sh_2, sh_2, sh_2, sh_7, sh_7, sh_14, sh_12, sh_12, sh_18, sh_12, sh_12, sh_12, sh_48, sh_27, sh_24, sh_31, sh_24, sh_35, sh_24, sh_39, sh_24, sh_43, sh_24, sh_47, sh_24, sh_54, sh_50, sh_7, sh_59, sh_67, sh_62, sh_62, sh_2, sh_72, sh_70, sh_82, sh_75, sh_2, sh_2, sh_2, sh_75, sh_99, sh_88, sh_87, sh_90, sh_87, sh_92, sh_87, sh_94, sh_87, sh_96, sh_87, sh_98, sh_87, sh_104, sh_101, sh_103, sh_119, sh_2, sh_2, sh_2, sh_2, sh_7, sh_7, sh_113, sh_115, sh_115, sh_115, sh_115, sh_120]
abbrev sh_121 : aC := .inr (12, [.inl false, .inl false, .inr (some 61), .inr (some 62), .inr (some 63), .inr (some 64), .inl false, .inr (some 65), .inr (some 66), .inr (some 67), .inl false, .inl false, .inr (some 68), .inr (some 69), .inr (some 70), .inr (some 71), .inr (some 72), .inl false, .inl false, .inl false, .inl false, .inl false, .inr none, .inr none, .inr none, .inr none, .inr none, .inr none, .inr none, .inl false, .inl false, .inl false, .inl false, .inr none, .inr none, .inl true, .inl true, .inr none, .inr none, .inr none, .inl false, .inl false, .inl false, .inr none, .inr none, .inr none, .inr none, .inl false, .inr none, .inl false, .inr none, .inr none, .inr none, .inr none, .inr none])
def GC_166 : List aC := [sh_105, sh_9, sh_2, sh_2, sh_2, sh_2, sh_7, sh_7, sh_14, sh_12, sh_12, sh_18, sh_12, sh_12, sh_12, sh_48, sh_27, sh_24, sh_31, sh_24, sh_35, sh_24, sh_39, sh_24, sh_43, sh_24, sh_47, sh_24, sh_54, sh_50, sh_7, sh_59, sh_67, sh_62, sh_62, sh_2, sh_72, sh_70, sh_82, sh_75, sh_2, sh_2, sh_2, sh_75, sh_99, sh_88, sh_87, sh_90, sh_87, sh_92, sh_87, sh_94, sh_87, sh_96, sh_87, sh_98, sh_87, sh_104, sh_101, sh_103, sh_121, sh_2, sh_2, sh_2, sh_2, sh_7, sh_7, sh_113, sh_115, sh_115, sh_115, sh_115, sh_120]
abbrev sh_122 : aC := .inl (.byte, 260, [])
def GC_167 : List aC := [sh_105, sh_9, sh_2, sh_2, sh_2, sh_2, sh_7, sh_7, sh_14, sh_12, sh_12, sh_18, sh_12, sh_12, sh_12, sh_48, sh_27, sh_24, sh_31, sh_24, sh_35, sh_24, sh_39, sh_24, sh_43, sh_24, sh_47, sh_24, sh_54, sh_50, sh_7, sh_59, sh_67, sh_62, sh_62, sh_2, sh_72, sh_70, sh_82, sh_75, sh_2, sh_2, sh_2, sh_75, sh_99, sh_88, sh_87, sh_90, sh_87, sh_92, sh_87, sh_94, sh_87, sh_96, sh_87, sh_98, sh_87, sh_104, sh_101, sh_103, sh_121, sh_2, sh_2, sh_2, sh_2, sh_7, sh_7, sh_113, sh_115, sh_115, sh_115, sh_115, sh_120, sh_122]
abbrev sh_123 : aC := .inr (12, [.inl false, .inl false, .inr (some 61), .inr (some 62), .inr (some 63), .inr (some 64), .inl false, .inr (some 65), .inr (some 66), .inr (some 67), .inl false, .inl false, .inr (some 68), .inr (some 69), .inr (some 70), .inr (some 71), .inr (some 72), .inl false, .inl false, .inl false, .inl false, .inl false, .inr (some 73), .inr none, .inr none, .inr none, .inr none, .inr none, .inr none, .inl false, .inl false, .inl false, .inl false, .inr none, .inr none, .inl true, .inl true, .inr none, .inr none, .inr none, .inl false, .inl false, .inl false, .inr none, .inr none, .inr none, .inr none, .inl false, .inr none, .inl false, .inr none, .inr none, .inr none, .inr none, .inr none])
def GC_168 : List aC := [sh_105, sh_9, sh_2, sh_2, sh_2, sh_2, sh_7, sh_7, sh_14, sh_12, sh_12, sh_18, sh_12, sh_12, sh_12, sh_48, sh_27, sh_24, sh_31, sh_24, sh_35, sh_24, sh_39, sh_24, sh_43, sh_24, sh_47, sh_24, sh_54, sh_50, sh_7, sh_59, sh_67, sh_62, sh_62, sh_2, sh_72, sh_70, sh_82, sh_75, sh_2, sh_2, sh_2, sh_75, sh_99, sh_88, sh_87, sh_90, sh_87, sh_92, sh_87, sh_94, sh_87, sh_96, sh_87, sh_98, sh_87, sh_104, sh_101, sh_103, sh_123, sh_2, sh_2, sh_2, sh_2, sh_7, sh_7, sh_113, sh_115, sh_115, sh_115, sh_115, sh_120, sh_122]
abbrev sh_124 : aC := .inl (.int, 260, [])
def GC_169 : List aC := [sh_105, sh_9, sh_2, sh_2, sh_2, sh_2, sh_7, sh_7, sh_14, sh_12, sh_12, sh_18, sh_12, sh_12, sh_12, sh_48, sh_27, sh_24, sh_31, sh_24, sh_35, sh_24, sh_39, sh_24, sh_43, sh_24, sh_47, sh_24, sh_54, sh_50, sh_7, sh_59, sh_67, sh_62, sh_62, sh_2, sh_72, sh_70, sh_82, sh_75, sh_2, sh_2, sh_2, sh_75, sh_99, sh_88, sh_87, sh_90, sh_87, sh_92, sh_87, sh_94, sh_87, sh_96, sh_87, sh_98, sh_87, sh_104, sh_101, sh_103, sh_123, sh_2, sh_2, sh_2, sh_2, sh_7, sh_7, sh_113, sh_115, sh_115, sh_115, sh_115, sh_120, sh_122, sh_124]
abbrev sh_125 : aC := .inr (12, [.inl false, .inl false, .inr (some 61), .inr (some 62), .inr (some 63), .inr (some 64), .inl false, .inr (some 65), .inr (some 66), .inr (some 67), .inl false, .inl false, .inr (some 68), .inr (some 69), .inr (some 70), .inr (some 71), .inr (some 72), .inl false, .inl false, .inl false, .inl false, .inl false, .inr (some 73), .inr (some 74), .inr none, .inr none, .inr none, .inr none, .inr none, .inl false, .inl false, .inl false, .inl false, .inr none, .inr none, .inl true, .inl true, .inr none, .inr none, .inr none, .inl false, .inl false, .inl false, .inr none, .inr none, .inr none, .inr none, .inl false, .inr none, .inl false, .inr none, .inr none, .inr none, .inr none, .inr none])
def GC_170 : List aC := [sh_105, sh_9, sh_2, sh_2, sh_2, sh_2, sh_7, sh_7, sh_14, sh_12, sh_12, sh_18, sh_12, sh_12, sh_12, sh_48, sh_27, sh_24, sh_31, sh_24, sh_35, sh_24, sh_39, sh_24, sh_43, sh_24, sh_47, sh_24, sh_54, sh_50, sh_7, sh_59, sh_67, sh_62, sh_62, sh_2, sh_72, sh_70, sh_82, sh_75, sh_2, sh_2, sh_2, sh_75, sh_99, sh_88, sh_87, sh_90, sh_87, sh_92, sh_87, sh_94, sh_87, sh_96, sh_87, sh_98, sh_87, sh_104, sh_101, sh_103, sh_125, sh_2, sh_2, sh_2, sh_2, sh_7, sh_7, sh_113, sh_115, sh_115, sh_115, sh_115, sh_120, sh_122, sh_124]
abbrev sh_126 : aC := .inl (.int, 2, [])
def GC_171 : List aC := [sh_105, sh_9, sh_2, sh_2, sh_2, sh_2, sh_7, sh_7, sh_14, sh_12, sh_12, sh_18, sh_12, sh_12, sh_12, sh_48, sh_27, sh_24, sh_31, sh_24, sh_35, sh_24, sh_39, sh_24, sh_43, sh_24, sh_47, sh_24, sh_54, sh_50, sh_7, sh_59, sh_67, sh_62, sh_62, sh_2, sh_72, sh_70, sh_82, sh_75, sh_2, sh_2, sh_2, sh_75, sh_99, sh_88, sh_87, sh_90, sh_87, sh_92, sh_87, sh_94, sh_87, sh_96, sh_87, sh_98, sh_87, sh_104, sh_101, sh_103, sh_125, sh_2, sh_2, sh_2, sh_2, sh_7, sh_7, sh_113, sh_115, sh_115, sh_115, sh_115, sh_120, sh_122, sh_124, sh_126]
abbrev sh_127 : aC := .inr (12, [.inl false, .inl false, .inr (some 61), .inr (some 62), .inr (some 63), .inr (some 64), .inl false, .inr (some 65), .inr (some 66), .inr (some 67), .inl false, .inl false, .inr (some 68), .inr (some 69), .inr (some 70), .inr (some 71), .inr (some 72), .inl false, .inl false, .inl false, .inl false, .inl false, .inr (some 73), .inr (some 74), .inr (some 75), .inr none, .inr none, .inr none, .inr none, .inl false, .inl false, .inl false, .inl false, .inr none, .inr none, .inl true, .inl true, .inr none, .inr none, .inr none, .inl false, .inl false, .inl false, .inr none, .inr none, .inr none, .inr none, .inl false, .inr none, .inl false, .inr none, .inr none, .inr none, .inr none, .inr none])
def GC_172 : List aC := [sh_105, sh_9, sh_2, sh_2, sh_2, sh_2, sh_7, sh_7, sh_14, sh_12, sh_12, sh_18, sh_12, sh_12, sh_12, sh_48, sh_27, sh_24, sh_31, sh_24, sh_35, sh_24, sh_39, sh_24, sh_43, sh_24, sh_47, sh_24, sh_54, sh_50, sh_7, sh_59, sh_67, sh_62, sh_62, sh_2, sh_72, sh_70, sh_82, sh_75, sh_2, sh_2, sh_2, sh_75, sh_99, sh_88, sh_87, sh_90, sh_87, sh_92, sh_87, sh_94, sh_87, sh_96, sh_87, sh_98, sh_87, sh_104, sh_101, sh_103, sh_127, sh_2, sh_2, sh_2, sh_2, sh_7, sh_7, sh_113, sh_115, sh_115, sh_115, sh_115, sh_120, sh_122, sh_124, sh_126]
abbrev sh_128 : aC := .inl (.short, 122, [])
def GC_173 : List aC := [sh_105, sh_9, sh_2, sh_2, sh_2, sh_2, sh_7, sh_7, sh_14, sh_12, sh_12, sh_18, sh_12, sh_12, sh_12, sh_48, sh_27, sh_24, sh_31, sh_24, sh_35, sh_24, sh_39, sh_24, sh_43, sh_24, sh_47, sh_24, sh_54, sh_50, sh_7, sh_59, sh_67, sh_62, sh_62, sh_2, sh_72, sh_70, sh_82, sh_75, sh_2, sh_2, sh_2, sh_75, sh_99, sh_88, sh_87, sh_90, sh_87, sh_92, sh_87, sh_94, sh_87, sh_96, sh_87, sh_98, sh_87, sh_104, sh_101, sh_103, sh_127, sh_2, sh_2, sh_2, sh_2, sh_7, sh_7, sh_113, sh_115, sh_115, sh_115, sh_115, sh_120, sh_122, sh_124, sh_126, sh_128]
abbrev sh_129 : aC := .inr (12, [.inl false, .inl false, .inr (some 61), .inr (some 62), .inr (some 63), .inr (some 64), .inl false, .inr (some 65), .inr (some 66), .inr (some 67), .inl false, .inl false, .inr (some 68), .inr (some 69), .inr (some 70), .inr (some 71), .inr (some 72), .inl false, .inl false, .inl false, .inl false, .inl false, .inr (some 73), .inr (some 74), .inr (some 75), .inr (some 76), .inr none, .inr none, .inr none, .inl false, .inl false, .inl false, .inl false, .inr none, .inr none, .inl true, .inl true, .inr none, .inr none, .inr none, .inl false, .inl false, .inl false, .inr none, .inr none, .inr none, .inr none, .inl false, .inr none, .inl false, .inr none, .inr none, .inr none, .inr none, .inr none])
def GC_174 : List aC := [sh_105, sh_9, sh_2, sh_2, sh_2, sh_2, sh_7, sh_7, sh_14, sh_12, sh_12, sh_18, sh_12, sh_12, sh_12, sh_48, sh_27, sh_24, sh_31, sh_24, sh_35, sh_24, sh_39, sh_24, sh_43, sh_24, sh_47, sh_24, sh_54, sh_50, sh_7, sh_59, sh_67, sh_62, sh_62, sh_2, sh_72, sh_70, sh_82, sh_75, sh_2, sh_2, sh_2, sh_75, sh_99, sh_88, sh_87, sh_90, sh_87, sh_92, sh_87, sh_94, sh_87, sh_96, sh_87, sh_98, sh_87, sh_104, sh_101, sh_103, sh_129, sh_2, sh_2, sh_2, sh_2, sh_7, sh_7, sh_113, sh_115, sh_115, sh_115, sh_115, sh_120, sh_122, sh_124, sh_126, sh_128]
def GC_175 : List aC := [sh_105, sh_9, sh_2, sh_2, sh_2, sh_2, sh_7, sh_7, sh_14, sh_12, sh_12, sh_18, sh_12, sh_12, sh_12, sh_48, sh_27, sh_24, sh_31, sh_24, sh_35, sh_24, sh_39, sh_24, sh_43, sh_24, sh_47, sh_24, sh_54, sh_50, sh_7, sh_59, sh_67, sh_62, sh_62, sh_2, sh_72, sh_70, sh_82, sh_75, sh_2, sh_2, sh_2, sh_75, sh_99, sh_88, sh_87, sh_90, sh_87, sh_92, sh_87, sh_94, sh_87, sh_96, sh_87, sh_98, sh_87, sh_104, sh_101, sh_103, sh_129, sh_2, sh_2, sh_2, sh_2, sh_7, sh_7, sh_113, sh_115, sh_115, sh_115, sh_115, sh_120, sh_122, sh_124, sh_126, sh_128, sh_128]
abbrev sh_130 : aC := .inr (12, [.inl false, .inl false, .inr (some 61), .inr (some 62), .inr (some 63), .inr (some 64), .inl false, .inr (some 65), .inr (some 66), .inr (some 67), .inl false, .inl false, .inr (some 68), .inr (some 69), .inr (some 70), .inr (some 71), .inr (some 72), .inl false, .inl false, .inl false, .inl false, .inl false, .inr (some 73), .inr (some 74), .inr (some 75), .inr (some 76), .inr (some 77), .inr none, .inr none, .inl false, .inl false, .inl false, .inl false, .inr none, .inr none, .inl true, .inl true, .inr none, .inr none, .inr none, .inl false, .inl false, .inl false, .inr none, .inr none, .inr none, .inr none, .inl false, .inr none, .inl false, .inr none, .inr none, .inr none, .inr none, .inr none])
def GC_176 : List aC := [sh_105, sh_9, sh_2, sh_2, sh_2, sh_2, sh_7, sh_7, sh_14, sh_12, sh_12, sh_18, sh_12, sh_12, sh_12, sh_48, sh_27, sh_24, sh_31, sh_24, sh_35, sh_24, sh_39, sh_24, sh_43, sh_24, sh_47, sh_24, sh_54, sh_50, sh_7, sh_59, sh_67, sh_62, sh_62, sh_2, sh_72, sh_70, sh_82, sh_75, sh_2, sh_2, sh_2, sh_75, sh_99, sh_88, sh_87, sh_90, sh_87, sh_92, sh_87, sh_94, sh_87, sh_96, sh_87, sh_98, sh_87, sh_104, sh_101, sh_103, sh_130, sh_2, sh_2, sh_2, sh_2, sh_7, sh_7, sh_113, sh_115, sh_115, sh_115, sh_115, sh_120, sh_122, sh_124, sh_126, sh_128, sh_128]
def GC_177 : List aC := [sh_105, sh_9, sh_2, sh_2, sh_2, sh_2, sh_7, sh_7, sh_14, sh_12, sh_12, sh_18, sh_12, sh_12, sh_12, sh_48, sh_27, sh_24, sh_31, sh_24, sh_35, sh_24, sh_39, sh_24, sh_43, sh_24, sh_47, sh_24, sh_54, sh_50, sh_7, sh_59, sh_67, sh_62, sh_62, sh_2, sh_72, sh_70, sh_82, sh_75, sh_2, sh_2, sh_2, sh_75, sh_99, sh_88, sh_87, sh_90, sh_87, sh_92, sh_87, sh_94, sh_87, sh_96, sh_87, sh_98, sh_87, sh_104, sh_101, sh_103, sh_130, sh_2, sh_2, sh_2, sh_2, sh_7, sh_7, sh_113, sh_115, sh_115, sh_115, sh_115, sh_120, sh_122, sh_124, sh_126, sh_128, sh_128, sh_2]
abbrev sh_131 : aC := .inr (12, [.inl false, .inl false, .inr (some 61), .inr (some 62), .inr (some 63), .inr (some 64), .inl false, .inr (some 65), .inr (some 66), .inr (some 67), .inl false, .inl false, .inr (some 68), .inr (some 69), .inr (some 70), .inr (some 71), .inr (some 72), .inl false, .inl false, .inl false, .inl false, .inl false, .inr (some 73), .inr (some 74), .inr (some 75), .inr (some 76), .inr (some 77), .inr (some 78), .inr none, .inl false, .inl false, .inl false, .inl false, .inr none, .inr none, .inl true, .inl true, .inr none, .inr none, .inr none, .inl false, .inl false, .inl false, .inr none, .inr none, .inr none, .inr none, .inl false, .inr none, .inl false, .inr none, .inr none, .inr none, .inr none, .inr none])
def GC_178 : List aC := [sh_105, sh_9, sh_2, sh_2, sh_2, sh_2, sh_7, sh_7, sh_14, sh_12, sh_12, sh_18, sh_12, sh_12, sh_12, sh_48, sh_27, sh_24, sh_31, sh_24, sh_35, sh_24, sh_39, sh_24, sh_43, sh_24, sh_47, sh_24, sh_54, sh_50, sh_7, sh_59, sh_67, sh_62, sh_62, sh_2, sh_72, sh_70, sh_82, sh_75, sh_2, sh_2, sh_2, sh_75, sh_99, sh_88, sh_87, sh_90, sh_87, sh_92, sh_87, sh_94, sh_87, sh_96, sh_87, sh_98, sh_87, sh_104, sh_101, sh_103, sh_131, sh_2, sh_2, sh_2, sh_2, sh_7, sh_7, sh_113, sh_115, sh_115, sh_115, sh_115, sh_120, sh_122, sh_124, sh_126, sh_128, sh_128, sh_2]
abbrev sh_132 : aC := .inl (.int, 130, [])
def GC_179 : List aC := [sh_105, sh_9, sh_2, sh_2, sh_2, sh_2, sh_7, sh_7, sh_14, sh_12, sh_12, sh_18, sh_12, sh_12, sh_12, sh_48, sh_27, sh_24, sh_31, sh_24, sh_35, sh_24, sh_39, sh_24, sh_43, sh_24, sh_47, sh_24, sh_54, sh_50, sh_7, sh_59, sh_67, sh_62, sh_62, sh_2, sh_72, sh_70, sh_82, sh_75, sh_2, sh_2, sh_2, sh_75, sh_99, sh_88, sh_87, sh_90, sh_87, sh_92, sh_87, sh_94, sh_87, sh_96, sh_87, sh_98, sh_87, sh_104, sh_101, sh_103, sh_131, sh_2, sh_2, sh_2, sh_2, sh_7, sh_7, sh_113, sh_115, sh_115, sh_115, sh_115, sh_120, sh_122, sh_124, sh_126, sh_128, sh_128, sh_2, sh_132]
abbrev sh_133 : aC := .inr (12, [.inl false, .inl false, .inr (some 61), .inr (some 62), .inr (some 63), .inr (some 64), .inl false, .inr (some 65), .inr (some 66), .inr (some 67), .inl false, .inl false, .inr (some 68), .inr (some 69), .inr (some 70), .inr (some 71), .inr (some 72), .inl false, .inl false, .inl false, .inl false, .inl false, .inr (some 73), .inr (some 74), .inr (some 75), .inr (some 76), .inr (some 77), .inr (some 78), .inr (some 79), .inl false, .inl false, .inl false, .inl false, .inr none, .inr none, .inl true, .inl true, .inr none, .inr none, .inr none, .inl false, .inl false, .inl false, .inr none, .inr none, .inr none, .inr none, .inl false, .inr none, .inl false, .inr none, .inr none, .inr none, .inr none, .inr none])
def GC_180 : List aC := [sh_105, sh_9, sh_2, sh_2, sh_2, sh_2, sh_7, sh_7, sh_14, sh_12, sh_12, sh_18, sh_12, sh_12, sh_12, sh_48, sh_27, sh_24, sh_31, sh_24, sh_35, sh_24, sh_39, sh_24, sh_43, sh_24, sh_47, sh_24, sh_54, sh_50, sh_7, sh_59, sh_67, sh_62, sh_62, sh_2, sh_72, sh_70, sh_82, sh_75, sh_2, sh_2, sh_2, sh_75, sh_99, sh_88, sh_87, sh_90, sh_87, sh_92, sh_87, sh_94, sh_87, sh_96, sh_87, sh_98, sh_87, sh_104, sh_101, sh_103, sh_133, sh_2, sh_2, sh_2, sh_2, sh_7, sh_7, sh_113, sh_115, sh_115, sh_115, sh_115, sh_120, sh_122, sh_124, sh_126, sh_128, sh_128, sh_2, sh_132]
def GC_181 : List aC := [sh_105, sh_9, sh_2, sh_2, sh_2, sh_2, sh_7, sh_7, sh_14, sh_12, sh_12, sh_18, sh_12, sh_12, sh_12, sh_48, sh_27, sh_24, sh_31, sh_24, sh_35, sh_24, sh_39, sh_24, sh_43, sh_24, sh_47, sh_24, sh_54, sh_50, sh_7, sh_59, sh_67, sh_62, sh_62, sh_2, sh_72, sh_70, sh_82, sh_75, sh_2, sh_2, sh_2, sh_75, sh_99, sh_88, sh_87, sh_90, sh_87, sh_92, sh_87, sh_94, sh_87, sh_96, sh_87, sh_98, sh_87, sh_104, sh_101, sh_103, sh_133, sh_2, sh_2, sh_2, sh_2, sh_7, sh_7, sh_113, sh_115, sh_115, sh_115, sh_115, sh_120, sh_122, sh_124, sh_126, sh_128, sh_128, sh_2, sh_132, sh_50]
abbrev sh_134 : aC := .inr (12, [.inl false, .inl false, .inr (some 61), .inr (some 62), .inr (some 63), .inr (some 64), .inl false, .inr (some 65), .inr (some 66), .inr (some 67), .inl false, .inl false, .inr (some 68), .inr (some 69), .inr (some 70), .inr (some 71), .inr (some 72), .inl false, .inl false, .inl false, .inl false, .inl false, .inr (some 73), .inr (some 74), .inr (some 75), .inr (some 76), .inr (some 77), .inr (some 78), .inr (some 79), .inl false, .inl false, .inl false, .inl false, .inr (some 80), .inr none, .inl true, .inl true, .inr none, .inr none, .inr none, .inl false, .inl false, .inl false, .inr none, .inr none, .inr none, .inr none, .inl false, .inr none, .inl false, .inr none, .inr none, .inr none, .inr none, .inr none])
def GC_182 : List aC := [sh_105, sh_9, sh_2, sh_2, sh_2, sh_2, sh_7, sh_7, sh_14, sh_12, sh_12, sh_18, sh_12, sh_12, sh_12, sh_48, sh_27, sh_24, sh_31, sh_24, sh_35, sh_24, sh_39, sh_24, sh_43, sh_24, sh_47, sh_24, sh_54, sh_50, sh_7, sh_59, sh_67, sh_62, sh_62, sh_2, sh_72, sh_70, sh_82, sh_75, sh_2, sh_2, sh_2, sh_75, sh_99, sh_88, sh_87, sh_90, sh_87, sh_92, sh_87, sh_94, sh_87, sh_96, sh_87, sh_98, sh_87, sh_104, sh_101, sh_103, sh_134, sh_2, sh_2, sh_2, sh_2, sh_7, sh_7, sh_113, sh_115, sh_115, sh_115, sh_115, sh_120, sh_122, sh_124, sh_126, sh_128, sh_128, sh_2, sh_132, sh_50]
abbrev sh_135 : aC := .inl (.int, 3328, [])
def GC_183 : List aC := [sh_105, sh_9, sh_2, sh_2, sh_2, sh_2, sh_7, sh_7, sh_14, sh_12, sh_12, sh_18, sh_12, sh_12, sh_12, sh_48, sh_27, sh_24, sh_31, sh_24, sh_35, sh_24, sh_39, sh_24, sh_43, sh_24, sh_47, sh_24, sh_54, sh_50, sh_7, sh_59, sh_67, sh_62, sh_62, sh_2, sh_72, sh_70, sh_82, sh_75, sh_2, sh_2, sh_2, sh_75, sh_99, sh_88, sh_87, sh_90, sh_87, sh_92, sh_87, sh_94, sh_87, sh_96, sh_87, sh_98, sh_87, sh_104, sh_101, sh_103, sh_134, sh_2, sh_2, sh_2, sh_2, sh_7, sh_7, sh_113, sh_115, sh_115, sh_115, sh_115, sh_120, sh_122, sh_124, sh_126, sh_128, sh_128, sh_2, sh_132, sh_50, sh_135]
abbrev sh_136 : aC := .inr (12, [.inl false, .inl false, .inr (some 61), .inr (some 62), .inr (some 63), .inr (some 64), .inl false, .inr (some 65), .inr (some 66), .inr (some 67), .inl false, .inl false, .inr (some 68), .inr (some 69), .inr (some 70), .inr (some 71), .inr (some 72), .inl false, .inl false, .inl false, .inl false, .inl false, .inr (some 73), .inr (some 74), .inr (some 75), .inr (some 76), .inr (some 77), .inr (some 78), .inr (some 79), .inl false, .inl false, .inl false, .inl false, .inr (some 80), .inr (some 81), .inl true, .inl true, .inr none, .inr none, .inr none, .inl false, .inl false, .inl false, .inr none, .inr none, .inr none, .inr none, .inl false, .inr none, .inl false, .inr none, .inr none, .inr none, .inr none, .inr none])
def GC_184 : List aC := [sh_105, sh_9, sh_2, sh_2, sh_2, sh_2, sh_7, sh_7, sh_14, sh_12, sh_12, sh_18, sh_12, sh_12, sh_12, sh_48, sh_27, sh_24, sh_31, sh_24, sh_35, sh_24, sh_39, sh_24, sh_43, sh_24, sh_47, sh_24, sh_54, sh_50, sh_7, sh_59, sh_67, sh_62, sh_62, sh_2, sh_72, sh_70, sh_82, sh_75, sh_2, sh_2, sh_2, sh_75, sh_99, sh_88, sh_87, sh_90, sh_87, sh_92, sh_87, sh_94, sh_87, sh_96, sh_87, sh_98, sh_87, sh_104, sh_101, sh_103, sh_136, sh_2, sh_2, sh_2, sh_2, sh_7, sh_7, sh_113, sh_115, sh_115, sh_115, sh_115, sh_120, sh_122, sh_124, sh_126, sh_128, sh_128, sh_2, sh_132, sh_50, sh_135]
def GC_185 : List aC := [sh_105, sh_9, sh_2, sh_2, sh_2, sh_2, sh_7, sh_7, sh_14, sh_12, sh_12, sh_18, sh_12, sh_12, sh_12, sh_48, sh_27, sh_24, sh_31, sh_24, sh_35, sh_24, sh_39, sh_24, sh_43, sh_24, sh_47, sh_24, sh_54, sh_50, sh_7, sh_59, sh_67, sh_62, sh_62, sh_2, sh_72, sh_70, sh_82, sh_75, sh_2, sh_2, sh_2, sh_75, sh_99, sh_88, sh_87, sh_90, sh_87, sh_92, sh_87, sh_94, sh_87, sh_96, sh_87, sh_98, sh_87, sh_104, sh_101, sh_103, sh_136, sh_2, sh_2, sh_2, sh_2, sh_7, sh_7, sh_113, sh_115, sh_115, sh_115, sh_115, sh_120, sh_122, sh_124, sh_126, sh_128, sh_128, sh_2, sh_132, sh_50, sh_135, sh_2]
abbrev sh_137 : aC := .inr (12, [.inl false, .inl false, .inr (some 61), .inr (some 62), .inr (some 63), .inr (some 64), .inl false, .inr (some 65), .inr (some 66), .inr (some 67), .inl false, .inl false, .inr (some 68), .inr (some 69), .inr (some 70), .inr (some 71), .inr (some 72), .inl false, .inl false, .inl false, .inl false, .inl false, .inr (some 73), .inr (some 74), .inr (some 75), .inr (some 76), .inr (some 77), .inr (some 78), .inr (some 79), .inl false, .inl false, .inl false, .inl false, .inr (some 80), .inr (some 81), .inl true, .inl true, .inr (some 82), .inr none, .inr none, .inl false, .inl false, .inl false, .inr none, .inr none, .inr none, .inr none, .inl false, .inr none, .inl false, .inr none, .inr none, .inr none, .inr none, .inr none])
def GC_186 : List aC := [sh_105, sh_9, sh_2, sh_2, sh_2, sh_2, sh_7, sh_7, sh_14, sh_12, sh_12, sh_18, sh_12, sh_12, sh_12, sh_48, sh_27, sh_24, sh_31, sh_24, sh_35, sh_24, sh_39, sh_24, sh_43, sh_24, sh_47, sh_24, sh_54, sh_50, sh_7, sh_59, sh_67, sh_62, sh_62, sh_2, sh_72, sh_70, sh_82, sh_75, sh_2, sh_2, sh_2, sh_75, sh_99, sh_88, sh_87, sh_90, sh_87, sh_92, sh_87, sh_94, sh_87, sh_96, sh_87, sh_98, sh_87, sh_104, sh_101, sh_103, sh_137, sh_2, sh_2, sh_2, sh_2, sh_7, sh_7, sh_113, sh_115, sh_115, sh_115, sh_115, sh_120, sh_122, sh_124, sh_126, sh_128, sh_128, sh_2, sh_132, sh_50, sh_135, sh_2]
def GC_187 : List aC := [sh_105, sh_9, sh_2, sh_2, sh_2, sh_2, sh_7, sh_7, sh_14, sh_12, sh_12, sh_18, sh_12, sh_12, sh_12, sh_48, sh_27, sh_24, sh_31, sh_24, sh_35, sh_24, sh_39, sh_24, sh_43, sh_24, sh_47, sh_24, sh_54, sh_50, sh_7, sh_59, sh_67, sh_62, sh_62, sh_2, sh_72, sh_70, sh_82, sh_75, sh_2, sh_2, sh_2, sh_75, sh_99, sh_88, sh_87, sh_90, sh_87, sh_92, sh_87, sh_94, sh_87, sh_96, sh_87, sh_98, sh_87, sh_104, sh_101, sh_103, sh_137, sh_2, sh_2, sh_2, sh_2, sh_7, sh_7, sh_113, sh_115, sh_115, sh_115, sh_115, sh_120, sh_122, sh_124, sh_126, sh_128, sh_128, sh_2, sh_132, sh_50, sh_135, sh_2, sh_2]
abbrev sh_138 : aC := .inr (12, [.inl false, .inl false, .inr (some 61), .inr (some 62), .inr (some 63), .inr (some 64), .inl false, .inr (some 65), .inr (some 66), .inr (some 67), .inl false, .inl false, .inr (some 68), .inr (some 69), .inr (some 70), .inr (some 71), .inr (some 72), .inl false, .inl false, .inl false, .inl false, .inl false, .inr (some 73), .inr (some 74), .inr (some 75), .inr (some 76), .inr (some 77), .inr (some 78), .inr (some 79), .inl false, .inl false, .inl false, .inl false, .inr (some 80), .inr (some 81), .inl true, .inl true, .inr (some 82), .inr (some 83), .inr none, .inl false, .inl false, .inl false, .inr none, .inr none, .inr none, .inr none, .inl false, .inr none, .inl false, .inr none, .inr none, .inr none, .inr none, .inr none])
def GC_188 : List aC := [sh_105, sh_9, sh_2, sh_2, sh_2, sh_2, sh_7, sh_7, sh_14, sh_12, sh_12, sh_18, sh_12, sh_12, sh_12, sh_48, sh_27, sh_24, sh_31, sh_24, sh_35, sh_24, sh_39, sh_24, sh_43, sh_24, sh_47, sh_24, sh_54, sh_50, sh_7, sh_59, sh_67, sh_62, sh_62, sh_2, sh_72, sh_70, sh_82, sh_75, sh_2, sh_2, sh_2, sh_75, sh_99, sh_88, sh_87, sh_90, sh_87, sh_92, sh_87, sh_94, sh_87, sh_96, sh_87, sh_98, sh_87, sh_104, sh_101, sh_103, sh_138, sh_2, sh_2, sh_2, sh_2, sh_7, sh_7, sh_113, sh_115, sh_115, sh_115, sh_115, sh_120, sh_122, sh_124, sh_126, sh_128, sh_128, sh_2, sh_132, sh_50, sh_135, sh_2, sh_2]
def GC_189 : List aC := [sh_105, sh_9, sh_2, sh_2, sh_2, sh_2, sh_7, sh_7, sh_14, sh_12, sh_12, sh_18, sh_12, sh_12, sh_12, sh_48, sh_27, sh_24, sh_31, sh_24, sh_35, sh_24, sh_39, sh_24, sh_43, sh_24, sh_47, sh_24, sh_54, sh_50, sh_7, sh_59, sh_67, sh_62, sh_62, sh_2, sh_72, sh_70, sh_82, sh_75, sh_2, sh_2, sh_2, sh_75, sh_99, sh_88, sh_87, sh_90, sh_87, sh_92, sh_87, sh_94, sh_87, sh_96, sh_87, sh_98, sh_87, sh_104, sh_101, sh_103, sh_138, sh_2, sh_2, sh_2, sh_2, sh_7, sh_7, sh_113, sh_115, sh_115, sh_115, sh_115, sh_120, sh_122, sh_124, sh_126, sh_128, sh_128, sh_2, sh_132, sh_50, sh_135, sh_2, sh_2, sh_75]
abbrev sh_139 : aC := .inr (12, [.inl false, .inl false, .inr (some 61), .inr (some 62), .inr (some 63), .inr (some 64), .inl false, .inr (some 65), .inr (some 66), .inr (some 67), .inl false, .inl false, .inr (some 68), .inr (some 69), .inr (some 70), .inr (some 71), .inr (some 72), .inl false, .inl false, .inl false, .inl false, .inl false, .inr (some 73), .inr (some 74), .inr (some 75), .inr (some 76), .inr (some 77), .inr (some 78), .inr (some 79), .inl false, .inl false, .inl false, .inl false, .inr (some 80), .inr (some 81), .inl true, .inl true, .inr (some 82), .inr (some 83), .inr (some 84), .inl false, .inl false, .inl false, .inr none, .inr none, .inr none, .inr none, .inl false, .inr none, .inl false, .inr none, .inr none, .inr none, .inr none, .inr none])
def GC_190 : List aC := [sh_105, sh_9, sh_2, sh_2, sh_2, sh_2, sh_7, sh_7, sh_14, sh_12, sh_12, sh_18, sh_12, sh_12, sh_12, sh_48, sh_27, sh_24, sh_31, sh_24, sh_35, sh_24, sh_39, sh_24, sh_43, sh_24, sh_47, sh_24, sh_54, sh_50, sh_7, sh_59, sh_67, sh_62, sh_62, sh_2, sh_72, sh_70, sh_82, sh_75, sh_2, sh_2, sh_2, sh_75, sh_99, sh_88, sh_87, sh_90, sh_87, sh_92, sh_87, sh_94, sh_87, sh_96, sh_87, sh_98, sh_87, sh_104, sh_101, sh_103, sh_139, sh_2, sh_2, sh_2, sh_2, sh_7, sh_7, sh_113, sh_115, sh_115, sh_115, sh_115, sh_120, sh_122, sh_124, sh_126, sh_128, sh_128, sh_2, sh_132, sh_50, sh_135, sh_2, sh_2, sh_75]
def GC_191 : List aC := [sh_105, sh_9, sh_2, sh_2, sh_2, sh_2, sh_7, sh_7, sh_14, sh_12, sh_12, sh_18, sh_12, sh_12, sh_12, sh_48, sh_27, sh_24, sh_31, sh_24, sh_35, sh_24, sh_39, sh_24, sh_43, sh_24, sh_47, sh_24, sh_54, sh_50, sh_7, sh_59, sh_67, sh_62, sh_62, sh_2, sh_72, sh_70, sh_82, sh_75, sh_2, sh_2, sh_2, sh_75, sh_99, sh_88, sh_87, sh_90, sh_87, sh_92, sh_87, sh_94, sh_87, sh_96, sh_87, sh_98, sh_87, sh_104, sh_101, sh_103, sh_139, sh_2, sh_2, sh_2, sh_2, sh_7, sh_7, sh_113, sh_115, sh_115, sh_115, sh_115, sh_120, sh_122, sh_124, sh_126, sh_128, sh_128, sh_2, sh_132, sh_50, sh_135, sh_2, sh_2, sh_75, sh_2]
abbrev sh_140 : aC := .inr (12, [.inl false, .inl false, .inr (some 61), .inr (some 62), .inr (some 63), .inr (some 64), .inl false, .inr (some 65), .inr (some 66), .inr (some 67), .inl false, .inl false, .inr (some 68), .inr (some 69), .inr (some 70), .inr (some 71), .inr (some 72), .inl false, .inl false, .inl false, .inl false, .inl false, .inr (some 73), .inr (some 74), .inr (some 75), .inr (some 76), .inr (some 77), .inr (some 78), .inr (some 79), .inl false, .inl false, .inl false, .inl false, .inr (some 80), .inr (some 81), .inl true, .inl true, .inr (some 82), .inr (some 83), .inr (some 84), .inl false, .inl false, .inl false, .inr (some 85), .inr none, .inr none, .inr none, .inl false, .inr none, .inl false, .inr none, .inr none, .inr none, .inr none, .inr none])
def GC_192 : List aC := [sh_105, sh_9, sh_2, sh_2, sh_2, sh_2, sh_7, sh_7, sh_14, sh_12, sh_12, sh_18, sh_12, sh_12, sh_12, sh_48, sh_27, sh_24, sh_31, sh_24, sh_35, sh_24, sh_39, sh_24, sh_43, sh_24, sh_47, sh_24, sh_54, sh_50, sh_7, sh_59, sh_67, sh_62, sh_62, sh_2, sh_72, sh_70, sh_82, sh_75, sh_2, sh_2, sh_2, sh_75, sh_99, sh_88, sh_87, sh_90, sh_87, sh_92, sh_87, sh_94, sh_87, sh_96, sh_87, sh_98, sh_87, sh_104, sh_101, sh_103, sh_140, sh_2, sh_2, sh_2, sh_2, sh_7, sh_7, sh_113, sh_115, sh_115, sh_115, sh_115, sh_120, sh_122, sh_124, sh_126, sh_128, sh_128, sh_2, sh_132, sh_50, sh_135, sh_2, sh_2, sh_75, sh_2]
def GC_193 : List aC := [sh_105, sh_9, sh_2, sh_2, sh_2, sh_2, sh_7, sh_7, sh_14, sh_12, sh_12, sh_18, sh_12, sh_12, sh_12, sh_48, sh_27, sh_24, sh_31, sh_24, sh_35, sh_24, sh_39, sh_24, sh_43, sh_24, sh_47, sh_24, sh_54, sh_50, sh_7, sh_59, sh_67, sh_62, sh_62, sh_2, sh_72, sh_70, sh_82, sh_75, sh_2, sh_2, sh_2, sh_75, sh_99, sh_88, sh_87, sh_90, sh_87, sh_92, sh_87, sh_94, sh_87, sh_96, sh_87, sh_98, sh_87, sh_104, sh_101, sh_103, sh_140, sh_2, sh_2, sh_2, sh_2, sh_7, sh_7, sh_113, sh_115, sh_115, sh_115, sh_115, sh_120, sh_122, sh_124, sh_126, sh_128, sh_128, sh_2, sh_132, sh_50, sh_135, sh_2, sh_2, sh_75, sh_2, sh_2]
abbrev sh_141 : aC := .inr (12, [.inl false, .inl false, .inr (some 61), .inr (some 62), .inr (some 63), .inr (some 64), .inl false, .inr (some 65), .inr (some 66), .inr (some 67), .inl false, .inl false, .inr (some 68), .inr (some 69), .inr (some 70), .inr (some 71), .inr (some 72), .inl false, .inl false, .inl false, .inl false, .inl false, .inr (some 73), .inr (some 74), .inr (some 75), .inr (some 76), .inr (some 77), .inr (some 78), .inr (some 79), .inl false, .inl false, .inl false, .inl false, .inr (some 80), .inr (some 81), .inl true, .inl true, .inr (some 82), .inr (some 83), .inr (some 84), .inl false, .inl false, .inl false, .inr (some 85), .inr (some 86), .inr none, .inr none, .inl false, .inr none, .inl false, .inr none, .inr none, .inr none, .inr none, .inr none])
def GC_194 : List aC := [sh_105, sh_9, sh_2, sh_2, sh_2, sh_2, sh_7, sh_7, sh_14, sh_12, sh_12, sh_18, sh_12, sh_12, sh_12, sh_48, sh_27, sh_24, sh_31, sh_24, sh_35, sh_24, sh_39, sh_24, sh_43, sh_24, sh_47, sh_24, sh_54, sh_50, sh_7, sh_59, sh_67, sh_62, sh_62, sh_2, sh_72, sh_70, sh_82, sh_75, sh_2, sh_2, sh_2, sh_75, sh_99, sh_88, sh_87, sh_90, sh_87, sh_92, sh_87, sh_94, sh_87, sh_96, sh_87, sh_98, sh_87, sh_104, sh_101, sh_103, sh_141, sh_2, sh_2, sh_2, sh_2, sh_7, sh_7, sh_113, sh_115, sh_115, sh_115, sh_115, sh_120, sh_122, sh_124, sh_126, sh_128, sh_128, sh_2, sh_132, sh_50, sh_135, sh_2, sh_2, sh_75, sh_2, sh_2]
def GC_195 : List aC := [sh_105, sh_9, sh_2, sh_2, sh_2, sh_2, sh_7, sh_7, sh_14, sh_12, sh_12, sh_18, sh_12, sh_12, sh_12, sh_48, sh_27, sh_24, sh_31, sh_24, sh_35, sh_24, sh_39, sh_24, sh_43, sh_24, sh_47, sh_24, sh_54, sh_50, sh_7, sh_59, sh_67, sh_62, sh_62, sh_2, sh_72, sh_70, sh_82, sh_75, sh_2, sh_2, sh_2, sh_75, sh_99, sh_88, sh_87, sh_90, sh_87, sh_92, sh_87, sh_94, sh_87, sh_96, sh_87, sh_98, sh_87, sh_104, sh_101, sh_103, sh_141, sh_2, sh_2, sh_2, sh_2, sh_7, sh_7, sh_113, sh_115, sh_115, sh_115, sh_115, sh_120, sh_122, sh_124, sh_126, sh_128, sh_128, sh_2, sh_132, sh_50, sh_135, sh_2, sh_2, sh_75, sh_2, sh_2, sh_2]
abbrev sh_142 : aC := .inr (12, [.inl false, .inl false, .inr (some 61), .inr (some 62), .inr (some 63), .inr (some 64), .inl false, .inr (some 65), .inr (some 66), .inr (some 67), .inl false, .inl false, .inr (some 68), .inr (some 69), .inr (some 70), .inr (some 71), .inr (some 72), .inl false, .inl false, .inl false, .inl false, .inl false, .inr (some 73), .inr (some 74), .inr (some 75), .inr (some 76), .inr (some 77), .inr (some 78), .inr (some 79), .inl false, .inl false, .inl false, .inl false, .inr (some 80), .inr (some 81), .inl true, .inl true, .inr (some 82), .inr (some 83), .inr (some 84), .inl false, .inl false, .inl false, .inr (some 85), .inr (some 86), .inr (some 87), .inr none, .inl false, .inr none, .inl false, .inr none, .inr none, .inr none, .inr none, .inr none])
def GC_196 : List aC := [sh_105, sh_9, sh_2, sh_2, sh_2, sh_2, sh_7, sh_7, sh_14, sh_12, sh_12, sh_18, sh_12, sh_12, sh_12, sh_48, sh_27, sh_24, sh_31, sh_24, sh_35, sh_24, sh_39, sh_24, sh_43, sh_24, sh_47, sh_24, sh_54, sh_50, sh_7, sh_59, sh_67, sh_62, sh_62, sh_2, sh_72, sh_70, sh_82, sh_75, sh_2, sh_2, sh_2, sh_75, sh_99, sh_88, sh_87, sh_90, sh_87, sh_92, sh_87, sh_94, sh_87, sh_96, sh_87, sh_98, sh_87, sh_104, sh_101, sh_103, sh_142, sh_2, sh_2, sh_2, sh_2, sh_7, sh_7, sh_113, sh_115, sh_115, sh_115, sh_115, sh_120, sh_122, sh_124, sh_126, sh_128, sh_128, sh_2, sh_132, sh_50, sh_135, sh_2, sh_2, sh_75, sh_2, sh_2, sh_2]
def GC_197 : List aC := [sh_105, sh_9, sh_2, sh_2, sh_2, sh_2, sh_7, sh_7, sh_14, sh_12, sh_12, sh_18, sh_12, sh_12, sh_12, sh_48, sh_27, sh_24, sh_31, sh_24, sh_35, sh_24, sh_39, sh_24, sh_43, sh_24, sh_47, sh_24, sh_54, sh_50, sh_7, sh_59, sh_67, sh_62, sh_62, sh_2, sh_72, sh_70, sh_82, sh_75, sh_2, sh_2, sh_2, sh_75, sh_99, sh_88, sh_87, sh_90, sh_87, sh_92, sh_87, sh_94, sh_87, sh_96, sh_87, sh_98, sh_87, sh_104, sh_101, sh_103, sh_142, sh_2, sh_2, sh_2, sh_2, sh_7, sh_7, sh_113, sh_115, sh_115, sh_115, sh_115, sh_120, sh_122, sh_124, sh_126, sh_128, sh_128, sh_2, sh_132, sh_50, sh_135, sh_2, sh_2, sh_75, sh_2, sh_2, sh_2, sh_75]
abbrev sh_143 : aC := .inr (12, [.inl false, .inl false, .inr (some 61), .inr (some 62), .inr (some 63), .inr (some 64), .inl false, .inr (some 65), .inr (some 66), .inr (some 67), .inl false, .inl false, .inr (some 68), .inr (some 69), .inr (some 70), .inr (some 71), .inr (some 72), .inl false, .inl false, .inl false, .inl false, .inl false, .inr (some 73), .inr (some 74), .inr (some 75), .inr (some 76), .inr (some 77), .inr (some 78), .inr (some 79), .inl false, .inl false, .inl false, .inl false, .inr (some 80), .inr (some 81), .inl true, .inl true, .inr (some 82), .inr (some 83), .inr (some 84), .inl false, .inl false, .inl false, .inr (some 85), .inr (some 86), .inr (some 87), .inr (some 88), .inl false, .inr none, .inl false, .inr none, .inr none, .inr none, .inr none, .inr none])
def GC_198 : List aC := [sh_105, sh_9, sh_2, sh_2, sh_2, sh_2, sh_7, sh_7, sh_14, sh_12, sh_12, sh_18, sh_12, sh_12, sh_12, sh_48, sh_27, sh_24, sh_31, sh_24, sh_35, sh_24, sh_39, sh_24, sh_43, sh_24, sh_47, sh_24, sh_54, sh_50, sh_7, sh_59, sh_67, sh_62, sh_62, sh_2, sh_72, sh_70, sh_82, sh_75, sh_2, sh_2, sh_2, sh_75, sh_99, sh_88, sh_87, sh_90, sh_87, sh_92, sh_87, sh_94, sh_87, sh_96, sh_87, sh_98, sh_87, sh_104, sh_101, sh_103, sh_143, sh_2, sh_2, sh_2, sh_2, sh_7, sh_7, sh_113, sh_115, sh_115, sh_115, sh_115, sh_120, sh_122, sh_124, sh_126, sh_128, sh_128, sh_2, sh_132, sh_50, sh_135, sh_2, sh_2, sh_75, sh_2, sh_2, sh_2, sh_75]
def GC_199 : List aC := [sh_105, sh_9, sh_2, sh_2, sh_2, sh_2, sh_7, sh_7, sh_14, sh_12, sh_12, sh_18, sh_12, sh_12, sh_12, sh_48, sh_27, sh_24, sh_31, sh_24, sh_35, sh_24, sh_39, sh_24, sh_43, sh_24, sh_47, sh_24, sh_54, sh_50, sh_7, sh_59, sh_67, sh_62, sh_62, sh_2, sh_72, sh_70, sh_82, sh_75, sh_2, sh_2, sh_2, sh_75, sh_99, sh_88, sh_87, sh_90, sh_87, sh_92, sh_87, sh_94, sh_87, sh_96, sh_87, sh_98, sh_87, sh_104, sh_101, sh_103, sh_143, sh_2, sh_2, sh_2, sh_2, sh_7, sh_7, sh_113, sh_115, sh_115, sh_115, sh_115, sh_120, sh_122, sh_124, sh_126, sh_128, sh_128, sh_2, sh_132, sh_50, sh_135, sh_2, sh_2, sh_75, sh_2, sh_2, sh_2, sh_75, sh_101]
abbrev sh_144 : aC := .inr (12, [.inl false, .inl false, .inr (some 61), .inr (some 62), .inr (some 63), .inr (some 64), .inl false, .inr (some 65), .inr (some 66), .inr (some 67), .inl false, .inl false, .inr (some 68), .inr (some 69), .inr (some 70), .inr (some 71), .inr (some 72), .inl false, .inl false, .inl false, .inl false, .inl false, .inr (some 73), .inr (some 74), .inr (some 75), .inr (some 76), .inr (some 77), .inr (some 78), .inr (some 79), .inl false, .inl false, .inl false, .inl false, .inr (some 80), .inr (some 81), .inl true, .inl true, .inr (some 82), .inr (some 83), .inr (some 84), .inl false, .inl false, .inl false, .inr (some 85), .inr (some 86), .inr (some 87), .inr (some 88), .inl false, .inr (some 89), .inl false, .inr none, .inr none, .inr none, .inr none, .inr none])
def GC_200 : List aC := [sh_105, sh_9, sh_2, sh_2, sh_2, sh_2, sh_7, sh_7, sh_14, sh_12, sh_12, sh_18, sh_12, sh_12, sh_12, sh_48, sh_27, sh_24, sh_31, sh_24, sh_35, sh_24, sh_39, sh_24, sh_43, sh_24, sh_47, sh_24, sh_54, sh_50, sh_7, sh_59, sh_67, sh_62, sh_62, sh_2, sh_72, sh_70, sh_82, sh_75, sh_2, sh_2, sh_2, sh_75, sh_99, sh_88, sh_87, sh_90, sh_87, sh_92, sh_87, sh_94, sh_87, sh_96, sh_87, sh_98, sh_87, sh_104, sh_101, sh_103, sh_144, sh_2, sh_2, sh_2, sh_2, sh_7, sh_7, sh_113, sh_115, sh_115, sh_115, sh_115, sh_120, sh_122, sh_124, sh_126, sh_128, sh_128, sh_2, sh_132, sh_50, sh_135, sh_2, sh_2, sh_75, sh_2, sh_2, sh_2, sh_75, sh_101]
def GC_201 : List aC := [sh_105, sh_9, sh_2, sh_2, sh_2, sh_2, sh_7, sh_7, sh_14, sh_12, sh_12, sh_18, sh_12, sh_12, sh_12, sh_48, sh_27, sh_24, sh_31, sh_24, sh_35, sh_24, sh_39, sh_24, sh_43, sh_24, sh_47, sh_24, sh_54, sh_50, sh_7, sh_59, sh_67, sh_62, sh_62, sh_2, sh_72, sh_70, sh_82, sh_75, sh_2, sh_2, sh_2, sh_75, sh_99, sh_88, sh_87, sh_90, sh_87, sh_92, sh_87, sh_94, sh_87, sh_96, sh_87, sh_98, sh_87, sh_104, sh_101, sh_103, sh_144, sh_2, sh_2, sh_2, sh_2, sh_7, sh_7, sh_113, sh_115, sh_115, sh_115, sh_115, sh_120, sh_122, sh_124, sh_126, sh_128, sh_128, sh_2, sh_132, sh_50, sh_135, sh_2, sh_2, sh_75, sh_2, sh_2, sh_2, sh_75, sh_101, sh_103]
abbrev sh_145 : aC := .inr (12, [.inl false, .inl false, .inr (some 61), .inr (some 62), .inr (some 63), .inr (some 64), .inl false, .inr (some 65), .inr (some 66), .inr (some 67), .inl false, .inl false, .inr (some 68), .inr (some 69), .inr (some 70), .inr (some 71), .inr (some 72), .inl false, .inl false, .inl false, .inl false, .inl false, .inr (some 73), .inr (some 74), .inr (some 75), .inr (some 76), .inr (some 77), .inr (some 78), .inr (some 79), .inl false, .inl false, .inl false, .inl false, .inr (some 80), .inr (some 81), .inl true, .inl true, .inr (some 82), .inr (some 83), .inr (some 84), .inl false, .inl false, .inl false, .inr (some 85), .inr (some 86), .inr (some 87), .inr (some 88), .inl false, .inr (some 89), .inl false, .inr (some 90), .inr none, .inr none, .inr none, .inr none])
def GC_202 : List aC := [sh_105, sh_9, sh_2, sh_2, sh_2, sh_2, sh_7, sh_7, sh_14, sh_12, sh_12, sh_18, sh_12, sh_12, sh_12, sh_48, sh_27, sh_24, sh_31, sh_24, sh_35, sh_24, sh_39, sh_24, sh_43, sh_24, sh_47, sh_24, sh_54, sh_50, sh_7, sh_59, sh_67, sh_62, sh_62, sh_2, sh_72, sh_70, sh_82, sh_75, sh_2, sh_2, sh_2, sh_75, sh_99, sh_88, sh_87, sh_90, sh_87, sh_92, sh_87, sh_94, sh_87, sh_96, sh_87, sh_98, sh_87, sh_104, sh_101, sh_103, sh_145, sh_2, sh_2, sh_2, sh_2, sh_7, sh_7, sh_113, sh_115, sh_115, sh_115, sh_115, sh_120, sh_122, sh_124, sh_126, sh_128, sh_128, sh_2, sh_132, sh_50, sh_135, sh_2, sh_2, sh_75, sh_2, sh_2, sh_2, sh_75, sh_101, sh_103]
def GC_203 : List aC := [sh_105, sh_9, sh_2, sh_2, sh_2, sh_2, sh_7, sh_7, sh_14, sh_12, sh_12, sh_18, sh_12, sh_12, sh_12, sh_48, sh_27, sh_24, sh_31, sh_24, sh_35, sh_24, sh_39, sh_24, sh_43, sh_24, sh_47, sh_24, sh_54, sh_50, sh_7, sh_59, sh_67, sh_62, sh_62, sh_2, sh_72, sh_70, sh_82, sh_75, sh_2, sh_2, sh_2, sh_75, sh_99, sh_88, sh_87, sh_90, sh_87, sh_92, sh_87, sh_94, sh_87, sh_96, sh_87, sh_98, sh_87, sh_104, sh_101, sh_103, sh_145, sh_2, sh_2, sh_2, sh_2, sh_7, sh_7, sh_113, sh_115, sh_115, sh_115, sh_115, sh_120, sh_122, sh_124, sh_126, sh_128, sh_128, sh_2, sh_132, sh_50, sh_135, sh_2, sh_2, sh_75, sh_2, sh_2, sh_2, sh_75, sh_101, sh_103, sh_2]
abbrev sh_146 : aC := .inr (12, [.inl false, .inl false, .inr (some 61), .inr (some 62), .inr (some 63), .inr (some 64), .inl false, .inr (some 65), .inr (some 66), .inr (some 67), .inl false, .inl false, .inr (some 68), .inr (some 69), .inr (some 70), .inr (some 71), .inr (some 72), .inl false, .inl false, .inl false, .inl false, .inl false, .inr (some 73), .inr (some 74), .inr (some 75), .inr (some 76), .inr (some 77), .inr (some 78), .inr (some 79), .inl false, .inl false, .inl false, .inl false, .inr (some 80), .inr (some 81), .inl true, .inl true, .inr (some 82), .inr (some 83), .inr (some 84), .inl false, .inl false, .inl false, .inr (some 85), .inr (some 86), .inr (some 87), .inr (some 88), .inl false, .inr (some 89), .inl false, .inr (some 90), .inr (some 91), .inr none, .inr none, .inr none])
def GC_204 : List aC := [sh_105, sh_9, sh_2, sh_2, sh_2, sh_2, sh_7, sh_7, sh_14, sh_12, sh_12, sh_18, sh_12, sh_12, sh_12, sh_48, sh_27, sh_24, sh_31, sh_24, sh_35, sh_24, sh_39, sh_24, sh_43, sh_24, sh_47, sh_24, sh_54, sh_50, sh_7, sh_59, sh_67, sh_62, sh_62, sh_2, sh_72, sh_70, sh_82, sh_75, sh_2, sh_2, sh_2, sh_75, sh_99, sh_88, sh_87, sh_90, sh_87, sh_92, sh_87, sh_94, sh_87, sh_96, sh_87, sh_98, sh_87, sh_104, sh_101, sh_103, sh_146, sh_2, sh_2, sh_2, sh_2, sh_7, sh_7, sh_113, sh_115, sh_115, sh_115, sh_115, sh_120, sh_122, sh_124, sh_126, sh_128, sh_128, sh_2, sh_132, sh_50, sh_135, sh_2, sh_2, sh_75, sh_2, sh_2, sh_2, sh_75, sh_101, sh_103, sh_2]
def GC_205 : List aC := [sh_105, sh_9, sh_2, sh_2, sh_2, sh_2, sh_7, sh_7, sh_14, sh_12, sh_12, sh_18, sh_12, sh_12, sh_12, sh_48, sh_27, sh_24, sh_31, sh_24, sh_35, sh_24, sh_39, sh_24, sh_43, sh_24, sh_47, sh_24, sh_54, sh_50, sh_7, sh_59, sh_67, sh_62, sh_62, sh_2, sh_72, sh_70, sh_82, sh_75, sh_2, sh_2, sh_2, sh_75, sh_99, sh_88, sh_87, sh_90, sh_87, sh_92, sh_87, sh_94, sh_87, sh_96, sh_87, sh_98, sh_87, sh_104, sh_101, sh_103, sh_146, sh_2, sh_2, sh_2, sh_2, sh_7, sh_7, sh_113, sh_115, sh_115, sh_115, sh_115, sh_120, sh_122, sh_124, sh_126, sh_128, sh_128, sh_2, sh_132, sh_50, sh_135, sh_2, sh_2, sh_75, sh_2, sh_2, sh_2, sh_75, sh_101, sh_103, sh_2, sh_2]
abbrev sh_147 : aC := .inr (12, [.inl false, .inl false, .inr (some 61), .inr (some 62), .inr (some 63), .inr (some 64), .inl false, .inr (some 65), .inr (some 66), .inr (some 67), .inl false, .inl false, .inr (some 68), .inr (some 69), .inr (some 70), .inr (some 71), .inr (some 72), .inl false, .inl false, .inl false, .inl false, .inl false, .inr (some 73), .inr (some 74), .inr (some 75), .inr (some 76), .inr (some 77), .inr (some 78), .inr (some 79), .inl false, .inl false, .inl false, .inl false, .inr (some 80), .inr (some 81), .inl true, .inl true, .inr (some 82), .inr (some 83), .inr (some 84), .inl false, .inl false, .inl false, .inr (some 85), .inr (some 86), .inr (some 87), .inr (some 88), .inl false, .inr (some 89), .inl false, .inr (some 90), .inr (some 91), .inr (some 92), .inr none, .inr none])
def GC_206 : List aC := [sh_105, sh_9, sh_2, sh_2, sh_2, sh_2, sh_7, sh_7, sh_14, sh_12, sh_12, sh_18, sh_12, sh_12, sh_12, sh_48, sh_27, sh_24, sh_31, sh_24, sh_35, sh_24, sh_39, sh_24, sh_43, sh_24, sh_47, sh_24, sh_54, sh_50, sh_7, sh_59, sh_67, sh_62, sh_62, sh_2, sh_72, sh_70, sh_82, sh_75, sh_2, sh_2, sh_2, sh_75, sh_99, sh_88, sh_87, sh_90, sh_87, sh_92, sh_87, sh_94, sh_87, sh_96, sh_87, sh_98, sh_87, sh_104, sh_101, sh_103, sh_147, sh_2, sh_2, sh_2, sh_2, sh_7, sh_7, sh_113, sh_115, sh_115, sh_115, sh_115, sh_120, sh_122, sh_124, sh_126, sh_128, sh_128, sh_2, sh_132, sh_50, sh_135, sh_2, sh_2, sh_75, sh_2, sh_2, sh_2, sh_75, sh_101, sh_103, sh_2, sh_2]
abbrev sh_148 : aC := .inl (.long, 360, [])
def GC_207 : List aC := [sh_105, sh_9, sh_2, sh_2, sh_2, sh_2, sh_7, sh_7, sh_14, sh_12, sh_12, sh_18, sh_12, sh_12, sh_12, sh_48, sh_27, sh_24, sh_31, sh_24, sh_35, sh_24, sh_39, sh_24, sh_43, sh_24, sh_47, sh_24, sh_54, sh_50, sh_7, sh_59, sh_67, sh_62, sh_62, sh_2, sh_72, sh_70, sh_82, sh_75, sh_2, sh_2, sh_2, sh_75, sh_99, sh_88, sh_87, sh_90, sh_87, sh_92, sh_87, sh_94, sh_87, sh_96, sh_87, sh_98, sh_87, sh_104, sh_101, sh_103, sh_147, sh_2, sh_2, sh_2, sh_2, sh_7, sh_7, sh_113, sh_115, sh_115, sh_115, sh_115, sh_120, sh_122, sh_124, sh_126, sh_128, sh_128, sh_2, sh_132, sh_50, sh_135, sh_2, sh_2, sh_75, sh_2, sh_2, sh_2, sh_75, sh_101, sh_103, sh_2, sh_2, sh_148]
abbrev sh_149 : aC := .inr (12, [.inl false, .inl false, .inr (some 61), .inr (some 62), .inr (some 63), .inr (some 64), .inl false, .inr (some 65), .inr (some 66), .inr (some 67), .inl false, .inl false, .inr (some 68), .inr (some 69), .inr (some 70), .inr (some 71), .inr (some 72), .inl false, .inl false, .inl false, .inl false, .inl false, .inr (some 73), .inr (some 74), .inr (some 75), .inr (some 76), .inr (some 77), .inr (some 78), .inr (some 79), .inl false, .inl false, .inl false, .inl false, .inr (some 80), .inr (some 81), .inl true, .inl true, .inr (some 82), .inr (some 83), .inr (some 84), .inl false, .inl false, .inl false, .inr (some 85), .inr (some 86), .inr (some 87), .inr (some 88), .inl false, .inr (some 89), .inl false, .inr (some 90), .inr (some 91), .inr (some 92), .inr (some 93), .inr none])
def GC_208 : List aC := [sh_105, sh_9, sh_2, sh_2, sh_2, sh_2, sh_7, sh_7, sh_14, sh_12, sh_12, sh_18, sh_12, sh_12, sh_12, sh_48, sh_27, sh_24, sh_31, sh_24, sh_35, sh_24, sh_39, sh_24, sh_43, sh_24, sh_47, sh_24, sh_54, sh_50, sh_7, sh_59, sh_67, sh_62, sh_62, sh_2, sh_72, sh_70, sh_82, sh_75, sh_2, sh_2, sh_2, sh_75, sh_99, sh_88, sh_87, sh_90, sh_87, sh_92, sh_87, sh_94, sh_87, sh_96, sh_87, sh_98, sh_87, sh_104, sh_101, sh_103, sh_149, sh_2, sh_2, sh_2, sh_2, sh_7, sh_7, sh_113, sh_115, sh_115, sh_115, sh_115, sh_120, sh_122, sh_124, sh_126, sh_128, sh_128, sh_2, sh_132, sh_50, sh_135, sh_2, sh_2, sh_75, sh_2, sh_2, sh_2, sh_75, sh_101, sh_103, sh_2, sh_2, sh_148]
def GC_209 : List aC := [sh_105, sh_9, sh_2, sh_2, sh_2, sh_2, sh_7, sh_7, sh_14, sh_12, sh_12, sh_18, sh_12, sh_12, sh_12, sh_48, sh_27, sh_24, sh_31, sh_24, sh_35, sh_24, sh_39, sh_24, sh_43, sh_24, sh_47, sh_24, sh_54, sh_50, sh_7, sh_59, sh_67, sh_62, sh_62, sh_2, sh_72, sh_70, sh_82, sh_75, sh_2, sh_2, sh_2, sh_75, sh_99, sh_88, sh_87, sh_90, sh_87, sh_92, sh_87, sh_94, sh_87, sh_96, sh_87, sh_98, sh_87, sh_104, sh_101, sh_103, sh_149, sh_2, sh_2, sh_2, sh_2, sh_7, sh_7, sh_113, sh_115, sh_115, sh_115, sh_115, sh_120, sh_122, sh_124, sh_126, sh_128, sh_128, sh_2, sh_132, sh_50, sh_135, sh_2, sh_2, sh_75, sh_2, sh_2, sh_2, sh_75, sh_101, sh_103, sh_2, sh_2, sh_148, sh_87]
abbrev sh_150 : aC := .inr (12, [.inl false, .inl false, .inr (some 61), .inr (some 62), .inr (some 63), .inr (some 64), .inl false, .inr (some 65), .inr (some 66), .inr (some 67), .inl false, .inl false, .inr (some 68), .inr (some 69), .inr (some 70), .inr (some 71), .inr (some 72), .inl false, .inl false, .inl false, .inl false, .inl false, .inr (some 73), .inr (some 74), .inr (some 75), .inr (some 76), .inr (some 77), .inr (some 78), .inr (some 79), .inl false, .inl false, .inl false, .inl false, .inr (some 80), .inr (some 81), .inl true, .inl true, .inr (some 82), .inr (some 83), .inr (some 84), .inl false, .inl false, .inl false, .inr (some 85), .inr (some 86), .inr (some 87), .inr (some 88), .inl false, .inr (some 89), .inl false, .inr (some 90), .inr (some 91), .inr (some 92), .inr (some 93), .inr (some 94)])
def GC_210 : List aC := [sh_105, sh_9, sh_2, sh_2, sh_2, sh_2, sh_7, sh_7, sh_14, sh_12, sh_12, sh_18, sh_12, sh_12, sh_12, sh_48, sh_27, sh_24, sh_31, sh_24, sh_35, sh_24, sh_39, sh_24, sh_43, sh_24, sh_47, sh_24, sh_54, sh_50, sh_7, sh_59, sh_67, sh_62, sh_62, sh_2, sh_72, sh_70, sh_82, sh_75, sh_2, sh_2, sh_2, sh_75, sh_99, sh_88, sh_87, sh_90, sh_87, sh_92, sh_87, sh_94, sh_87, sh_96, sh_87, sh_98, sh_87, sh_104, sh_101, sh_103, sh_150, sh_2, sh_2, sh_2, sh_2, sh_7, sh_7, sh_113, sh_115, sh_115, sh_115, sh_115, sh_120, sh_122, sh_124, sh_126, sh_128, sh_128, sh_2, sh_132, sh_50, sh_135, sh_2, sh_2, sh_75, sh_2, sh_2, sh_2, sh_75, sh_101, sh_103, sh_2, sh_2, sh_148, sh_87]
set_option maxRecDepth 100000 in
set_option maxHeartbeats 4000000 in
theorem ctor_1 (sx : Nat × (Nat → Int32)) : Ct mX7_init 1 true (6, 40) sx GC_2 [.ref 1] SC_0 (fun r Γ σ => r = none ∧ Γ = GC_14 ∧ σ = SC_1) := by
  refine Ct.of (L := [some (.ref 1)]) (by decide) (Nat.le_of_ble_eq_true rfl) rfl ?_
  refine X_aload_n dX7_init_0 rfl rfl ?_
  refine X_obj lk_X7_3 dX7_init_1 (by decide) (Nat.le_of_ble_eq_true rfl) ?_
  refine X_aload_n dX7_init_4 rfl rfl ?_
  refine X_bipush (v := 6) dX7_init_5 bipush_6 ?_
  refine X_newa (Γ' := GC_3) (atype := .int) (t0 := 0) (N' := 6) (bu := (5, 34)) ac_int (fun _ => rfl) (by intro C h; cases h) rfl rfl (fun _ _ => rfl) (by decide) (by decide) (by decide) dX7_init_7 ?_
  refine X_putRF (Γ' := GC_4) ck_X7 f_X7_9 rfl rfl rfl rfl rfl (fun _ => rfl) (fun _ => rfl) dX7_init_9 rfl ?_
  refine X_aload_n dX7_init_12 rfl rfl ?_
  refine X_bipush (v := 6) dX7_init_13 bipush_6 ?_
  refine X_newa (Γ' := GC_5) (atype := .int) (t0 := 0) (N' := 6) (bu := (4, 28)) ac_int (fun _ => rfl) (by intro C h; cases h) rfl rfl (fun _ _ => rfl) (by decide) (by decide) (by decide) dX7_init_15 ?_
  refine X_putRF (Γ' := GC_6) ck_X7 f_X7_15 rfl rfl rfl rfl rfl (fun _ => rfl) (fun _ => rfl) dX7_init_17 rfl ?_
  refine X_aload_n dX7_init_20 rfl rfl ?_
  refine X_bipush (v := 6) dX7_init_21 bipush_6 ?_
  refine X_newa (Γ' := GC_7) (atype := .int) (t0 := 0) (N' := 6) (bu := (3, 22)) ac_int (fun _ => rfl) (by intro C h; cases h) rfl rfl (fun _ _ => rfl) (by decide) (by decide) (by decide) dX7_init_23 ?_
  refine X_putRF (Γ' := GC_8) ck_X7 f_X7_18 rfl rfl rfl rfl rfl (fun _ => rfl) (fun _ => rfl) dX7_init_25 rfl ?_
  refine X_aload_n dX7_init_28 rfl rfl ?_
  refine X_bipush (v := 6) dX7_init_29 bipush_6 ?_
  refine X_newa (Γ' := GC_9) (atype := .int) (t0 := 0) (N' := 6) (bu := (2, 16)) ac_int (fun _ => rfl) (by intro C h; cases h) rfl rfl (fun _ _ => rfl) (by decide) (by decide) (by decide) dX7_init_31 ?_
  refine X_putRF (Γ' := GC_10) ck_X7 f_X7_21 rfl rfl rfl rfl rfl (fun _ => rfl) (fun _ => rfl) dX7_init_33 rfl ?_
  refine X_aload_n dX7_init_36 rfl rfl ?_
  refine X_bipush (v := 8) dX7_init_37 bipush_8 ?_
  refine X_newa (Γ' := GC_11) (atype := .int) (t0 := 0) (N' := 8) (bu := (1, 8)) ac_int (fun _ => rfl) (by intro C h; cases h) rfl rfl (fun _ _ => rfl) (by decide) (by decide) (by decide) dX7_init_39 ?_
  refine X_putRF (Γ' := GC_12) ck_X7 f_X7_24 rfl rfl rfl rfl rfl (fun _ => rfl) (fun _ => rfl) dX7_init_41 rfl ?_
  refine X_aload_n dX7_init_44 rfl rfl ?_
  refine X_bipush (v := 8) dX7_init_45 bipush_8 ?_
  refine X_newa (Γ' := GC_13) (atype := .int) (t0 := 0) (N' := 8) (bu := (0, 0)) ac_int (fun _ => rfl) (by intro C h; cases h) rfl rfl (fun _ _ => rfl) (by decide) (by decide) (by decide) dX7_init_47 ?_
  refine X_putRF (Γ' := GC_14) ck_X7 f_X7_27 rfl rfl rfl rfl rfl (fun _ => rfl) (fun _ => rfl) dX7_init_49 rfl ?_
  refine X_aload_n dX7_init_52 rfl rfl ?_
  refine X_iconst (v := 1) dX7_init_53 iconst_1 ?_
  refine X_putI (P := fun σ' => σ' = SC_1) ck_X7 f_X7_30 rfl rfl rfl rfl rfl dX7_init_54 (bd_of rfl) (fun σ' e => ?_)
  subst e
  exact X_vret rfl dX7_init_57 ⟨rfl, rfl, rfl⟩
set_option maxRecDepth 100000 in
set_option maxHeartbeats 4000000 in
theorem ctor_2 (sx : Nat × (Nat → Int32)) : Ct mX8_init 1 true (2, 240) sx GC_16 [.ref 8] SC_1 (fun r Γ σ => r = none ∧ Γ = GC_20 ∧ σ = SC_1) := by
  refine Ct.of (L := [some (.ref 8)]) (by decide) (Nat.le_of_ble_eq_true rfl) rfl ?_
  refine X_aload_n dX8_init_0 rfl rfl ?_
  refine X_obj lk_X8_3 dX8_init_1 (by decide) (Nat.le_of_ble_eq_true rfl) ?_
  refine X_aload_n dX8_init_4 rfl rfl ?_
  refine X_bipush (v := 120) dX8_init_5 bipush_120 ?_
  refine X_newa (Γ' := GC_17) (atype := .int) (t0 := 0) (N' := 120) (bu := (1, 120)) ac_int (fun _ => rfl) (by intro C h; cases h) rfl rfl (fun _ _ => rfl) (by decide) (by decide) (by decide) dX8_init_7 ?_
  refine X_putRF (Γ' := GC_18) ck_X8 f_X8_9 rfl rfl rfl rfl rfl (fun _ => rfl) (fun _ => rfl) dX8_init_9 rfl ?_
  refine X_aload_n dX8_init_12 rfl rfl ?_
  refine X_bipush (v := 120) dX8_init_13 bipush_120 ?_
  refine X_newa (Γ' := GC_19) (atype := .int) (t0 := 0) (N' := 120) (bu := (0, 0)) ac_int (fun _ => rfl) (by intro C h; cases h) rfl rfl (fun _ _ => rfl) (by decide) (by decide) (by decide) dX8_init_15 ?_
  refine X_putRF (Γ' := GC_20) ck_X8 f_X8_15 rfl rfl rfl rfl rfl (fun _ => rfl) (fun _ => rfl) dX8_init_17 rfl ?_
  exact X_vret rfl dX8_init_20 ⟨rfl, rfl, rfl⟩
set_option maxRecDepth 100000 in
set_option maxHeartbeats 4000000 in
theorem ctor_3 (sx : Nat × (Nat → Int32)) : Ct mX9_init 1 true (2, 240) sx GC_22 [.ref 11] SC_1 (fun r Γ σ => r = none ∧ Γ = GC_26 ∧ σ = SC_1) := by
  refine Ct.of (L := [some (.ref 11)]) (by decide) (Nat.le_of_ble_eq_true rfl) rfl ?_
  refine X_aload_n dX9_init_0 rfl rfl ?_
  refine X_obj lk_X9_3 dX9_init_1 (by decide) (Nat.le_of_ble_eq_true rfl) ?_
  refine X_aload_n dX9_init_4 rfl rfl ?_
  refine X_bipush (v := 120) dX9_init_5 bipush_120 ?_
  refine X_newa (Γ' := GC_23) (atype := .int) (t0 := 0) (N' := 120) (bu := (1, 120)) ac_int (fun _ => rfl) (by intro C h; cases h) rfl rfl (fun _ _ => rfl) (by decide) (by decide) (by decide) dX9_init_7 ?_
  refine X_putRF (Γ' := GC_24) ck_X9 f_X9_9 rfl rfl rfl rfl rfl (fun _ => rfl) (fun _ => rfl) dX9_init_9 rfl ?_
  refine X_aload_n dX9_init_12 rfl rfl ?_
  refine X_bipush (v := 120) dX9_init_13 bipush_120 ?_
  refine X_newa (Γ' := GC_25) (atype := .int) (t0 := 0) (N' := 120) (bu := (0, 0)) ac_int (fun _ => rfl) (by intro C h; cases h) rfl rfl (fun _ _ => rfl) (by decide) (by decide) (by decide) dX9_init_15 ?_
  refine X_putRF (Γ' := GC_26) ck_X9 f_X9_15 rfl rfl rfl rfl rfl (fun _ => rfl) (fun _ => rfl) dX9_init_17 rfl ?_
  exact X_vret rfl dX9_init_20 ⟨rfl, rfl, rfl⟩
set_option maxRecDepth 100000 in
set_option maxHeartbeats 4000000 in
theorem ctor_4 (sx : Nat × (Nat → Int32)) : Ct mX3_init 1 true (1, 480) sx GC_32 [.ref 16, .int (0 : Int32), .ref 1, .ref 8] SC_1 (fun r Γ σ => r = none ∧ Γ = GC_36 ∧ σ = SC_2) := by
  refine Ct.of (L := [some (.ref 16), some (.int (0 : Int32)), some (.ref 1), some (.ref 8)]) (by decide) (Nat.le_of_ble_eq_true rfl) rfl ?_
  refine X_aload_n dX3_init_0 rfl rfl ?_
  refine X_obj lk_X3_3 dX3_init_1 (by decide) (Nat.le_of_ble_eq_true rfl) ?_
  refine X_aload_n dX3_init_4 rfl rfl ?_
  refine X_sipush (v := 480) dX3_init_5 sipush_480 ?_
  refine X_newa (Γ' := GC_33) (atype := .int) (t0 := 0) (N' := 480) (bu := (0, 0)) ac_int (fun _ => rfl) (by intro C h; cases h) rfl rfl (fun _ _ => rfl) (by decide) (by decide) (by decide) dX3_init_8 ?_
  refine X_putRF (Γ' := GC_34) ck_X3 f_X3_9 rfl rfl rfl rfl rfl (fun _ => rfl) (fun _ => rfl) dX3_init_10 rfl ?_
  refine X_aload_n dX3_init_13 rfl rfl ?_
  refine X_iload_n dX3_init_14 rfl rfl ?_
  refine X_putIF ck_X3 f_X3_15 rfl rfl rfl rfl rfl rfl rfl dX3_init_15 ?_
  rw [show sI SC_1 16 0 0 = SC_2 from rfl]
  refine X_aload_n dX3_init_18 rfl rfl ?_
  refine X_aload_n dX3_init_19 rfl rfl ?_
  refine X_putRF (Γ' := GC_35) ck_X3 f_X3_19 rfl rfl rfl rfl rfl (fun _ => rfl) (fun _ => rfl) dX3_init_20 rfl ?_
  refine X_aload_n dX3_init_23 rfl rfl ?_
  refine X_aload_n dX3_init_24 rfl rfl ?_
  refine X_putRF (Γ' := GC_36) ck_X3 f_X3_23 rfl rfl rfl rfl rfl (fun _ => rfl) (fun _ => rfl) dX3_init_25 rfl ?_
  exact X_vret rfl dX3_init_28 ⟨rfl, rfl, rfl⟩
set_option maxRecDepth 100000 in
set_option maxHeartbeats 4000000 in
theorem ctor_5 (sx : Nat × (Nat → Int32)) : Ct mX3_init 1 true (1, 480) sx GC_38 [.ref 18, .int (1 : Int32), .ref 1, .ref 8] SC_2 (fun r Γ σ => r = none ∧ Γ = GC_42 ∧ σ = SC_3) := by
  refine Ct.of (L := [some (.ref 18), some (.int (1 : Int32)), some (.ref 1), some (.ref 8)]) (by decide) (Nat.le_of_ble_eq_true rfl) rfl ?_
  refine X_aload_n dX3_init_0 rfl rfl ?_
  refine X_obj lk_X3_3 dX3_init_1 (by decide) (Nat.le_of_ble_eq_true rfl) ?_
  refine X_aload_n dX3_init_4 rfl rfl ?_
  refine X_sipush (v := 480) dX3_init_5 sipush_480 ?_
  refine X_newa (Γ' := GC_39) (atype := .int) (t0 := 0) (N' := 480) (bu := (0, 0)) ac_int (fun _ => rfl) (by intro C h; cases h) rfl rfl (fun _ _ => rfl) (by decide) (by decide) (by decide) dX3_init_8 ?_
  refine X_putRF (Γ' := GC_40) ck_X3 f_X3_9 rfl rfl rfl rfl rfl (fun _ => rfl) (fun _ => rfl) dX3_init_10 rfl ?_
  refine X_aload_n dX3_init_13 rfl rfl ?_
  refine X_iload_n dX3_init_14 rfl rfl ?_
  refine X_putIF ck_X3 f_X3_15 rfl rfl rfl rfl rfl rfl rfl dX3_init_15 ?_
  rw [show sI SC_2 18 0 1 = SC_3 from rfl]
  refine X_aload_n dX3_init_18 rfl rfl ?_
  refine X_aload_n dX3_init_19 rfl rfl ?_
  refine X_putRF (Γ' := GC_41) ck_X3 f_X3_19 rfl rfl rfl rfl rfl (fun _ => rfl) (fun _ => rfl) dX3_init_20 rfl ?_
  refine X_aload_n dX3_init_23 rfl rfl ?_
  refine X_aload_n dX3_init_24 rfl rfl ?_
  refine X_putRF (Γ' := GC_42) ck_X3 f_X3_23 rfl rfl rfl rfl rfl (fun _ => rfl) (fun _ => rfl) dX3_init_25 rfl ?_
  exact X_vret rfl dX3_init_28 ⟨rfl, rfl, rfl⟩
set_option maxRecDepth 100000 in
set_option maxHeartbeats 4000000 in
theorem ctor_6 (sx : Nat × (Nat → Int32)) : Ct mX3_init 1 true (1, 480) sx GC_44 [.ref 20, .int (2 : Int32), .ref 1, .ref 8] SC_3 (fun r Γ σ => r = none ∧ Γ = GC_48 ∧ σ = SC_4) := by
  refine Ct.of (L := [some (.ref 20), some (.int (2 : Int32)), some (.ref 1), some (.ref 8)]) (by decide) (Nat.le_of_ble_eq_true rfl) rfl ?_
  refine X_aload_n dX3_init_0 rfl rfl ?_
  refine X_obj lk_X3_3 dX3_init_1 (by decide) (Nat.le_of_ble_eq_true rfl) ?_
  refine X_aload_n dX3_init_4 rfl rfl ?_
  refine X_sipush (v := 480) dX3_init_5 sipush_480 ?_
  refine X_newa (Γ' := GC_45) (atype := .int) (t0 := 0) (N' := 480) (bu := (0, 0)) ac_int (fun _ => rfl) (by intro C h; cases h) rfl rfl (fun _ _ => rfl) (by decide) (by decide) (by decide) dX3_init_8 ?_
  refine X_putRF (Γ' := GC_46) ck_X3 f_X3_9 rfl rfl rfl rfl rfl (fun _ => rfl) (fun _ => rfl) dX3_init_10 rfl ?_
  refine X_aload_n dX3_init_13 rfl rfl ?_
  refine X_iload_n dX3_init_14 rfl rfl ?_
  refine X_putIF ck_X3 f_X3_15 rfl rfl rfl rfl rfl rfl rfl dX3_init_15 ?_
  rw [show sI SC_3 20 0 2 = SC_4 from rfl]
  refine X_aload_n dX3_init_18 rfl rfl ?_
  refine X_aload_n dX3_init_19 rfl rfl ?_
  refine X_putRF (Γ' := GC_47) ck_X3 f_X3_19 rfl rfl rfl rfl rfl (fun _ => rfl) (fun _ => rfl) dX3_init_20 rfl ?_
  refine X_aload_n dX3_init_23 rfl rfl ?_
  refine X_aload_n dX3_init_24 rfl rfl ?_
  refine X_putRF (Γ' := GC_48) ck_X3 f_X3_23 rfl rfl rfl rfl rfl (fun _ => rfl) (fun _ => rfl) dX3_init_25 rfl ?_
  exact X_vret rfl dX3_init_28 ⟨rfl, rfl, rfl⟩
set_option maxRecDepth 100000 in
set_option maxHeartbeats 4000000 in
theorem ctor_7 (sx : Nat × (Nat → Int32)) : Ct mX3_init 1 true (1, 480) sx GC_50 [.ref 22, .int (3 : Int32), .ref 1, .ref 8] SC_4 (fun r Γ σ => r = none ∧ Γ = GC_54 ∧ σ = SC_5) := by
  refine Ct.of (L := [some (.ref 22), some (.int (3 : Int32)), some (.ref 1), some (.ref 8)]) (by decide) (Nat.le_of_ble_eq_true rfl) rfl ?_
  refine X_aload_n dX3_init_0 rfl rfl ?_
  refine X_obj lk_X3_3 dX3_init_1 (by decide) (Nat.le_of_ble_eq_true rfl) ?_
  refine X_aload_n dX3_init_4 rfl rfl ?_
  refine X_sipush (v := 480) dX3_init_5 sipush_480 ?_
  refine X_newa (Γ' := GC_51) (atype := .int) (t0 := 0) (N' := 480) (bu := (0, 0)) ac_int (fun _ => rfl) (by intro C h; cases h) rfl rfl (fun _ _ => rfl) (by decide) (by decide) (by decide) dX3_init_8 ?_
  refine X_putRF (Γ' := GC_52) ck_X3 f_X3_9 rfl rfl rfl rfl rfl (fun _ => rfl) (fun _ => rfl) dX3_init_10 rfl ?_
  refine X_aload_n dX3_init_13 rfl rfl ?_
  refine X_iload_n dX3_init_14 rfl rfl ?_
  refine X_putIF ck_X3 f_X3_15 rfl rfl rfl rfl rfl rfl rfl dX3_init_15 ?_
  rw [show sI SC_4 22 0 3 = SC_5 from rfl]
  refine X_aload_n dX3_init_18 rfl rfl ?_
  refine X_aload_n dX3_init_19 rfl rfl ?_
  refine X_putRF (Γ' := GC_53) ck_X3 f_X3_19 rfl rfl rfl rfl rfl (fun _ => rfl) (fun _ => rfl) dX3_init_20 rfl ?_
  refine X_aload_n dX3_init_23 rfl rfl ?_
  refine X_aload_n dX3_init_24 rfl rfl ?_
  refine X_putRF (Γ' := GC_54) ck_X3 f_X3_23 rfl rfl rfl rfl rfl (fun _ => rfl) (fun _ => rfl) dX3_init_25 rfl ?_
  exact X_vret rfl dX3_init_28 ⟨rfl, rfl, rfl⟩
set_option maxRecDepth 100000 in
set_option maxHeartbeats 4000000 in
theorem ctor_8 (sx : Nat × (Nat → Int32)) : Ct mX3_init 1 true (1, 480) sx GC_56 [.ref 24, .int (4 : Int32), .ref 1, .ref 8] SC_5 (fun r Γ σ => r = none ∧ Γ = GC_60 ∧ σ = SC_6) := by
  refine Ct.of (L := [some (.ref 24), some (.int (4 : Int32)), some (.ref 1), some (.ref 8)]) (by decide) (Nat.le_of_ble_eq_true rfl) rfl ?_
  refine X_aload_n dX3_init_0 rfl rfl ?_
  refine X_obj lk_X3_3 dX3_init_1 (by decide) (Nat.le_of_ble_eq_true rfl) ?_
  refine X_aload_n dX3_init_4 rfl rfl ?_
  refine X_sipush (v := 480) dX3_init_5 sipush_480 ?_
  refine X_newa (Γ' := GC_57) (atype := .int) (t0 := 0) (N' := 480) (bu := (0, 0)) ac_int (fun _ => rfl) (by intro C h; cases h) rfl rfl (fun _ _ => rfl) (by decide) (by decide) (by decide) dX3_init_8 ?_
  refine X_putRF (Γ' := GC_58) ck_X3 f_X3_9 rfl rfl rfl rfl rfl (fun _ => rfl) (fun _ => rfl) dX3_init_10 rfl ?_
  refine X_aload_n dX3_init_13 rfl rfl ?_
  refine X_iload_n dX3_init_14 rfl rfl ?_
  refine X_putIF ck_X3 f_X3_15 rfl rfl rfl rfl rfl rfl rfl dX3_init_15 ?_
  rw [show sI SC_5 24 0 4 = SC_6 from rfl]
  refine X_aload_n dX3_init_18 rfl rfl ?_
  refine X_aload_n dX3_init_19 rfl rfl ?_
  refine X_putRF (Γ' := GC_59) ck_X3 f_X3_19 rfl rfl rfl rfl rfl (fun _ => rfl) (fun _ => rfl) dX3_init_20 rfl ?_
  refine X_aload_n dX3_init_23 rfl rfl ?_
  refine X_aload_n dX3_init_24 rfl rfl ?_
  refine X_putRF (Γ' := GC_60) ck_X3 f_X3_23 rfl rfl rfl rfl rfl (fun _ => rfl) (fun _ => rfl) dX3_init_25 rfl ?_
  exact X_vret rfl dX3_init_28 ⟨rfl, rfl, rfl⟩
set_option maxRecDepth 100000 in
set_option maxHeartbeats 4000000 in
theorem ctor_9 (sx : Nat × (Nat → Int32)) : Ct mX3_init 1 true (1, 480) sx GC_62 [.ref 26, .int (5 : Int32), .ref 1, .ref 8] SC_6 (fun r Γ σ => r = none ∧ Γ = GC_66 ∧ σ = SC_7) := by
  refine Ct.of (L := [some (.ref 26), some (.int (5 : Int32)), some (.ref 1), some (.ref 8)]) (by decide) (Nat.le_of_ble_eq_true rfl) rfl ?_
  refine X_aload_n dX3_init_0 rfl rfl ?_
  refine X_obj lk_X3_3 dX3_init_1 (by decide) (Nat.le_of_ble_eq_true rfl) ?_
  refine X_aload_n dX3_init_4 rfl rfl ?_
  refine X_sipush (v := 480) dX3_init_5 sipush_480 ?_
  refine X_newa (Γ' := GC_63) (atype := .int) (t0 := 0) (N' := 480) (bu := (0, 0)) ac_int (fun _ => rfl) (by intro C h; cases h) rfl rfl (fun _ _ => rfl) (by decide) (by decide) (by decide) dX3_init_8 ?_
  refine X_putRF (Γ' := GC_64) ck_X3 f_X3_9 rfl rfl rfl rfl rfl (fun _ => rfl) (fun _ => rfl) dX3_init_10 rfl ?_
  refine X_aload_n dX3_init_13 rfl rfl ?_
  refine X_iload_n dX3_init_14 rfl rfl ?_
  refine X_putIF ck_X3 f_X3_15 rfl rfl rfl rfl rfl rfl rfl dX3_init_15 ?_
  rw [show sI SC_6 26 0 5 = SC_7 from rfl]
  refine X_aload_n dX3_init_18 rfl rfl ?_
  refine X_aload_n dX3_init_19 rfl rfl ?_
  refine X_putRF (Γ' := GC_65) ck_X3 f_X3_19 rfl rfl rfl rfl rfl (fun _ => rfl) (fun _ => rfl) dX3_init_20 rfl ?_
  refine X_aload_n dX3_init_23 rfl rfl ?_
  refine X_aload_n dX3_init_24 rfl rfl ?_
  refine X_putRF (Γ' := GC_66) ck_X3 f_X3_23 rfl rfl rfl rfl rfl (fun _ => rfl) (fun _ => rfl) dX3_init_25 rfl ?_
  exact X_vret rfl dX3_init_28 ⟨rfl, rfl, rfl⟩
set_option maxRecDepth 100000 in
set_option maxHeartbeats 4000000 in
theorem ctor_10 (sx : Nat × (Nat → Int32)) : Ct mX6_init 1 true (2, 374) sx GC_68 [.ref 28, .ref 1, .ref 15] SC_7 (fun r Γ σ => r = none ∧ Γ = GC_74 ∧ σ = SC_7) := by
  refine Ct.of (L := [some (.ref 28), some (.ref 1), some (.ref 15)]) (by decide) (Nat.le_of_ble_eq_true rfl) rfl ?_
  refine X_aload_n dX6_init_0 rfl rfl ?_
  refine X_obj lk_X6_3 dX6_init_1 (by decide) (Nat.le_of_ble_eq_true rfl) ?_
  refine X_aload_n dX6_init_4 rfl rfl ?_
  refine X_sipush (v := 366) dX6_init_5 sipush_366 ?_
  refine X_newa (Γ' := GC_69) (atype := .int) (t0 := 0) (N' := 366) (bu := (1, 8)) ac_int (fun _ => rfl) (by intro C h; cases h) rfl rfl (fun _ _ => rfl) (by decide) (by decide) (by decide) dX6_init_8 ?_
  refine X_putRF (Γ' := GC_70) ck_X6 f_X6_11 rfl rfl rfl rfl rfl (fun _ => rfl) (fun _ => rfl) dX6_init_10 rfl ?_
  refine X_aload_n dX6_init_13 rfl rfl ?_
  refine X_bipush (v := 8) dX6_init_14 bipush_8 ?_
  refine X_newa (Γ' := GC_71) (atype := .int) (t0 := 0) (N' := 8) (bu := (0, 0)) ac_int (fun _ => rfl) (by intro C h; cases h) rfl rfl (fun _ _ => rfl) (by decide) (by decide) (by decide) dX6_init_16 ?_
  refine X_putRF (Γ' := GC_72) ck_X6 f_X6_15 rfl rfl rfl rfl rfl (fun _ => rfl) (fun _ => rfl) dX6_init_18 rfl ?_
  refine X_aload_n dX6_init_21 rfl rfl ?_
  refine X_aload_n dX6_init_22 rfl rfl ?_
  refine X_putRF (Γ' := GC_73) ck_X6 f_X6_18 rfl rfl rfl rfl rfl (fun _ => rfl) (fun _ => rfl) dX6_init_23 rfl ?_
  refine X_aload_n dX6_init_26 rfl rfl ?_
  refine X_aload_n dX6_init_27 rfl rfl ?_
  refine X_putRF (Γ' := GC_74) ck_X6 f_X6_22 rfl rfl rfl rfl rfl (fun _ => rfl) (fun _ => rfl) dX6_init_28 rfl ?_
  exact X_vret rfl dX6_init_31 ⟨rfl, rfl, rfl⟩
set_option maxRecDepth 100000 in
set_option maxHeartbeats 4000000 in
theorem ctor_11 (sx : Nat × (Nat → Int32)) : Ct mX5_init 1 true (0, 0) sx GC_76 [.ref 31, .ref 1, .ref 15, .ref 28] SC_7 (fun r Γ σ => r = none ∧ Γ = GC_79 ∧ σ = SC_7) := by
  refine Ct.of (L := [some (.ref 31), some (.ref 1), some (.ref 15), some (.ref 28)]) (by decide) (Nat.le_of_ble_eq_true rfl) rfl ?_
  refine X_aload_n dX5_init_0 rfl rfl ?_
  refine X_obj lk_X5_3 dX5_init_1 (by decide) (Nat.le_of_ble_eq_true rfl) ?_
  refine X_aload_n dX5_init_4 rfl rfl ?_
  refine X_aload_n dX5_init_5 rfl rfl ?_
  refine X_putRF (Γ' := GC_77) ck_X5 f_X5_9 rfl rfl rfl rfl rfl (fun _ => rfl) (fun _ => rfl) dX5_init_6 rfl ?_
  refine X_aload_n dX5_init_9 rfl rfl ?_
  refine X_aload_n dX5_init_10 rfl rfl ?_
  refine X_putRF (Γ' := GC_78) ck_X5 f_X5_15 rfl rfl rfl rfl rfl (fun _ => rfl) (fun _ => rfl) dX5_init_11 rfl ?_
  refine X_aload_n dX5_init_14 rfl rfl ?_
  refine X_aload_n dX5_init_15 rfl rfl ?_
  refine X_putRF (Γ' := GC_79) ck_X5 f_X5_19 rfl rfl rfl rfl rfl (fun _ => rfl) (fun _ => rfl) dX5_init_16 rfl ?_
  exact X_vret rfl dX5_init_19 ⟨rfl, rfl, rfl⟩
set_option maxRecDepth 100000 in
set_option maxHeartbeats 4000000 in
theorem ctor_12 (sx : Nat × (Nat → Int32)) : Ct mX1_init 1 true (3, 4102) sx GC_81 [.ref 32, .ref 1, .ref 15] SC_7 (fun r Γ σ => r = none ∧ Γ = GC_89 ∧ σ = SC_7) := by
  refine Ct.of (L := [some (.ref 32), some (.ref 1), some (.ref 15)]) (by decide) (Nat.le_of_ble_eq_true rfl) rfl ?_
  refine X_aload_n dX1_init_0 rfl rfl ?_
  refine X_obj lk_X1_7 dX1_init_1 (by decide) (Nat.le_of_ble_eq_true rfl) ?_
  refine X_aload_n dX1_init_4 rfl rfl ?_
  refine X_sipush (v := 2048) dX1_init_5 sipush_2048 ?_
  refine X_newa (Γ' := GC_82) (atype := .int) (t0 := 0) (N' := 2048) (bu := (2, 2054)) ac_int (fun _ => rfl) (by intro C h; cases h) rfl rfl (fun _ _ => rfl) (by decide) (by decide) (by decide) dX1_init_8 ?_
  refine X_putRF (Γ' := GC_83) ck_X1 f_X1_13 rfl rfl rfl rfl rfl (fun _ => rfl) (fun _ => rfl) dX1_init_10 rfl ?_
  refine X_aload_n dX1_init_13 rfl rfl ?_
  refine X_sipush (v := 2048) dX1_init_14 sipush_2048 ?_
  refine X_newa (Γ' := GC_84) (atype := .int) (t0 := 0) (N' := 2048) (bu := (1, 6)) ac_int (fun _ => rfl) (by intro C h; cases h) rfl rfl (fun _ _ => rfl) (by decide) (by decide) (by decide) dX1_init_17 ?_
  refine X_putRF (Γ' := GC_85) ck_X1 f_X1_17 rfl rfl rfl rfl rfl (fun _ => rfl) (fun _ => rfl) dX1_init_19 rfl ?_
  refine X_aload_n dX1_init_22 rfl rfl ?_
  refine X_bipush (v := 6) dX1_init_23 bipush_6 ?_
  refine X_newa (Γ' := GC_86) (atype := .int) (t0 := 0) (N' := 6) (bu := (0, 0)) ac_int (fun _ => rfl) (by intro C h; cases h) rfl rfl (fun _ _ => rfl) (by decide) (by decide) (by decide) dX1_init_25 ?_
  refine X_putRF (Γ' := GC_87) ck_X1 f_X1_20 rfl rfl rfl rfl rfl (fun _ => rfl) (fun _ => rfl) dX1_init_27 rfl ?_
  refine X_aload_n dX1_init_30 rfl rfl ?_
  refine X_aload_n dX1_init_31 rfl rfl ?_
  refine X_putRF (Γ' := GC_88) ck_X1 f_X1_23 rfl rfl rfl rfl rfl (fun _ => rfl) (fun _ => rfl) dX1_init_32 rfl ?_
  refine X_aload_n dX1_init_35 rfl rfl ?_
  refine X_aload_n dX1_init_36 rfl rfl ?_
  refine X_putRF (Γ' := GC_89) ck_X1 f_X1_27 rfl rfl rfl rfl rfl (fun _ => rfl) (fun _ => rfl) dX1_init_37 rfl ?_
  exact X_vret rfl dX1_init_40 ⟨rfl, rfl, rfl⟩
set_option maxRecDepth 100000 in
set_option maxHeartbeats 4000000 in
theorem ctor_13 (sx : Nat × (Nat → Int32)) : Ct mX2_init 1 true (1, 160) sx GC_91 [.ref 36, .ref 1] SC_7 (fun r Γ σ => r = none ∧ Γ = GC_94 ∧ σ = SC_7) := by
  refine Ct.of (L := [some (.ref 36), some (.ref 1)]) (by decide) (Nat.le_of_ble_eq_true rfl) rfl ?_
  refine X_aload_n dX2_init_0 rfl rfl ?_
  refine X_obj lk_X2_3 dX2_init_1 (by decide) (Nat.le_of_ble_eq_true rfl) ?_
  refine X_aload_n dX2_init_4 rfl rfl ?_
  refine X_sipush (v := 160) dX2_init_5 sipush_160 ?_
  refine X_newa (Γ' := GC_92) (atype := .int) (t0 := 0) (N' := 160) (bu := (0, 0)) ac_int (fun _ => rfl) (by intro C h; cases h) rfl rfl (fun _ _ => rfl) (by decide) (by decide) (by decide) dX2_init_8 ?_
  refine X_putRF (Γ' := GC_93) ck_X2 f_X2_11 rfl rfl rfl rfl rfl (fun _ => rfl) (fun _ => rfl) dX2_init_10 rfl ?_
  refine X_aload_n dX2_init_13 rfl rfl ?_
  refine X_aload_n dX2_init_14 rfl rfl ?_
  refine X_putRF (Γ' := GC_94) ck_X2 f_X2_15 rfl rfl rfl rfl rfl (fun _ => rfl) (fun _ => rfl) dX2_init_15 rfl ?_
  exact X_vret rfl dX2_init_18 ⟨rfl, rfl, rfl⟩
set_option maxRecDepth 100000 in
set_option maxHeartbeats 4000000 in
theorem ctor_14 (sx : Nat × (Nat → Int32)) : Ct mX4_init 1 true (5, 28) sx GC_96 [.ref 38, .ref 1, .ref 15] SC_7 (fun r Γ σ => r = none ∧ Γ = GC_108 ∧ σ = SC_8) := by
  refine Ct.of (L := [some (.ref 38), some (.ref 1), some (.ref 15)]) (by decide) (Nat.le_of_ble_eq_true rfl) rfl ?_
  refine X_aload_n dX4_init_0 rfl rfl ?_
  refine X_obj lk_X4_3 dX4_init_1 (by decide) (Nat.le_of_ble_eq_true rfl) ?_
  refine X_aload_n dX4_init_4 rfl rfl ?_
  refine X_iconst (v := 5) dX4_init_5 iconst_5 ?_
  refine X_newa (Γ' := GC_97) (atype := .int) (t0 := 0) (N' := 5) (bu := (4, 23)) ac_int (fun _ => rfl) (by intro C h; cases h) rfl rfl (fun _ _ => rfl) (by decide) (by decide) (by decide) dX4_init_6 ?_
  refine X_putRF (Γ' := GC_98) ck_X4 f_X4_11 rfl rfl rfl rfl rfl (fun _ => rfl) (fun _ => rfl) dX4_init_8 rfl ?_
  refine X_aload_n dX4_init_11 rfl rfl ?_
  refine X_bipush (v := -2) dX4_init_12 bipush_m2 ?_
  refine X_putI (P := fun σ' => σ' = SC_8) ck_X4 f_X4_15 rfl rfl rfl rfl rfl dX4_init_14 (bd_of rfl) (fun σ' e => ?_)
  subst e
  refine X_aload_n dX4_init_17 rfl rfl ?_
  refine X_bipush (v := 6) dX4_init_18 bipush_6 ?_
  refine X_newa (Γ' := GC_99) (atype := .int) (t0 := 0) (N' := 6) (bu := (3, 17)) ac_int (fun _ => rfl) (by intro C h; cases h) rfl rfl (fun _ _ => rfl) (by decide) (by decide) (by decide) dX4_init_20 ?_
  refine X_putRF (Γ' := GC_100) ck_X4 f_X4_19 rfl rfl rfl rfl rfl (fun _ => rfl) (fun _ => rfl) dX4_init_22 rfl ?_
  refine X_aload_n dX4_init_25 rfl rfl ?_
  refine X_bipush (v := 6) dX4_init_26 bipush_6 ?_
  refine X_newa (Γ' := GC_101) (atype := .int) (t0 := 0) (N' := 6) (bu := (2, 11)) ac_int (fun _ => rfl) (by intro C h; cases h) rfl rfl (fun _ _ => rfl) (by decide) (by decide) (by decide) dX4_init_28 ?_
  refine X_putRF (Γ' := GC_102) ck_X4 f_X4_22 rfl rfl rfl rfl rfl (fun _ => rfl) (fun _ => rfl) dX4_init_30 rfl ?_
  refine X_aload_n dX4_init_33 rfl rfl ?_
  refine X_bipush (v := 6) dX4_init_34 bipush_6 ?_
  refine X_newa (Γ' := GC_103) (atype := .int) (t0 := 0) (N' := 6) (bu := (1, 5)) ac_int (fun _ => rfl) (by intro C h; cases h) rfl rfl (fun _ _ => rfl) (by decide) (by decide) (by decide) dX4_init_36 ?_
  refine X_putRF (Γ' := GC_104) ck_X4 f_X4_25 rfl rfl rfl rfl rfl (fun _ => rfl) (fun _ => rfl) dX4_init_38 rfl ?_
  refine X_aload_n dX4_init_41 rfl rfl ?_
  refine X_iconst (v := 5) dX4_init_42 iconst_5 ?_
  refine X_newa (Γ' := GC_105) (atype := .int) (t0 := 0) (N' := 5) (bu := (0, 0)) ac_int (fun _ => rfl) (by intro C h; cases h) rfl rfl (fun _ _ => rfl) (by decide) (by decide) (by decide) dX4_init_43 ?_
  refine X_putRF (Γ' := GC_106) ck_X4 f_X4_28 rfl rfl rfl rfl rfl (fun _ => rfl) (fun _ => rfl) dX4_init_45 rfl ?_
  refine X_aload_n dX4_init_48 rfl rfl ?_
  refine X_aload_n dX4_init_49 rfl rfl ?_
  refine X_putRF (Γ' := GC_107) ck_X4 f_X4_31 rfl rfl rfl rfl rfl (fun _ => rfl) (fun _ => rfl) dX4_init_50 rfl ?_
  refine X_aload_n dX4_init_53 rfl rfl ?_
  refine X_aload_n dX4_init_54 rfl rfl ?_
  refine X_putRF (Γ' := GC_108) ck_X4 f_X4_35 rfl rfl rfl rfl rfl (fun _ => rfl) (fun _ => rfl) dX4_init_55 rfl ?_
  exact X_vret rfl dX4_init_58 ⟨rfl, rfl, rfl⟩
set_option maxRecDepth 100000 in
set_option maxHeartbeats 4000000 in
theorem ctor_15 (sx : Nat × (Nat → Int32)) : Ct mX10_init 1 true (1, 60) sx GC_112 [.ref 45] SC_8 (fun r Γ σ => r = none ∧ Γ = GC_114 ∧ σ = SC_9) := by
  refine Ct.of (L := [some (.ref 45)]) (by decide) (Nat.le_of_ble_eq_true rfl) rfl ?_
  refine X_aload_n dX10_init_0 rfl rfl ?_
  refine X_obj lk_X10_3 dX10_init_1 (by decide) (Nat.le_of_ble_eq_true rfl) ?_
  refine X_aload_n dX10_init_4 rfl rfl ?_
  refine X_bipush (v := -2) dX10_init_5 bipush_m2 ?_
  refine X_putI (P := fun σ' => σ' = SC_9) ck_X10 f_X10_11 rfl rfl rfl rfl rfl dX10_init_7 (bd_of rfl) (fun σ' e => ?_)
  subst e
  refine X_aload_n dX10_init_10 rfl rfl ?_
  refine X_bipush (v := 60) dX10_init_11 bipush_60 ?_
  refine X_newa (Γ' := GC_113) (atype := .long) (t0 := 1) (N' := 60) (bu := (0, 0)) ac_long (fun _ => rfl) (by intro C h; cases h) rfl rfl (fun _ _ => rfl) (by decide) (by decide) (by decide) dX10_init_13 ?_
  refine X_putRF (Γ' := GC_114) ck_X10 f_X10_15 rfl rfl rfl rfl rfl (fun _ => rfl) (fun _ => rfl) dX10_init_15 rfl ?_
  exact X_vret rfl dX10_init_18 ⟨rfl, rfl, rfl⟩
set_option maxRecDepth 100000 in
set_option maxHeartbeats 4000000 in
theorem ctor_16 (sx : Nat × (Nat → Int32)) : Ct mX10_init 1 true (1, 60) sx GC_116 [.ref 47] SC_9 (fun r Γ σ => r = none ∧ Γ = GC_118 ∧ σ = SC_10) := by
  refine Ct.of (L := [some (.ref 47)]) (by decide) (Nat.le_of_ble_eq_true rfl) rfl ?_
  refine X_aload_n dX10_init_0 rfl rfl ?_
  refine X_obj lk_X10_3 dX10_init_1 (by decide) (Nat.le_of_ble_eq_true rfl) ?_
  refine X_aload_n dX10_init_4 rfl rfl ?_
  refine X_bipush (v := -2) dX10_init_5 bipush_m2 ?_
  refine X_putI (P := fun σ' => σ' = SC_10) ck_X10 f_X10_11 rfl rfl rfl rfl rfl dX10_init_7 (bd_of rfl) (fun σ' e => ?_)
  subst e
  refine X_aload_n dX10_init_10 rfl rfl ?_
  refine X_bipush (v := 60) dX10_init_11 bipush_60 ?_
  refine X_newa (Γ' := GC_117) (atype := .long) (t0 := 1) (N' := 60) (bu := (0, 0)) ac_long (fun _ => rfl) (by intro C h; cases h) rfl rfl (fun _ _ => rfl) (by decide) (by decide) (by decide) dX10_init_13 ?_
  refine X_putRF (Γ' := GC_118) ck_X10 f_X10_15 rfl rfl rfl rfl rfl (fun _ => rfl) (fun _ => rfl) dX10_init_15 rfl ?_
  exact X_vret rfl dX10_init_18 ⟨rfl, rfl, rfl⟩
set_option maxRecDepth 100000 in
set_option maxHeartbeats 4000000 in
theorem ctor_17 (sx : Nat × (Nat → Int32)) : Ct mX10_init 1 true (1, 60) sx GC_120 [.ref 49] SC_10 (fun r Γ σ => r = none ∧ Γ = GC_122 ∧ σ = SC_11) := by
  refine Ct.of (L := [some (.ref 49)]) (by decide) (Nat.le_of_ble_eq_true rfl) rfl ?_
  refine X_aload_n dX10_init_0 rfl rfl ?_
  refine X_obj lk_X10_3 dX10_init_1 (by decide) (Nat.le_of_ble_eq_true rfl) ?_
  refine X_aload_n dX10_init_4 rfl rfl ?_
  refine X_bipush (v := -2) dX10_init_5 bipush_m2 ?_
  refine X_putI (P := fun σ' => σ' = SC_11) ck_X10 f_X10_11 rfl rfl rfl rfl rfl dX10_init_7 (bd_of rfl) (fun σ' e => ?_)
  subst e
  refine X_aload_n dX10_init_10 rfl rfl ?_
  refine X_bipush (v := 60) dX10_init_11 bipush_60 ?_
  refine X_newa (Γ' := GC_121) (atype := .long) (t0 := 1) (N' := 60) (bu := (0, 0)) ac_long (fun _ => rfl) (by intro C h; cases h) rfl rfl (fun _ _ => rfl) (by decide) (by decide) (by decide) dX10_init_13 ?_
  refine X_putRF (Γ' := GC_122) ck_X10 f_X10_15 rfl rfl rfl rfl rfl (fun _ => rfl) (fun _ => rfl) dX10_init_15 rfl ?_
  exact X_vret rfl dX10_init_18 ⟨rfl, rfl, rfl⟩
set_option maxRecDepth 100000 in
set_option maxHeartbeats 4000000 in
theorem ctor_18 (sx : Nat × (Nat → Int32)) : Ct mX10_init 1 true (1, 60) sx GC_124 [.ref 51] SC_11 (fun r Γ σ => r = none ∧ Γ = GC_126 ∧ σ = SC_12) := by
  refine Ct.of (L := [some (.ref 51)]) (by decide) (Nat.le_of_ble_eq_true rfl) rfl ?_
  refine X_aload_n dX10_init_0 rfl rfl ?_
  refine X_obj lk_X10_3 dX10_init_1 (by decide) (Nat.le_of_ble_eq_true rfl) ?_
  refine X_aload_n dX10_init_4 rfl rfl ?_
  refine X_bipush (v := -2) dX10_init_5 bipush_m2 ?_
  refine X_putI (P := fun σ' => σ' = SC_12) ck_X10 f_X10_11 rfl rfl rfl rfl rfl dX10_init_7 (bd_of rfl) (fun σ' e => ?_)
  subst e
  refine X_aload_n dX10_init_10 rfl rfl ?_
  refine X_bipush (v := 60) dX10_init_11 bipush_60 ?_
  refine X_newa (Γ' := GC_125) (atype := .long) (t0 := 1) (N' := 60) (bu := (0, 0)) ac_long (fun _ => rfl) (by intro C h; cases h) rfl rfl (fun _ _ => rfl) (by decide) (by decide) (by decide) dX10_init_13 ?_
  refine X_putRF (Γ' := GC_126) ck_X10 f_X10_15 rfl rfl rfl rfl rfl (fun _ => rfl) (fun _ => rfl) dX10_init_15 rfl ?_
  exact X_vret rfl dX10_init_18 ⟨rfl, rfl, rfl⟩
set_option maxRecDepth 100000 in
set_option maxHeartbeats 4000000 in
theorem ctor_19 (sx : Nat × (Nat → Int32)) : Ct mX10_init 1 true (1, 60) sx GC_128 [.ref 53] SC_12 (fun r Γ σ => r = none ∧ Γ = GC_130 ∧ σ = SC_13) := by
  refine Ct.of (L := [some (.ref 53)]) (by decide) (Nat.le_of_ble_eq_true rfl) rfl ?_
  refine X_aload_n dX10_init_0 rfl rfl ?_
  refine X_obj lk_X10_3 dX10_init_1 (by decide) (Nat.le_of_ble_eq_true rfl) ?_
  refine X_aload_n dX10_init_4 rfl rfl ?_
  refine X_bipush (v := -2) dX10_init_5 bipush_m2 ?_
  refine X_putI (P := fun σ' => σ' = SC_13) ck_X10 f_X10_11 rfl rfl rfl rfl rfl dX10_init_7 (bd_of rfl) (fun σ' e => ?_)
  subst e
  refine X_aload_n dX10_init_10 rfl rfl ?_
  refine X_bipush (v := 60) dX10_init_11 bipush_60 ?_
  refine X_newa (Γ' := GC_129) (atype := .long) (t0 := 1) (N' := 60) (bu := (0, 0)) ac_long (fun _ => rfl) (by intro C h; cases h) rfl rfl (fun _ _ => rfl) (by decide) (by decide) (by decide) dX10_init_13 ?_
  refine X_putRF (Γ' := GC_130) ck_X10 f_X10_15 rfl rfl rfl rfl rfl (fun _ => rfl) (fun _ => rfl) dX10_init_15 rfl ?_
  exact X_vret rfl dX10_init_18 ⟨rfl, rfl, rfl⟩
set_option maxRecDepth 100000 in
set_option maxHeartbeats 4000000 in
theorem ctor_20 (sx : Nat × (Nat → Int32)) : Ct mX10_init 1 true (1, 60) sx GC_132 [.ref 55] SC_13 (fun r Γ σ => r = none ∧ Γ = GC_134 ∧ σ = SC_14) := by
  refine Ct.of (L := [some (.ref 55)]) (by decide) (Nat.le_of_ble_eq_true rfl) rfl ?_
  refine X_aload_n dX10_init_0 rfl rfl ?_
  refine X_obj lk_X10_3 dX10_init_1 (by decide) (Nat.le_of_ble_eq_true rfl) ?_
  refine X_aload_n dX10_init_4 rfl rfl ?_
  refine X_bipush (v := -2) dX10_init_5 bipush_m2 ?_
  refine X_putI (P := fun σ' => σ' = SC_14) ck_X10 f_X10_11 rfl rfl rfl rfl rfl dX10_init_7 (bd_of rfl) (fun σ' e => ?_)
  subst e
  refine X_aload_n dX10_init_10 rfl rfl ?_
  refine X_bipush (v := 60) dX10_init_11 bipush_60 ?_
  refine X_newa (Γ' := GC_133) (atype := .long) (t0 := 1) (N' := 60) (bu := (0, 0)) ac_long (fun _ => rfl) (by intro C h; cases h) rfl rfl (fun _ _ => rfl) (by decide) (by decide) (by decide) dX10_init_13 ?_
  refine X_putRF (Γ' := GC_134) ck_X10 f_X10_15 rfl rfl rfl rfl rfl (fun _ => rfl) (fun _ => rfl) dX10_init_15 rfl ?_
  exact X_vret rfl dX10_init_18 ⟨rfl, rfl, rfl⟩
set_option maxRecDepth 100000 in
set_option maxHeartbeats 4000000 in
theorem ctor_21 (sx : Nat × (Nat → Int32)) : Ct mX0_init 1 true (2, 74) sx GC_136 [.ref 57] SC_14 (fun r Γ σ => r = none ∧ Γ = GC_140 ∧ σ = SC_14) := by
  refine Ct.of (L := [some (.ref 57)]) (by decide) (Nat.le_of_ble_eq_true rfl) rfl ?_
  refine X_aload_n dX0_init_0 rfl rfl ?_
  refine X_obj lk_X0_3 dX0_init_1 (by decide) (Nat.le_of_ble_eq_true rfl) ?_
  refine X_aload_n dX0_init_4 rfl rfl ?_
  refine X_bipush (v := 50) dX0_init_5 bipush_50 ?_
  refine X_newa (Γ' := GC_137) (atype := .int) (t0 := 0) (N' := 50) (bu := (1, 24)) ac_int (fun _ => rfl) (by intro C h; cases h) rfl rfl (fun _ _ => rfl) (by decide) (by decide) (by decide) dX0_init_7 ?_
  refine X_putRF (Γ' := GC_138) ck_X0 f_X0_11 rfl rfl rfl rfl rfl (fun _ => rfl) (fun _ => rfl) dX0_init_9 rfl ?_
  refine X_aload_n dX0_init_12 rfl rfl ?_
  refine X_bipush (v := 24) dX0_init_13 bipush_24 ?_
  refine X_newa (Γ' := GC_139) (atype := .int) (t0 := 0) (N' := 24) (bu := (0, 0)) ac_int (fun _ => rfl) (by intro C h; cases h) rfl rfl (fun _ _ => rfl) (by decide) (by decide) (by decide) dX0_init_15 ?_
  refine X_putRF (Γ' := GC_140) ck_X0 f_X0_15 rfl rfl rfl rfl rfl (fun _ => rfl) (fun _ => rfl) dX0_init_17 rfl ?_
  exact X_vret rfl dX0_init_20 ⟨rfl, rfl, rfl⟩
set_option maxRecDepth 100000 in
set_option maxHeartbeats 4000000 in
theorem ctor_22 (sx : Nat × (Nat → Int32)) : Ct mX11_init 2 true (59, 8754) sx GC_1 [.ref 0] SC_0 (fun r Γ σ => r = none ∧ Γ = GC_141 ∧ σ = SC_14) := by
  refine Ct.of (L := [some (.ref 0), none]) (by decide) (Nat.le_of_ble_eq_true rfl) rfl ?_
  refine X_aload_n dX11_init_0 rfl rfl ?_
  refine X_obj lk_X11_1 dX11_init_1 (by decide) (Nat.le_of_ble_eq_true rfl) ?_
  refine X_aload_n dX11_init_4 rfl rfl ?_
  refine X_new (Γ' := GC_2) (ks := ksb_X7) (bu := (58, 8743)) ck_X7 cl_X11_7 rfl rfl (fun E j hj => dv_X7 j hj) dX11_init_5 ?_
  refine X_dup dX11_init_8 rfl ?_
  refine X_callIN (av := []) (st := [.ref 1, .ref 0]) (bc := (6, 40)) (bu := (52, 8703)) c_X7_init rfl rfl n_X7_init lk_X11_9 dX11_init_9 rfl (by decide) (Nat.le_of_ble_eq_true rfl) rfl (ctor_1 sx) ?_
  rintro r Γ' σ' ⟨rfl, rfl, rfl⟩
  show Ex _ _ _ _ _ _ _ _ [.ref 1, .ref 0] _ _
  refine X_putRF (Γ' := GC_15) ck_X11 f_X11_10 rfl rfl rfl rfl rfl (fun _ => rfl) (fun _ => rfl) dX11_init_12 rfl ?_
  refine X_aload_n dX11_init_15 rfl rfl ?_
  refine X_new (Γ' := GC_16) (ks := ksb_X8) (bu := (51, 8694)) ck_X8 cl_X11_16 rfl rfl (fun E j hj => dv_X8 j hj) dX11_init_16 ?_
  refine X_dup dX11_init_19 rfl ?_
  refine X_callIN (av := []) (st := [.ref 8, .ref 0]) (bc := (2, 240)) (bu := (49, 8454)) c_X8_init rfl rfl n_X8_init lk_X11_18 dX11_init_20 rfl (by decide) (Nat.le_of_ble_eq_true rfl) rfl (ctor_2 sx) ?_
  rintro r Γ' σ' ⟨rfl, rfl, rfl⟩
  show Ex _ _ _ _ _ _ _ _ [.ref 8, .ref 0] _ _
  refine X_putRF (Γ' := GC_21) ck_X11 f_X11_19 rfl rfl rfl rfl rfl (fun _ => rfl) (fun _ => rfl) dX11_init_23 rfl ?_
  refine X_aload_n dX11_init_26 rfl rfl ?_
  refine X_new (Γ' := GC_22) (ks := ksb_X9) (bu := (48, 8446)) ck_X9 cl_X11_23 rfl rfl (fun E j hj => dv_X9 j hj) dX11_init_27 ?_
  refine X_dup dX11_init_30 rfl ?_
  refine X_callIN (av := []) (st := [.ref 11, .ref 0]) (bc := (2, 240)) (bu := (46, 8206)) c_X9_init rfl rfl n_X9_init lk_X11_25 dX11_init_31 rfl (by decide) (Nat.le_of_ble_eq_true rfl) rfl (ctor_3 sx) ?_
  rintro r Γ' σ' ⟨rfl, rfl, rfl⟩
  show Ex _ _ _ _ _ _ _ _ [.ref 11, .ref 0] _ _
  refine X_putRF (Γ' := GC_27) ck_X11 f_X11_26 rfl rfl rfl rfl rfl (fun _ => rfl) (fun _ => rfl) dX11_init_34 rfl ?_
  refine X_aload_n dX11_init_37 rfl rfl ?_
  refine X_bipush (v := 120) dX11_init_38 bipush_120 ?_
  refine X_newa (Γ' := GC_28) (atype := .int) (t0 := 0) (N' := 120) (bu := (45, 8086)) ac_int (fun _ => rfl) (by intro C h; cases h) rfl rfl (fun _ _ => rfl) (by decide) (by decide) (by decide) dX11_init_40 ?_
  refine X_putRF (Γ' := GC_29) ck_X11 f_X11_30 rfl rfl rfl rfl rfl (fun _ => rfl) (fun _ => rfl) dX11_init_42 rfl ?_
  refine X_aload_n dX11_init_45 rfl rfl ?_
  refine X_bipush (v := 6) dX11_init_46 bipush_6 ?_
  refine X_anew (Γ' := GC_30) (N' := 6) (t0 := 4) (bu := (44, 8080)) cl_X11_34.1 (Or.inl ⟨rfl, rfl⟩) rfl rfl (by decide) (by decide) (by decide) dX11_init_48 ?_
  refine X_putRF (Γ' := GC_31) ck_X11 f_X11_36 rfl rfl rfl rfl rfl (fun _ => rfl) (fun _ => rfl) dX11_init_51 rfl ?_
  refine X_iconst (v := 0) dX11_init_54 iconst_0 ?_
  refine X_istore_n (L' := [some (.ref 0), some (.int (0 : Int32))]) dX11_init_55 rfl (by decide) rfl ?_
  refine X_iload_n dX11_init_56 rfl rfl ?_
  refine X_bipush (v := 6) dX11_init_57 bipush_6 ?_
  refine X_icmp_ge (tgt := 90) (A := False) (B := True) dX11_init_59 (by decide) (by decide) (fun h => h.elim) (fun _ => ?_)
  refine X_aload_n dX11_init_62 rfl rfl ?_
  refine X_get (v := .ref 15) ck_X11 f_X11_36 rfl rfl (fun _ => rfl) dX11_init_63 ?_
  refine X_iload_n dX11_init_66 rfl rfl ?_
  refine X_new (Γ' := GC_32) (ks := ksb_X3) (bu := (43, 8073)) ck_X3 cl_X11_34 rfl rfl (fun E j hj => dv_X3 j hj) dX11_init_67 ?_
  refine X_dup dX11_init_70 rfl ?_
  refine X_iload_n dX11_init_71 rfl rfl ?_
  refine X_aload_n dX11_init_72 rfl rfl ?_
  refine X_get (v := .ref 1) ck_X11 f_X11_10 rfl rfl (fun _ => rfl) dX11_init_73 ?_
  refine X_aload_n dX11_init_76 rfl rfl ?_
  refine X_get (v := .ref 8) ck_X11 f_X11_19 rfl rfl (fun _ => rfl) dX11_init_77 ?_
  refine X_callI (av := [.int (0 : Int32), .ref 1, .ref 8]) (st := [.ref 16, .int (0 : Int32), .ref 15]) (bc := (1, 480)) (bu := (42, 7593)) c_X3_init rfl rfl n_X3_init lk_X11_40 dX11_init_80 rfl (by decide) (Nat.le_of_ble_eq_true rfl) rfl (ctor_4 sx) ?_
  rintro r Γ' σ' ⟨rfl, rfl, rfl⟩
  show Ex _ _ _ _ _ _ _ _ [.ref 16, .int (0 : Int32), .ref 15] _ _
  refine X_aast (Γ' := GC_37) (rs := []) (rs' := [] ++ [some 16]) (T := TX3) (N := 7) (ci := 3) rfl (Or.inl rfl) rfl rfl (by unfold vp_in; decide) (gd_app (by decide)) rfl dX11_init_83 ?_
  refine X_iinc (v := 1) (L' := [some (.ref 0), some (.int (1 : Int32))]) dX11_init_84 rfl (by decide) (by decide) rfl ?_
  refine X_goto (tgt := 56) dX11_init_87 (by decide) ?_
  refine X_iload_n dX11_init_56 rfl rfl ?_
  refine X_bipush (v := 6) dX11_init_57 bipush_6 ?_
  refine X_icmp_ge (tgt := 90) (A := False) (B := True) dX11_init_59 (by decide) (by decide) (fun h => h.elim) (fun _ => ?_)
  refine X_aload_n dX11_init_62 rfl rfl ?_
  refine X_get (v := .ref 15) ck_X11 f_X11_36 rfl rfl (fun _ => rfl) dX11_init_63 ?_
  refine X_iload_n dX11_init_66 rfl rfl ?_
  refine X_new (Γ' := GC_38) (ks := ksb_X3) (bu := (41, 7586)) ck_X3 cl_X11_34 rfl rfl (fun E j hj => dv_X3 j hj) dX11_init_67 ?_
  refine X_dup dX11_init_70 rfl ?_
  refine X_iload_n dX11_init_71 rfl rfl ?_
  refine X_aload_n dX11_init_72 rfl rfl ?_
  refine X_get (v := .ref 1) ck_X11 f_X11_10 rfl rfl (fun _ => rfl) dX11_init_73 ?_
  refine X_aload_n dX11_init_76 rfl rfl ?_
  refine X_get (v := .ref 8) ck_X11 f_X11_19 rfl rfl (fun _ => rfl) dX11_init_77 ?_
  refine X_callI (av := [.int (1 : Int32), .ref 1, .ref 8]) (st := [.ref 18, .int (1 : Int32), .ref 15]) (bc := (1, 480)) (bu := (40, 7106)) c_X3_init rfl rfl n_X3_init lk_X11_40 dX11_init_80 rfl (by decide) (Nat.le_of_ble_eq_true rfl) rfl (ctor_5 sx) ?_
  rintro r Γ' σ' ⟨rfl, rfl, rfl⟩
  show Ex _ _ _ _ _ _ _ _ [.ref 18, .int (1 : Int32), .ref 15] _ _
  refine X_aast (Γ' := GC_43) (rs := [some 16]) (rs' := [some 16] ++ [some 18]) (T := TX3) (N := 7) (ci := 3) rfl (Or.inl rfl) rfl rfl (by unfold vp_in; decide) (gd_app (by decide)) rfl dX11_init_83 ?_
  refine X_iinc (v := 2) (L' := [some (.ref 0), some (.int (2 : Int32))]) dX11_init_84 rfl (by decide) (by decide) rfl ?_
  refine X_goto (tgt := 56) dX11_init_87 (by decide) ?_
  refine X_iload_n dX11_init_56 rfl rfl ?_
  refine X_bipush (v := 6) dX11_init_57 bipush_6 ?_
  refine X_icmp_ge (tgt := 90) (A := False) (B := True) dX11_init_59 (by decide) (by decide) (fun h => h.elim) (fun _ => ?_)
  refine X_aload_n dX11_init_62 rfl rfl ?_
  refine X_get (v := .ref 15) ck_X11 f_X11_36 rfl rfl (fun _ => rfl) dX11_init_63 ?_
  refine X_iload_n dX11_init_66 rfl rfl ?_
  refine X_new (Γ' := GC_44) (ks := ksb_X3) (bu := (39, 7099)) ck_X3 cl_X11_34 rfl rfl (fun E j hj => dv_X3 j hj) dX11_init_67 ?_
  refine X_dup dX11_init_70 rfl ?_
  refine X_iload_n dX11_init_71 rfl rfl ?_
  refine X_aload_n dX11_init_72 rfl rfl ?_
  refine X_get (v := .ref 1) ck_X11 f_X11_10 rfl rfl (fun _ => rfl) dX11_init_73 ?_
  refine X_aload_n dX11_init_76 rfl rfl ?_
  refine X_get (v := .ref 8) ck_X11 f_X11_19 rfl rfl (fun _ => rfl) dX11_init_77 ?_
  refine X_callI (av := [.int (2 : Int32), .ref 1, .ref 8]) (st := [.ref 20, .int (2 : Int32), .ref 15]) (bc := (1, 480)) (bu := (38, 6619)) c_X3_init rfl rfl n_X3_init lk_X11_40 dX11_init_80 rfl (by decide) (Nat.le_of_ble_eq_true rfl) rfl (ctor_6 sx) ?_
  rintro r Γ' σ' ⟨rfl, rfl, rfl⟩
  show Ex _ _ _ _ _ _ _ _ [.ref 20, .int (2 : Int32), .ref 15] _ _
  refine X_aast (Γ' := GC_49) (rs := [some 16, some 18]) (rs' := [some 16, some 18] ++ [some 20]) (T := TX3) (N := 7) (ci := 3) rfl (Or.inl rfl) rfl rfl (by unfold vp_in; decide) (gd_app (by decide)) rfl dX11_init_83 ?_
  refine X_iinc (v := 3) (L' := [some (.ref 0), some (.int (3 : Int32))]) dX11_init_84 rfl (by decide) (by decide) rfl ?_
  refine X_goto (tgt := 56) dX11_init_87 (by decide) ?_
  refine X_iload_n dX11_init_56 rfl rfl ?_
  refine X_bipush (v := 6) dX11_init_57 bipush_6 ?_
  refine X_icmp_ge (tgt := 90) (A := False) (B := True) dX11_init_59 (by decide) (by decide) (fun h => h.elim) (fun _ => ?_)
  refine X_aload_n dX11_init_62 rfl rfl ?_
  refine X_get (v := .ref 15) ck_X11 f_X11_36 rfl rfl (fun _ => rfl) dX11_init_63 ?_
  refine X_iload_n dX11_init_66 rfl rfl ?_
  refine X_new (Γ' := GC_50) (ks := ksb_X3) (bu := (37, 6612)) ck_X3 cl_X11_34 rfl rfl (fun E j hj => dv_X3 j hj) dX11_init_67 ?_
  refine X_dup dX11_init_70 rfl ?_
  refine X_iload_n dX11_init_71 rfl rfl ?_
  refine X_aload_n dX11_init_72 rfl rfl ?_
  refine X_get (v := .ref 1) ck_X11 f_X11_10 rfl rfl (fun _ => rfl) dX11_init_73 ?_
  refine X_aload_n dX11_init_76 rfl rfl ?_
  refine X_get (v := .ref 8) ck_X11 f_X11_19 rfl rfl (fun _ => rfl) dX11_init_77 ?_
  refine X_callI (av := [.int (3 : Int32), .ref 1, .ref 8]) (st := [.ref 22, .int (3 : Int32), .ref 15]) (bc := (1, 480)) (bu := (36, 6132)) c_X3_init rfl rfl n_X3_init lk_X11_40 dX11_init_80 rfl (by decide) (Nat.le_of_ble_eq_true rfl) rfl (ctor_7 sx) ?_
  rintro r Γ' σ' ⟨rfl, rfl, rfl⟩
  show Ex _ _ _ _ _ _ _ _ [.ref 22, .int (3 : Int32), .ref 15] _ _
  refine X_aast (Γ' := GC_55) (rs := [some 16, some 18, some 20]) (rs' := [some 16, some 18, some 20] ++ [some 22]) (T := TX3) (N := 7) (ci := 3) rfl (Or.inl rfl) rfl rfl (by unfold vp_in; decide) (gd_app (by decide)) rfl dX11_init_83 ?_
  refine X_iinc (v := 4) (L' := [some (.ref 0), some (.int (4 : Int32))]) dX11_init_84 rfl (by decide) (by decide) rfl ?_
  refine X_goto (tgt := 56) dX11_init_87 (by decide) ?_
  refine X_iload_n dX11_init_56 rfl rfl ?_
  refine X_bipush (v := 6) dX11_init_57 bipush_6 ?_
  refine X_icmp_ge (tgt := 90) (A := False) (B := True) dX11_init_59 (by decide) (by decide) (fun h => h.elim) (fun _ => ?_)
  refine X_aload_n dX11_init_62 rfl rfl ?_
  refine X_get (v := .ref 15) ck_X11 f_X11_36 rfl rfl (fun _ => rfl) dX11_init_63 ?_
  refine X_iload_n dX11_init_66 rfl rfl ?_
  refine X_new (Γ' := GC_56) (ks := ksb_X3) (bu := (35, 6125)) ck_X3 cl_X11_34 rfl rfl (fun E j hj => dv_X3 j hj) dX11_init_67 ?_
  refine X_dup dX11_init_70 rfl ?_
  refine X_iload_n dX11_init_71 rfl rfl ?_
  refine X_aload_n dX11_init_72 rfl rfl ?_
  refine X_get (v := .ref 1) ck_X11 f_X11_10 rfl rfl (fun _ => rfl) dX11_init_73 ?_
  refine X_aload_n dX11_init_76 rfl rfl ?_
  refine X_get (v := .ref 8) ck_X11 f_X11_19 rfl rfl (fun _ => rfl) dX11_init_77 ?_
  refine X_callI (av := [.int (4 : Int32), .ref 1, .ref 8]) (st := [.ref 24, .int (4 : Int32), .ref 15]) (bc := (1, 480)) (bu := (34, 5645)) c_X3_init rfl rfl n_X3_init lk_X11_40 dX11_init_80 rfl (by decide) (Nat.le_of_ble_eq_true rfl) rfl (ctor_8 sx) ?_
  rintro r Γ' σ' ⟨rfl, rfl, rfl⟩
  show Ex _ _ _ _ _ _ _ _ [.ref 24, .int (4 : Int32), .ref 15] _ _
  refine X_aast (Γ' := GC_61) (rs := [some 16, some 18, some 20, some 22]) (rs' := [some 16, some 18, some 20, some 22] ++ [some 24]) (T := TX3) (N := 7) (ci := 3) rfl (Or.inl rfl) rfl rfl (by unfold vp_in; decide) (gd_app (by decide)) rfl dX11_init_83 ?_
  refine X_iinc (v := 5) (L' := [some (.ref 0), some (.int (5 : Int32))]) dX11_init_84 rfl (by decide) (by decide) rfl ?_
  refine X_goto (tgt := 56) dX11_init_87 (by decide) ?_
  refine X_iload_n dX11_init_56 rfl rfl ?_
  refine X_bipush (v := 6) dX11_init_57 bipush_6 ?_
  refine X_icmp_ge (tgt := 90) (A := False) (B := True) dX11_init_59 (by decide) (by decide) (fun h => h.elim) (fun _ => ?_)
  refine X_aload_n dX11_init_62 rfl rfl ?_
  refine X_get (v := .ref 15) ck_X11 f_X11_36 rfl rfl (fun _ => rfl) dX11_init_63 ?_
  refine X_iload_n dX11_init_66 rfl rfl ?_
  refine X_new (Γ' := GC_62) (ks := ksb_X3) (bu := (33, 5638)) ck_X3 cl_X11_34 rfl rfl (fun E j hj => dv_X3 j hj) dX11_init_67 ?_
  refine X_dup dX11_init_70 rfl ?_
  refine X_iload_n dX11_init_71 rfl rfl ?_
  refine X_aload_n dX11_init_72 rfl rfl ?_
  refine X_get (v := .ref 1) ck_X11 f_X11_10 rfl rfl (fun _ => rfl) dX11_init_73 ?_
  refine X_aload_n dX11_init_76 rfl rfl ?_
  refine X_get (v := .ref 8) ck_X11 f_X11_19 rfl rfl (fun _ => rfl) dX11_init_77 ?_
  refine X_callI (av := [.int (5 : Int32), .ref 1, .ref 8]) (st := [.ref 26, .int (5 : Int32), .ref 15]) (bc := (1, 480)) (bu := (32, 5158)) c_X3_init rfl rfl n_X3_init lk_X11_40 dX11_init_80 rfl (by decide) (Nat.le_of_ble_eq_true rfl) rfl (ctor_9 sx) ?_
  rintro r Γ' σ' ⟨rfl, rfl, rfl⟩
  show Ex _ _ _ _ _ _ _ _ [.ref 26, .int (5 : Int32), .ref 15] _ _
  refine X_aast (Γ' := GC_67) (rs := [some 16, some 18, some 20, some 22, some 24]) (rs' := [some 16, some 18, some 20, some 22, some 24] ++ [some 26]) (T := TX3) (N := 7) (ci := 3) rfl (Or.inl rfl) rfl rfl (by unfold vp_in; decide) (gd_app (by decide)) rfl dX11_init_83 ?_
  refine X_iinc (v := 6) (L' := [some (.ref 0), some (.int (6 : Int32))]) dX11_init_84 rfl (by decide) (by decide) rfl ?_
  refine X_goto (tgt := 56) dX11_init_87 (by decide) ?_
  refine X_iload_n dX11_init_56 rfl rfl ?_
  refine X_bipush (v := 6) dX11_init_57 bipush_6 ?_
  refine X_icmp_ge (tgt := 90) (A := True) (B := False) dX11_init_59 (by decide) (by decide) (fun _ => ?_) (fun h => h.elim)
  refine X_aload_n dX11_init_90 rfl rfl ?_
  refine X_new (Γ' := GC_68) (ks := ksb_X6) (bu := (31, 5154)) ck_X6 cl_X11_43 rfl rfl (fun E j hj => dv_X6 j hj) dX11_init_91 ?_
  refine X_dup dX11_init_94 rfl ?_
  refine X_aload_n dX11_init_95 rfl rfl ?_
  refine X_get (v := .ref 1) ck_X11 f_X11_10 rfl rfl (fun _ => rfl) dX11_init_96 ?_
  refine X_aload_n dX11_init_99 rfl rfl ?_
  refine X_get (v := .ref 15) ck_X11 f_X11_36 rfl rfl (fun _ => rfl) dX11_init_100 ?_
  refine X_callI (av := [.ref 1, .ref 15]) (st := [.ref 28, .ref 0]) (bc := (2, 374)) (bu := (29, 4780)) c_X6_init rfl rfl n_X6_init lk_X11_45 dX11_init_103 rfl (by decide) (Nat.le_of_ble_eq_true rfl) rfl (ctor_10 sx) ?_
  rintro r Γ' σ' ⟨rfl, rfl, rfl⟩
  show Ex _ _ _ _ _ _ _ _ [.ref 28, .ref 0] _ _
  refine X_putRF (Γ' := GC_75) ck_X11 f_X11_48 rfl rfl rfl rfl rfl (fun _ => rfl) (fun _ => rfl) dX11_init_106 rfl ?_
  refine X_aload_n dX11_init_109 rfl rfl ?_
  refine X_new (Γ' := GC_76) (ks := ksb_X5) (bu := (28, 4777)) ck_X5 cl_X11_52 rfl rfl (fun E j hj => dv_X5 j hj) dX11_init_110 ?_
  refine X_dup dX11_init_113 rfl ?_
  refine X_aload_n dX11_init_114 rfl rfl ?_
  refine X_get (v := .ref 1) ck_X11 f_X11_10 rfl rfl (fun _ => rfl) dX11_init_115 ?_
  refine X_aload_n dX11_init_118 rfl rfl ?_
  refine X_get (v := .ref 15) ck_X11 f_X11_36 rfl rfl (fun _ => rfl) dX11_init_119 ?_
  refine X_aload_n dX11_init_122 rfl rfl ?_
  refine X_get (v := .ref 28) ck_X11 f_X11_48 rfl rfl (fun _ => rfl) dX11_init_123 ?_
  refine X_callI (av := [.ref 1, .ref 15, .ref 28]) (st := [.ref 31, .ref 0]) (bc := (0, 0)) (bu := (28, 4777)) c_X5_init rfl rfl n_X5_init lk_X11_54 dX11_init_126 rfl (by decide) (Nat.le_of_ble_eq_true rfl) rfl (ctor_11 sx) ?_
  rintro r Γ' σ' ⟨rfl, rfl, rfl⟩
  show Ex _ _ _ _ _ _ _ _ [.ref 31, .ref 0] _ _
  refine X_putRF (Γ' := GC_80) ck_X11 f_X11_57 rfl rfl rfl rfl rfl (fun _ => rfl) (fun _ => rfl) dX11_init_129 rfl ?_
  refine X_aload_n dX11_init_132 rfl rfl ?_
  refine X_new (Γ' := GC_81) (ks := ksb_X1) (bu := (27, 4772)) ck_X1 cl_X11_61 rfl rfl (fun E j hj => dv_X1 j hj) dX11_init_133 ?_
  refine X_dup dX11_init_136 rfl ?_
  refine X_aload_n dX11_init_137 rfl rfl ?_
  refine X_get (v := .ref 1) ck_X11 f_X11_10 rfl rfl (fun _ => rfl) dX11_init_138 ?_
  refine X_aload_n dX11_init_141 rfl rfl ?_
  refine X_get (v := .ref 15) ck_X11 f_X11_36 rfl rfl (fun _ => rfl) dX11_init_142 ?_
  refine X_callI (av := [.ref 1, .ref 15]) (st := [.ref 32, .ref 0]) (bc := (3, 4102)) (bu := (24, 670)) c_X1_init rfl rfl n_X1_init lk_X11_63 dX11_init_145 rfl (by decide) (Nat.le_of_ble_eq_true rfl) rfl (ctor_12 sx) ?_
  rintro r Γ' σ' ⟨rfl, rfl, rfl⟩
  show Ex _ _ _ _ _ _ _ _ [.ref 32, .ref 0] _ _
  refine X_putRF (Γ' := GC_90) ck_X11 f_X11_64 rfl rfl rfl rfl rfl (fun _ => rfl) (fun _ => rfl) dX11_init_148 rfl ?_
  refine X_aload_n dX11_init_151 rfl rfl ?_
  refine X_new (Γ' := GC_91) (ks := ksb_X2) (bu := (23, 666)) ck_X2 cl_X11_68 rfl rfl (fun E j hj => dv_X2 j hj) dX11_init_152 ?_
  refine X_dup dX11_init_155 rfl ?_
  refine X_aload_n dX11_init_156 rfl rfl ?_
  refine X_get (v := .ref 1) ck_X11 f_X11_10 rfl rfl (fun _ => rfl) dX11_init_157 ?_
  refine X_callI (av := [.ref 1]) (st := [.ref 36, .ref 0]) (bc := (1, 160)) (bu := (22, 506)) c_X2_init rfl rfl n_X2_init lk_X11_70 dX11_init_160 rfl (by decide) (Nat.le_of_ble_eq_true rfl) rfl (ctor_13 sx) ?_
  rintro r Γ' σ' ⟨rfl, rfl, rfl⟩
  show Ex _ _ _ _ _ _ _ _ [.ref 36, .ref 0] _ _
  refine X_putRF (Γ' := GC_95) ck_X11 f_X11_73 rfl rfl rfl rfl rfl (fun _ => rfl) (fun _ => rfl) dX11_init_163 rfl ?_
  refine X_aload_n dX11_init_166 rfl rfl ?_
  refine X_new (Γ' := GC_96) (ks := ksb_X4) (bu := (21, 497)) ck_X4 cl_X11_77 rfl rfl (fun E j hj => dv_X4 j hj) dX11_init_167 ?_
  refine X_dup dX11_init_170 rfl ?_
  refine X_aload_n dX11_init_171 rfl rfl ?_
  refine X_get (v := .ref 1) ck_X11 f_X11_10 rfl rfl (fun _ => rfl) dX11_init_172 ?_
  refine X_aload_n dX11_init_175 rfl rfl ?_
  refine X_get (v := .ref 15) ck_X11 f_X11_36 rfl rfl (fun _ => rfl) dX11_init_176 ?_
  refine X_callI (av := [.ref 1, .ref 15]) (st := [.ref 38, .ref 0]) (bc := (5, 28)) (bu := (16, 469)) c_X4_init rfl rfl n_X4_init lk_X11_79 dX11_init_179 rfl (by decide) (Nat.le_of_ble_eq_true rfl) rfl (ctor_14 sx) ?_
  rintro r Γ' σ' ⟨rfl, rfl, rfl⟩
  show Ex _ _ _ _ _ _ _ _ [.ref 38, .ref 0] _ _
  refine X_putRF (Γ' := GC_109) ck_X11 f_X11_80 rfl rfl rfl rfl rfl (fun _ => rfl) (fun _ => rfl) dX11_init_182 rfl ?_
  refine X_aload_n dX11_init_185 rfl rfl ?_
  refine X_bipush (v := 6) dX11_init_186 bipush_6 ?_
  refine X_anew (Γ' := GC_110) (N' := 6) (t0 := 5) (bu := (15, 463)) cl_X11_84.1 (Or.inr ⟨rfl, rfl⟩) rfl rfl (by decide) (by decide) (by decide) dX11_init_188 ?_
  refine X_putRF (Γ' := GC_111) ck_X11 f_X11_86 rfl rfl rfl rfl rfl (fun _ => rfl) (fun _ => rfl) dX11_init_191 rfl ?_
  refine X_iconst (v := 0) dX11_init_194 iconst_0 ?_
  refine X_istore_n (L' := [some (.ref 0), some (.int (0 : Int32))]) dX11_init_195 rfl (by decide) rfl ?_
  refine X_iload_n dX11_init_196 rfl rfl ?_
  refine X_bipush (v := 6) dX11_init_197 bipush_6 ?_
  refine X_icmp_ge (tgt := 221) (A := False) (B := True) dX11_init_199 (by decide) (by decide) (fun h => h.elim) (fun _ => ?_)
  refine X_aload_n dX11_init_202 rfl rfl ?_
  refine X_get (v := .ref 44) ck_X11 f_X11_86 rfl rfl (fun _ => rfl) dX11_init_203 ?_
  refine X_iload_n dX11_init_206 rfl rfl ?_
  refine X_new (Γ' := GC_112) (ks := ksb_X10) (bu := (14, 459)) ck_X10 cl_X11_84 rfl rfl (fun E j hj => dv_X10 j hj) dX11_init_207 ?_
  refine X_dup dX11_init_210 rfl ?_
  refine X_callIN (av := []) (st := [.ref 45, .int (0 : Int32), .ref 44]) (bc := (1, 60)) (bu := (13, 399)) c_X10_init rfl rfl n_X10_init lk_X11_90 dX11_init_211 rfl (by decide) (Nat.le_of_ble_eq_true rfl) rfl (ctor_15 sx) ?_
  rintro r Γ' σ' ⟨rfl, rfl, rfl⟩
  show Ex _ _ _ _ _ _ _ _ [.ref 45, .int (0 : Int32), .ref 44] _ _
  refine X_aast (Γ' := GC_115) (rs := []) (rs' := [] ++ [some 45]) (T := TX10) (N := 4) (ci := 10) rfl (Or.inr rfl) rfl rfl (by unfold vp_in; decide) (gd_app (by decide)) rfl dX11_init_214 ?_
  refine X_iinc (v := 1) (L' := [some (.ref 0), some (.int (1 : Int32))]) dX11_init_215 rfl (by decide) (by decide) rfl ?_
  refine X_goto (tgt := 196) dX11_init_218 (by decide) ?_
  refine X_iload_n dX11_init_196 rfl rfl ?_
  refine X_bipush (v := 6) dX11_init_197 bipush_6 ?_
  refine X_icmp_ge (tgt := 221) (A := False) (B := True) dX11_init_199 (by decide) (by decide) (fun h => h.elim) (fun _ => ?_)
  refine X_aload_n dX11_init_202 rfl rfl ?_
  refine X_get (v := .ref 44) ck_X11 f_X11_86 rfl rfl (fun _ => rfl) dX11_init_203 ?_
  refine X_iload_n dX11_init_206 rfl rfl ?_
  refine X_new (Γ' := GC_116) (ks := ksb_X10) (bu := (12, 395)) ck_X10 cl_X11_84 rfl rfl (fun E j hj => dv_X10 j hj) dX11_init_207 ?_
  refine X_dup dX11_init_210 rfl ?_
  refine X_callIN (av := []) (st := [.ref 47, .int (1 : Int32), .ref 44]) (bc := (1, 60)) (bu := (11, 335)) c_X10_init rfl rfl n_X10_init lk_X11_90 dX11_init_211 rfl (by decide) (Nat.le_of_ble_eq_true rfl) rfl (ctor_16 sx) ?_
  rintro r Γ' σ' ⟨rfl, rfl, rfl⟩
  show Ex _ _ _ _ _ _ _ _ [.ref 47, .int (1 : Int32), .ref 44] _ _
  refine X_aast (Γ' := GC_119) (rs := [some 45]) (rs' := [some 45] ++ [some 47]) (T := TX10) (N := 4) (ci := 10) rfl (Or.inr rfl) rfl rfl (by unfold vp_in; decide) (gd_app (by decide)) rfl dX11_init_214 ?_
  refine X_iinc (v := 2) (L' := [some (.ref 0), some (.int (2 : Int32))]) dX11_init_215 rfl (by decide) (by decide) rfl ?_
  refine X_goto (tgt := 196) dX11_init_218 (by decide) ?_
  refine X_iload_n dX11_init_196 rfl rfl ?_
  refine X_bipush (v := 6) dX11_init_197 bipush_6 ?_
  refine X_icmp_ge (tgt := 221) (A := False) (B := True) dX11_init_199 (by decide) (by decide) (fun h => h.elim) (fun _ => ?_)
  refine X_aload_n dX11_init_202 rfl rfl ?_
  refine X_get (v := .ref 44) ck_X11 f_X11_86 rfl rfl (fun _ => rfl) dX11_init_203 ?_
  refine X_iload_n dX11_init_206 rfl rfl ?_
  refine X_new (Γ' := GC_120) (ks := ksb_X10) (bu := (10, 331)) ck_X10 cl_X11_84 rfl rfl (fun E j hj => dv_X10 j hj) dX11_init_207 ?_
  refine X_dup dX11_init_210 rfl ?_
  refine X_callIN (av := []) (st := [.ref 49, .int (2 : Int32), .ref 44]) (bc := (1, 60)) (bu := (9, 271)) c_X10_init rfl rfl n_X10_init lk_X11_90 dX11_init_211 rfl (by decide) (Nat.le_of_ble_eq_true rfl) rfl (ctor_17 sx) ?_
  rintro r Γ' σ' ⟨rfl, rfl, rfl⟩
  show Ex _ _ _ _ _ _ _ _ [.ref 49, .int (2 : Int32), .ref 44] _ _
  refine X_aast (Γ' := GC_123) (rs := [some 45, some 47]) (rs' := [some 45, some 47] ++ [some 49]) (T := TX10) (N := 4) (ci := 10) rfl (Or.inr rfl) rfl rfl (by unfold vp_in; decide) (gd_app (by decide)) rfl dX11_init_214 ?_
  refine X_iinc (v := 3) (L' := [some (.ref 0), some (.int (3 : Int32))]) dX11_init_215 rfl (by decide) (by decide) rfl ?_
  refine X_goto (tgt := 196) dX11_init_218 (by decide) ?_
  refine X_iload_n dX11_init_196 rfl rfl ?_
  refine X_bipush (v := 6) dX11_init_197 bipush_6 ?_
  refine X_icmp_ge (tgt := 221) (A := False) (B := True) dX11_init_199 (by decide) (by decide) (fun h => h.elim) (fun _ => ?_)
  refine X_aload_n dX11_init_202 rfl rfl ?_
  refine X_get (v := .ref 44) ck_X11 f_X11_86 rfl rfl (fun _ => rfl) dX11_init_203 ?_
  refine X_iload_n dX11_init_206 rfl rfl ?_
  refine X_new (Γ' := GC_124) (ks := ksb_X10) (bu := (8, 267)) ck_X10 cl_X11_84 rfl rfl (fun E j hj => dv_X10 j hj) dX11_init_207 ?_
  refine X_dup dX11_init_210 rfl ?_
  refine X_callIN (av := []) (st := [.ref 51, .int (3 : Int32), .ref 44]) (bc := (1, 60)) (bu := (7, 207)) c_X10_init rfl rfl n_X10_init lk_X11_90 dX11_init_211 rfl (by decide) (Nat.le_of_ble_eq_true rfl) rfl (ctor_18 sx) ?_
  rintro r Γ' σ' ⟨rfl, rfl, rfl⟩
  show Ex _ _ _ _ _ _ _ _ [.ref 51, .int (3 : Int32), .ref 44] _ _
  refine X_aast (Γ' := GC_127) (rs := [some 45, some 47, some 49]) (rs' := [some 45, some 47, some 49] ++ [some 51]) (T := TX10) (N := 4) (ci := 10) rfl (Or.inr rfl) rfl rfl (by unfold vp_in; decide) (gd_app (by decide)) rfl dX11_init_214 ?_
  refine X_iinc (v := 4) (L' := [some (.ref 0), some (.int (4 : Int32))]) dX11_init_215 rfl (by decide) (by decide) rfl ?_
  refine X_goto (tgt := 196) dX11_init_218 (by decide) ?_
  refine X_iload_n dX11_init_196 rfl rfl ?_
  refine X_bipush (v := 6) dX11_init_197 bipush_6 ?_
  refine X_icmp_ge (tgt := 221) (A := False) (B := True) dX11_init_199 (by decide) (by decide) (fun h => h.elim) (fun _ => ?_)
  refine X_aload_n dX11_init_202 rfl rfl ?_
  refine X_get (v := .ref 44) ck_X11 f_X11_86 rfl rfl (fun _ => rfl) dX11_init_203 ?_
  refine X_iload_n dX11_init_206 rfl rfl ?_
  refine X_new (Γ' := GC_128) (ks := ksb_X10) (bu := (6, 203)) ck_X10 cl_X11_84 rfl rfl (fun E j hj => dv_X10 j hj) dX11_init_207 ?_
  refine X_dup dX11_init_210 rfl ?_
  refine X_callIN (av := []) (st := [.ref 53, .int (4 : Int32), .ref 44]) (bc := (1, 60)) (bu := (5, 143)) c_X10_init rfl rfl n_X10_init lk_X11_90 dX11_init_211 rfl (by decide) (Nat.le_of_ble_eq_true rfl) rfl (ctor_19 sx) ?_
  rintro r Γ' σ' ⟨rfl, rfl, rfl⟩
  show Ex _ _ _ _ _ _ _ _ [.ref 53, .int (4 : Int32), .ref 44] _ _
  refine X_aast (Γ' := GC_131) (rs := [some 45, some 47, some 49, some 51]) (rs' := [some 45, some 47, some 49, some 51] ++ [some 53]) (T := TX10) (N := 4) (ci := 10) rfl (Or.inr rfl) rfl rfl (by unfold vp_in; decide) (gd_app (by decide)) rfl dX11_init_214 ?_
  refine X_iinc (v := 5) (L' := [some (.ref 0), some (.int (5 : Int32))]) dX11_init_215 rfl (by decide) (by decide) rfl ?_
  refine X_goto (tgt := 196) dX11_init_218 (by decide) ?_
  refine X_iload_n dX11_init_196 rfl rfl ?_
  refine X_bipush (v := 6) dX11_init_197 bipush_6 ?_
  refine X_icmp_ge (tgt := 221) (A := False) (B := True) dX11_init_199 (by decide) (by decide) (fun h => h.elim) (fun _ => ?_)
  refine X_aload_n dX11_init_202 rfl rfl ?_
  refine X_get (v := .ref 44) ck_X11 f_X11_86 rfl rfl (fun _ => rfl) dX11_init_203 ?_
  refine X_iload_n dX11_init_206 rfl rfl ?_
  refine X_new (Γ' := GC_132) (ks := ksb_X10) (bu := (4, 139)) ck_X10 cl_X11_84 rfl rfl (fun E j hj => dv_X10 j hj) dX11_init_207 ?_
  refine X_dup dX11_init_210 rfl ?_
  refine X_callIN (av := []) (st := [.ref 55, .int (5 : Int32), .ref 44]) (bc := (1, 60)) (bu := (3, 79)) c_X10_init rfl rfl n_X10_init lk_X11_90 dX11_init_211 rfl (by decide) (Nat.le_of_ble_eq_true rfl) rfl (ctor_20 sx) ?_
  rintro r Γ' σ' ⟨rfl, rfl, rfl⟩
  show Ex _ _ _ _ _ _ _ _ [.ref 55, .int (5 : Int32), .ref 44] _ _
  refine X_aast (Γ' := GC_135) (rs := [some 45, some 47, some 49, some 51, some 53]) (rs' := [some 45, some 47, some 49, some 51, some 53] ++ [some 55]) (T := TX10) (N := 4) (ci := 10) rfl (Or.inr rfl) rfl rfl (by unfold vp_in; decide) (gd_app (by decide)) rfl dX11_init_214 ?_
  refine X_iinc (v := 6) (L' := [some (.ref 0), some (.int (6 : Int32))]) dX11_init_215 rfl (by decide) (by decide) rfl ?_
  refine X_goto (tgt := 196) dX11_init_218 (by decide) ?_
  refine X_iload_n dX11_init_196 rfl rfl ?_
  refine X_bipush (v := 6) dX11_init_197 bipush_6 ?_
  refine X_icmp_ge (tgt := 221) (A := True) (B := False) dX11_init_199 (by decide) (by decide) (fun _ => ?_) (fun h => h.elim)
  refine X_aload_n dX11_init_221 rfl rfl ?_
  refine X_new (Γ' := GC_136) (ks := ksb_X0) (bu := (2, 74)) ck_X0 cl_X11_91 rfl rfl (fun E j hj => dv_X0 j hj) dX11_init_222 ?_
  refine X_dup dX11_init_225 rfl ?_
  refine X_callIN (av := []) (st := [.ref 57, .ref 0]) (bc := (2, 74)) (bu := (0, 0)) c_X0_init rfl rfl n_X0_init lk_X11_93 dX11_init_226 rfl (by decide) (Nat.le_of_ble_eq_true rfl) rfl (ctor_21 sx) ?_
  rintro r Γ' σ' ⟨rfl, rfl, rfl⟩
  show Ex _ _ _ _ _ _ _ _ [.ref 57, .ref 0] _ _
  refine X_putRF (Γ' := GC_141) ck_X11 f_X11_94 rfl rfl rfl rfl rfl (fun _ => rfl) (fun _ => rfl) dX11_init_229 rfl ?_
  exact X_vret rfl dX11_init_232 ⟨rfl, rfl, rfl⟩
set_option maxRecDepth 100000 in
set_option maxHeartbeats 4000000 in
theorem ctor_23 (sx : Nat × (Nat → Int32)) : Ct mX12_init 1 true (34, 5465) sx GC_142 [.ref 60] SC_14 (fun r Γ σ => r = none ∧ Γ = GC_210 ∧ σ = SC_23) := by
  refine Ct.of (L := [some (.ref 60)]) (by decide) (Nat.le_of_ble_eq_true rfl) rfl ?_
  refine X_aload_n dX12_init_0 rfl rfl ?_
  refine X_obj lk_X12_3 dX12_init_1 (by decide) (Nat.le_of_ble_eq_true rfl) ?_
  refine X_aload_n dX12_init_4 rfl rfl ?_
  refine X_bipush (v := 6) dX12_init_5 bipush_6 ?_
  refine X_newa (Γ' := GC_143) (atype := .int) (t0 := 0) (N' := 6) (bu := (33, 5459)) ac_int (fun _ => rfl) (by intro C h; cases h) rfl rfl (fun _ _ => rfl) (by decide) (by decide) (by decide) dX12_init_7 ?_
  refine X_putRF (Γ' := GC_144) ck_X12 f_X12_9 rfl rfl rfl rfl rfl (fun _ => rfl) (fun _ => rfl) dX12_init_9 rfl ?_
  refine X_aload_n dX12_init_12 rfl rfl ?_
  refine X_bipush (v := 6) dX12_init_13 bipush_6 ?_
  refine X_newa (Γ' := GC_145) (atype := .int) (t0 := 0) (N' := 6) (bu := (32, 5453)) ac_int (fun _ => rfl) (by intro C h; cases h) rfl rfl (fun _ _ => rfl) (by decide) (by decide) (by decide) dX12_init_15 ?_
  refine X_putRF (Γ' := GC_146) ck_X12 f_X12_15 rfl rfl rfl rfl rfl (fun _ => rfl) (fun _ => rfl) dX12_init_17 rfl ?_
  refine X_aload_n dX12_init_20 rfl rfl ?_
  refine X_bipush (v := 6) dX12_init_21 bipush_6 ?_
  refine X_newa (Γ' := GC_147) (atype := .int) (t0 := 0) (N' := 6) (bu := (31, 5447)) ac_int (fun _ => rfl) (by intro C h; cases h) rfl rfl (fun _ _ => rfl) (by decide) (by decide) (by decide) dX12_init_23 ?_
  refine X_putRF (Γ' := GC_148) ck_X12 f_X12_18 rfl rfl rfl rfl rfl (fun _ => rfl) (fun _ => rfl) dX12_init_25 rfl ?_
  refine X_aload_n dX12_init_28 rfl rfl ?_
  refine X_bipush (v := 6) dX12_init_29 bipush_6 ?_
  refine X_newa (Γ' := GC_149) (atype := .int) (t0 := 0) (N' := 6) (bu := (30, 5441)) ac_int (fun _ => rfl) (by intro C h; cases h) rfl rfl (fun _ _ => rfl) (by decide) (by decide) (by decide) dX12_init_31 ?_
  refine X_putRF (Γ' := GC_150) ck_X12 f_X12_21 rfl rfl rfl rfl rfl (fun _ => rfl) (fun _ => rfl) dX12_init_33 rfl ?_
  refine X_aload_n dX12_init_36 rfl rfl ?_
  refine X_bipush (v := 8) dX12_init_37 bipush_8 ?_
  refine X_newa (Γ' := GC_151) (atype := .int) (t0 := 0) (N' := 8) (bu := (29, 5433)) ac_int (fun _ => rfl) (by intro C h; cases h) rfl rfl (fun _ _ => rfl) (by decide) (by decide) (by decide) dX12_init_39 ?_
  refine X_putRF (Γ' := GC_152) ck_X12 f_X12_24 rfl rfl rfl rfl rfl (fun _ => rfl) (fun _ => rfl) dX12_init_41 rfl ?_
  refine X_aload_n dX12_init_44 rfl rfl ?_
  refine X_bipush (v := 8) dX12_init_45 bipush_8 ?_
  refine X_newa (Γ' := GC_153) (atype := .int) (t0 := 0) (N' := 8) (bu := (28, 5425)) ac_int (fun _ => rfl) (by intro C h; cases h) rfl rfl (fun _ _ => rfl) (by decide) (by decide) (by decide) dX12_init_47 ?_
  refine X_putRF (Γ' := GC_154) ck_X12 f_X12_27 rfl rfl rfl rfl rfl (fun _ => rfl) (fun _ => rfl) dX12_init_49 rfl ?_
  refine X_aload_n dX12_init_52 rfl rfl ?_
  refine X_iconst (v := 3) dX12_init_53 iconst_3 ?_
  refine X_newa (Γ' := GC_155) (atype := .int) (t0 := 0) (N' := 3) (bu := (27, 5422)) ac_int (fun _ => rfl) (by intro C h; cases h) rfl rfl (fun _ _ => rfl) (by decide) (by decide) (by decide) dX12_init_54 ?_
  refine X_dup dX12_init_56 rfl ?_
  refine X_iconst (v := 0) dX12_init_57 iconst_0 ?_
  refine X_iconst (v := 1) dX12_init_58 iconst_1 ?_
  refine X_iast (P := fun σ' => σ' = SC_15) (n := 3) (rs := []) rfl dX12_init_59 ⟨(by unfold vp_in; decide), bd_of rfl⟩ (fun σ' e => ?_)
  subst e
  refine X_dup dX12_init_60 rfl ?_
  refine X_iconst (v := 1) dX12_init_61 iconst_1 ?_
  refine X_iconst (v := 0) dX12_init_62 iconst_0 ?_
  refine X_iast (P := fun σ' => σ' = SC_16) (n := 3) (rs := []) rfl dX12_init_63 ⟨(by unfold vp_in; decide), bd_of rfl⟩ (fun σ' e => ?_)
  subst e
  refine X_dup dX12_init_64 rfl ?_
  refine X_iconst (v := 2) dX12_init_65 iconst_2 ?_
  refine X_iconst (v := 0) dX12_init_66 iconst_0 ?_
  refine X_iast (P := fun σ' => σ' = SC_17) (n := 3) (rs := []) rfl dX12_init_67 ⟨(by unfold vp_in; decide), bd_of rfl⟩ (fun σ' e => ?_)
  subst e
  refine X_putRF (Γ' := GC_156) ck_X12 f_X12_30 rfl rfl rfl rfl rfl (fun _ => rfl) (fun _ => rfl) dX12_init_68 rfl ?_
  refine X_aload_n dX12_init_71 rfl rfl ?_
  refine X_bipush (v := 40) dX12_init_72 bipush_40 ?_
  refine X_newa (Γ' := GC_157) (atype := .int) (t0 := 0) (N' := 40) (bu := (26, 5382)) ac_int (fun _ => rfl) (by intro C h; cases h) rfl rfl (fun _ _ => rfl) (by decide) (by decide) (by decide) dX12_init_74 ?_
  refine X_putRF (Γ' := GC_158) ck_X12 f_X12_33 rfl rfl rfl rfl rfl (fun _ => rfl) (fun _ => rfl) dX12_init_76 rfl ?_
  refine X_aload_n dX12_init_79 rfl rfl ?_
  refine X_bipush (v := 40) dX12_init_80 bipush_40 ?_
  refine X_newa (Γ' := GC_159) (atype := .int) (t0 := 0) (N' := 40) (bu := (25, 5342)) ac_int (fun _ => rfl) (by intro C h; cases h) rfl rfl (fun _ _ => rfl) (by decide) (by decide) (by decide) dX12_init_82 ?_
  refine X_putRF (Γ' := GC_160) ck_X12 f_X12_36 rfl rfl rfl rfl rfl (fun _ => rfl) (fun _ => rfl) dX12_init_84 rfl ?_
  refine X_aload_n dX12_init_87 rfl rfl ?_
  refine X_bipush (v := 40) dX12_init_88 bipush_40 ?_
  refine X_newa (Γ' := GC_161) (atype := .int) (t0 := 0) (N' := 40) (bu := (24, 5302)) ac_int (fun _ => rfl) (by intro C h; cases h) rfl rfl (fun _ _ => rfl) (by decide) (by decide) (by decide) dX12_init_90 ?_
  refine X_putRF (Γ' := GC_162) ck_X12 f_X12_39 rfl rfl rfl rfl rfl (fun _ => rfl) (fun _ => rfl) dX12_init_92 rfl ?_
  refine X_aload_n dX12_init_95 rfl rfl ?_
  refine X_bipush (v := 40) dX12_init_96 bipush_40 ?_
  refine X_newa (Γ' := GC_163) (atype := .int) (t0 := 0) (N' := 40) (bu := (23, 5262)) ac_int (fun _ => rfl) (by intro C h; cases h) rfl rfl (fun _ _ => rfl) (by decide) (by decide) (by decide) dX12_init_98 ?_
  refine X_putRF (Γ' := GC_164) ck_X12 f_X12_42 rfl rfl rfl rfl rfl (fun _ => rfl) (fun _ => rfl) dX12_init_100 rfl ?_
  refine X_aload_n dX12_init_103 rfl rfl ?_
  refine X_bipush (v := 120) dX12_init_104 bipush_120 ?_
  refine X_newa (Γ' := GC_165) (atype := .byte) (t0 := 2) (N' := 120) (bu := (22, 5142)) ac_byte (fun _ => rfl) (by intro C h; cases h) rfl rfl (fun _ _ => rfl) (by decide) (by decide) (by decide) dX12_init_106 ?_
  refine X_putRF (Γ' := GC_166) ck_X12 f_X12_45 rfl rfl rfl rfl rfl (fun _ => rfl) (fun _ => rfl) dX12_init_108 rfl ?_
  refine X_aload_n dX12_init_111 rfl rfl ?_
  refine X_sipush (v := 260) dX12_init_112 sipush_260 ?_
  refine X_newa (Γ' := GC_167) (atype := .byte) (t0 := 2) (N' := 260) (bu := (21, 4882)) ac_byte (fun _ => rfl) (by intro C h; cases h) rfl rfl (fun _ _ => rfl) (by decide) (by decide) (by decide) dX12_init_115 ?_
  refine X_putRF (Γ' := GC_168) ck_X12 f_X12_49 rfl rfl rfl rfl rfl (fun _ => rfl) (fun _ => rfl) dX12_init_117 rfl ?_
  refine X_aload_n dX12_init_120 rfl rfl ?_
  refine X_sipush (v := 260) dX12_init_121 sipush_260 ?_
  refine X_newa (Γ' := GC_169) (atype := .int) (t0 := 0) (N' := 260) (bu := (20, 4622)) ac_int (fun _ => rfl) (by intro C h; cases h) rfl rfl (fun _ _ => rfl) (by decide) (by decide) (by decide) dX12_init_124 ?_
  refine X_putRF (Γ' := GC_170) ck_X12 f_X12_52 rfl rfl rfl rfl rfl (fun _ => rfl) (fun _ => rfl) dX12_init_126 rfl ?_
  refine X_aload_n dX12_init_129 rfl rfl ?_
  refine X_iconst (v := 2) dX12_init_130 iconst_2 ?_
  refine X_newa (Γ' := GC_171) (atype := .int) (t0 := 0) (N' := 2) (bu := (19, 4620)) ac_int (fun _ => rfl) (by intro C h; cases h) rfl rfl (fun _ _ => rfl) (by decide) (by decide) (by decide) dX12_init_131 ?_
  refine X_putRF (Γ' := GC_172) ck_X12 f_X12_55 rfl rfl rfl rfl rfl (fun _ => rfl) (fun _ => rfl) dX12_init_133 rfl ?_
  refine X_aload_n dX12_init_136 rfl rfl ?_
  refine X_bipush (v := 122) dX12_init_137 bipush_122 ?_
  refine X_newa (Γ' := GC_173) (atype := .short) (t0 := 3) (N' := 122) (bu := (18, 4498)) ac_short (fun _ => rfl) (by intro C h; cases h) rfl rfl (fun _ _ => rfl) (by decide) (by decide) (by decide) dX12_init_139 ?_
  refine X_putRF (Γ' := GC_174) ck_X12 f_X12_58 rfl rfl rfl rfl rfl (fun _ => rfl) (fun _ => rfl) dX12_init_141 rfl ?_
  refine X_aload_n dX12_init_144 rfl rfl ?_
  refine X_bipush (v := 122) dX12_init_145 bipush_122 ?_
  refine X_newa (Γ' := GC_175) (atype := .short) (t0 := 3) (N' := 122) (bu := (17, 4376)) ac_short (fun _ => rfl) (by intro C h; cases h) rfl rfl (fun _ _ => rfl) (by decide) (by decide) (by decide) dX12_init_147 ?_
  refine X_putRF (Γ' := GC_176) ck_X12 f_X12_62 rfl rfl rfl rfl rfl (fun _ => rfl) (fun _ => rfl) dX12_init_149 rfl ?_
  refine X_aload_n dX12_init_152 rfl rfl ?_
  refine X_bipush (v := 6) dX12_init_153 bipush_6 ?_
  refine X_newa (Γ' := GC_177) (atype := .int) (t0 := 0) (N' := 6) (bu := (16, 4370)) ac_int (fun _ => rfl) (by intro C h; cases h) rfl rfl (fun _ _ => rfl) (by decide) (by decide) (by decide) dX12_init_155 ?_
  refine X_putRF (Γ' := GC_178) ck_X12 f_X12_65 rfl rfl rfl rfl rfl (fun _ => rfl) (fun _ => rfl) dX12_init_157 rfl ?_
  refine X_aload_n dX12_init_160 rfl rfl ?_
  refine X_sipush (v := 130) dX12_init_161 sipush_130 ?_
  refine X_newa (Γ' := GC_179) (atype := .int) (t0 := 0) (N' := 130) (bu := (15, 4240)) ac_int (fun _ => rfl) (by intro C h; cases h) rfl rfl (fun _ _ => rfl) (by decide) (by decide) (by decide) dX12_init_164 ?_
  refine X_putRF (Γ' := GC_180) ck_X12 f_X12_68 rfl rfl rfl rfl rfl (fun _ => rfl) (fun _ => rfl) dX12_init_166 rfl ?_
  refine X_aload_n dX12_init_169 rfl rfl ?_
  refine X_sipush (v := 366) dX12_init_170 sipush_366 ?_
  refine X_newa (Γ' := GC_181) (atype := .int) (t0 := 0) (N' := 366) (bu := (14, 3874)) ac_int (fun _ => rfl) (by intro C h; cases h) rfl rfl (fun _ _ => rfl) (by decide) (by decide) (by decide) dX12_init_173 ?_
  refine X_putRF (Γ' := GC_182) ck_X12 f_X12_71 rfl rfl rfl rfl rfl (fun _ => rfl) (fun _ => rfl) dX12_init_175 rfl ?_
  refine X_aload_n dX12_init_178 rfl rfl ?_
  refine X_sipush (v := 3328) dX12_init_179 sipush_3328 ?_
  refine X_newa (Γ' := GC_183) (atype := .int) (t0 := 0) (N' := 3328) (bu := (13, 546)) ac_int (fun _ => rfl) (by intro C h; cases h) rfl rfl (fun _ _ => rfl) (by decide) (by decide) (by decide) dX12_init_182 ?_
  refine X_putRF (Γ' := GC_184) ck_X12 f_X12_74 rfl rfl rfl rfl rfl (fun _ => rfl) (fun _ => rfl) dX12_init_184 rfl ?_
  refine X_aload_n dX12_init_187 rfl rfl ?_
  refine X_bipush (v := 6) dX12_init_188 bipush_6 ?_
  refine X_newa (Γ' := GC_185) (atype := .int) (t0 := 0) (N' := 6) (bu := (12, 540)) ac_int (fun _ => rfl) (by intro C h; cases h) rfl rfl (fun _ _ => rfl) (by decide) (by decide) (by decide) dX12_init_190 ?_
  refine X_putRF (Γ' := GC_186) ck_X12 f_X12_77 rfl rfl rfl rfl rfl (fun _ => rfl) (fun _ => rfl) dX12_init_192 rfl ?_
  refine X_aload_n dX12_init_195 rfl rfl ?_
  refine X_bipush (v := 6) dX12_init_196 bipush_6 ?_
  refine X_newa (Γ' := GC_187) (atype := .int) (t0 := 0) (N' := 6) (bu := (11, 534)) ac_int (fun _ => rfl) (by intro C h; cases h) rfl rfl (fun _ _ => rfl) (by decide) (by decide) (by decide) dX12_init_198 ?_
  refine X_putRF (Γ' := GC_188) ck_X12 f_X12_80 rfl rfl rfl rfl rfl (fun _ => rfl) (fun _ => rfl) dX12_init_200 rfl ?_
  refine X_aload_n dX12_init_203 rfl rfl ?_
  refine X_iconst (v := 5) dX12_init_204 iconst_5 ?_
  refine X_newa (Γ' := GC_189) (atype := .int) (t0 := 0) (N' := 5) (bu := (10, 529)) ac_int (fun _ => rfl) (by intro C h; cases h) rfl rfl (fun _ _ => rfl) (by decide) (by decide) (by decide) dX12_init_205 ?_
  refine X_putRF (Γ' := GC_190) ck_X12 f_X12_83 rfl rfl rfl rfl rfl (fun _ => rfl) (fun _ => rfl) dX12_init_207 rfl ?_
  refine X_aload_n dX12_init_210 rfl rfl ?_
  refine X_bipush (v := 6) dX12_init_211 bipush_6 ?_
  refine X_newa (Γ' := GC_191) (atype := .int) (t0 := 0) (N' := 6) (bu := (9, 523)) ac_int (fun _ => rfl) (by intro C h; cases h) rfl rfl (fun _ _ => rfl) (by decide) (by decide) (by decide) dX12_init_213 ?_
  refine X_putRF (Γ' := GC_192) ck_X12 f_X12_86 rfl rfl rfl rfl rfl (fun _ => rfl) (fun _ => rfl) dX12_init_215 rfl ?_
  refine X_aload_n dX12_init_218 rfl rfl ?_
  refine X_bipush (v := 6) dX12_init_219 bipush_6 ?_
  refine X_newa (Γ' := GC_193) (atype := .int) (t0 := 0) (N' := 6) (bu := (8, 517)) ac_int (fun _ => rfl) (by intro C h; cases h) rfl rfl (fun _ _ => rfl) (by decide) (by decide) (by decide) dX12_init_221 ?_
  refine X_putRF (Γ' := GC_194) ck_X12 f_X12_89 rfl rfl rfl rfl rfl (fun _ => rfl) (fun _ => rfl) dX12_init_223 rfl ?_
  refine X_aload_n dX12_init_226 rfl rfl ?_
  refine X_bipush (v := 6) dX12_init_227 bipush_6 ?_
  refine X_newa (Γ' := GC_195) (atype := .int) (t0 := 0) (N' := 6) (bu := (7, 511)) ac_int (fun _ => rfl) (by intro C h; cases h) rfl rfl (fun _ _ => rfl) (by decide) (by decide) (by decide) dX12_init_229 ?_
  refine X_putRF (Γ' := GC_196) ck_X12 f_X12_92 rfl rfl rfl rfl rfl (fun _ => rfl) (fun _ => rfl) dX12_init_231 rfl ?_
  refine X_aload_n dX12_init_234 rfl rfl ?_
  refine X_iconst (v := 5) dX12_init_235 iconst_5 ?_
  refine X_newa (Γ' := GC_197) (atype := .int) (t0 := 0) (N' := 5) (bu := (6, 506)) ac_int (fun _ => rfl) (by intro C h; cases h) rfl rfl (fun _ _ => rfl) (by decide) (by decide) (by decide) dX12_init_236 ?_
  refine X_putRF (Γ' := GC_198) ck_X12 f_X12_95 rfl rfl rfl rfl rfl (fun _ => rfl) (fun _ => rfl) dX12_init_238 rfl ?_
  refine X_aload_n dX12_init_241 rfl rfl ?_
  refine X_bipush (v := 50) dX12_init_242 bipush_50 ?_
  refine X_newa (Γ' := GC_199) (atype := .int) (t0 := 0) (N' := 50) (bu := (5, 456)) ac_int (fun _ => rfl) (by intro C h; cases h) rfl rfl (fun _ _ => rfl) (by decide) (by decide) (by decide) dX12_init_244 ?_
  refine X_putRF (Γ' := GC_200) ck_X12 f_X12_98 rfl rfl rfl rfl rfl (fun _ => rfl) (fun _ => rfl) dX12_init_246 rfl ?_
  refine X_aload_n dX12_init_249 rfl rfl ?_
  refine X_bipush (v := 24) dX12_init_250 bipush_24 ?_
  refine X_newa (Γ' := GC_201) (atype := .int) (t0 := 0) (N' := 24) (bu := (4, 432)) ac_int (fun _ => rfl) (by intro C h; cases h) rfl rfl (fun _ _ => rfl) (by decide) (by decide) (by decide) dX12_init_252 ?_
  refine X_putRF (Γ' := GC_202) ck_X12 f_X12_101 rfl rfl rfl rfl rfl (fun _ => rfl) (fun _ => rfl) dX12_init_254 rfl ?_
  refine X_aload_n dX12_init_257 rfl rfl ?_
  refine X_bipush (v := 6) dX12_init_258 bipush_6 ?_
  refine X_newa (Γ' := GC_203) (atype := .int) (t0 := 0) (N' := 6) (bu := (3, 426)) ac_int (fun _ => rfl) (by intro C h; cases h) rfl rfl (fun _ _ => rfl) (by decide) (by decide) (by decide) dX12_init_260 ?_
  refine X_dup dX12_init_262 rfl ?_
  refine X_iconst (v := 0) dX12_init_263 iconst_0 ?_
  refine X_iconst (v := -1) dX12_init_264 iconst_m1 ?_
  refine X_iast (P := fun σ' => σ' = SC_18) (n := 6) (rs := []) rfl dX12_init_265 ⟨(by unfold vp_in; decide), bd_of rfl⟩ (fun σ' e => ?_)
  subst e
  refine X_dup dX12_init_266 rfl ?_
  refine X_iconst (v := 1) dX12_init_267 iconst_1 ?_
  refine X_iconst (v := -1) dX12_init_268 iconst_m1 ?_
  refine X_iast (P := fun σ' => σ' = SC_19) (n := 6) (rs := []) rfl dX12_init_269 ⟨(by unfold vp_in; decide), bd_of rfl⟩ (fun σ' e => ?_)
  subst e
  refine X_dup dX12_init_270 rfl ?_
  refine X_iconst (v := 2) dX12_init_271 iconst_2 ?_
  refine X_iconst (v := -1) dX12_init_272 iconst_m1 ?_
  refine X_iast (P := fun σ' => σ' = SC_20) (n := 6) (rs := []) rfl dX12_init_273 ⟨(by unfold vp_in; decide), bd_of rfl⟩ (fun σ' e => ?_)
  subst e
  refine X_dup dX12_init_274 rfl ?_
  refine X_iconst (v := 3) dX12_init_275 iconst_3 ?_
  refine X_iconst (v := -1) dX12_init_276 iconst_m1 ?_
  refine X_iast (P := fun σ' => σ' = SC_21) (n := 6) (rs := []) rfl dX12_init_277 ⟨(by unfold vp_in; decide), bd_of rfl⟩ (fun σ' e => ?_)
  subst e
  refine X_dup dX12_init_278 rfl ?_
  refine X_iconst (v := 4) dX12_init_279 iconst_4 ?_
  refine X_iconst (v := -1) dX12_init_280 iconst_m1 ?_
  refine X_iast (P := fun σ' => σ' = SC_22) (n := 6) (rs := []) rfl dX12_init_281 ⟨(by unfold vp_in; decide), bd_of rfl⟩ (fun σ' e => ?_)
  subst e
  refine X_dup dX12_init_282 rfl ?_
  refine X_iconst (v := 5) dX12_init_283 iconst_5 ?_
  refine X_iconst (v := -1) dX12_init_284 iconst_m1 ?_
  refine X_iast (P := fun σ' => σ' = SC_23) (n := 6) (rs := []) rfl dX12_init_285 ⟨(by unfold vp_in; decide), bd_of rfl⟩ (fun σ' e => ?_)
  subst e
  refine X_putRF (Γ' := GC_204) ck_X12 f_X12_104 rfl rfl rfl rfl rfl (fun _ => rfl) (fun _ => rfl) dX12_init_286 rfl ?_
  refine X_aload_n dX12_init_289 rfl rfl ?_
  refine X_bipush (v := 6) dX12_init_290 bipush_6 ?_
  refine X_newa (Γ' := GC_205) (atype := .int) (t0 := 0) (N' := 6) (bu := (2, 420)) ac_int (fun _ => rfl) (by intro C h; cases h) rfl rfl (fun _ _ => rfl) (by decide) (by decide) (by decide) dX12_init_292 ?_
  refine X_putRF (Γ' := GC_206) ck_X12 f_X12_107 rfl rfl rfl rfl rfl (fun _ => rfl) (fun _ => rfl) dX12_init_294 rfl ?_
  refine X_aload_n dX12_init_297 rfl rfl ?_
  refine X_sipush (v := 360) dX12_init_298 sipush_360 ?_
  refine X_newa (Γ' := GC_207) (atype := .long) (t0 := 1) (N' := 360) (bu := (1, 60)) ac_long (fun _ => rfl) (by intro C h; cases h) rfl rfl (fun _ _ => rfl) (by decide) (by decide) (by decide) dX12_init_301 ?_
  refine X_putRF (Γ' := GC_208) ck_X12 f_X12_110 rfl rfl rfl rfl rfl (fun _ => rfl) (fun _ => rfl) dX12_init_303 rfl ?_
  refine X_aload_n dX12_init_306 rfl rfl ?_
  refine X_bipush (v := 60) dX12_init_307 bipush_60 ?_
  refine X_newa (Γ' := GC_209) (atype := .long) (t0 := 1) (N' := 60) (bu := (0, 0)) ac_long (fun _ => rfl) (by intro C h; cases h) rfl rfl (fun _ _ => rfl) (by decide) (by decide) (by decide) dX12_init_309 ?_
  refine X_putRF (Γ' := GC_210) ck_X12 f_X12_114 rfl rfl rfl rfl rfl (fun _ => rfl) (fun _ => rfl) dX12_init_311 rfl ?_
  exact X_vret rfl dX12_init_314 ⟨rfl, rfl, rfl⟩
theorem fin_G0 : GC_210 = G0 := rfl
set_option maxRecDepth 100000 in
set_option maxHeartbeats 4000000 in
theorem law_all (sx : Nat × (Nat → Int32)) (Q : Int32 → Sg → Prop) (h : w_L_law sx SC_23 Q) : Ex mL_law 1000 true (95, 14287) sx GC_0 0 [some (.float 0), none, none, none] [] SC_0 (qI Q) := by
  refine X_new (Γ' := GC_1) (ks := ksb_X11) (bu := (94, 14274)) ck_X11 cl_L_7 rfl rfl (fun E j hj => dv_X11 j hj) dL_law_0 ?_
  refine X_dup dL_law_3 rfl ?_
  refine X_callI (av := []) (st := [.ref 0]) (bc := (59, 8754)) (bu := (35, 5520)) c_X11_init rfl rfl n_X11_init lk_L_9 dL_law_4 rfl (by decide) (Nat.le_of_ble_eq_true rfl) rfl (ctor_22 sx) ?_
  rintro r Γ' σ' ⟨rfl, rfl, rfl⟩
  show Ex _ _ _ _ _ _ _ _ [.ref 0] _ _
  refine X_astore_n (L' := [some (.float 0), some (.ref 0), none, none]) dL_law_7 rfl (by decide) rfl ?_
  refine X_new (Γ' := GC_142) (ks := ksb_X12) (bu := (34, 5465)) ck_X12 cl_L_10 rfl rfl (fun E j hj => dv_X12 j hj) dL_law_8 ?_
  refine X_dup dL_law_11 rfl ?_
  refine X_callI (av := []) (st := [.ref 60]) (bc := (34, 5465)) (bu := (0, 0)) c_X12_init rfl rfl n_X12_init lk_L_12 dL_law_12 rfl (by decide) (Nat.le_of_ble_eq_true rfl) rfl (ctor_23 sx) ?_
  rintro r Γ' σ' ⟨rfl, rfl, rfl⟩
  show Ex _ _ _ _ _ _ _ _ [.ref 60] _ _
  refine X_astore_n (L' := [some (.float 0), some (.ref 0), some (.ref 60), none]) dL_law_15 rfl (by decide) rfl ?_
  rw [fin_G0]
  exact s_L_law sx SC_23 Q h
