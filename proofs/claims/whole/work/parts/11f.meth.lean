def w_X12_place (a0 : Int32) (σ : Sg) (Q : Int32 → Sg → Prop) : Prop := w_X12_isCell a0 σ (fun r2 σ1 => if r2 = 0 then (Q (-1 : Int32) σ1) else (if (σ1.1 60 6) = (8 : Int32) then (Q (-3 : Int32) σ1) else (vp_in (σ1.1 60 6) 8 ∧ bd (sI σ1 65 (Int32.toNatClampNeg (σ1.1 60 6)) a0) fun σ3 => vp_in (σ3.1 60 6) 8 ∧ bd (sI σ3 66 (Int32.toNatClampNeg (σ3.1 60 6)) (1 : Int32)) fun σ4 => bd (sI σ4 60 6 ((σ4.1 60 6) + (1 : Int32))) fun σ5 => Q ((σ5.1 60 6) - (1 : Int32)) σ5)))
set_option maxRecDepth 100000 in
set_option maxHeartbeats 4000000 in
theorem s_X12_place (sx : Nat × (Nat → Int32)) (a0 : Int32) (σ : Sg) (Q : Int32 → Sg → Prop) (h : w_X12_place a0 σ Q) : Ct mX12_place 2 false (0, 0) sx G0 [.ref 60, .int a0] σ (qI Q) := by
  refine Ct.of (L := [some (.ref 60), some (.int a0)]) (by decide) (Nat.le_of_ble_eq_true rfl) rfl ?_
  unfold w_X12_place at h
  refine X_iload_n dX12_place_0 rfl rfl ?_
  refine X_callSi [.int a0] [] c_X12_isCell t_X12_isCell lk_X12_142 dX12_place_1 rfl (by decide) (Nat.le_of_ble_eq_true rfl) rfl (s_X12_isCell sx a0  σ _ h) (fun r2 σ1 h => ?_)
  refine X_if_ne (tgt := 9) dX12_place_4 (by decide) h (fun h => ?_) (fun h => ?_)
  · refine X_aload_n dX12_place_9 rfl rfl ?_
    refine X_get (v := .int (σ1.1 60 6)) ck_X12 f_X12_132 g_60 rfl (fun _ => rfl) dX12_place_10 ?_
    refine X_bipush (v := 8) dX12_place_13 bipush_8 ?_
    refine X_icmp_ne (tgt := 21) dX12_place_15 (by decide) h (fun h => ?_) (fun h => ?_)
    · refine X_aload_n dX12_place_21 rfl rfl ?_
      refine X_get (v := .ref 65) ck_X12 f_X12_24 g_60 rfl (fun _ => rfl) dX12_place_22 ?_
      refine X_aload_n dX12_place_25 rfl rfl ?_
      refine X_get (v := .int (σ1.1 60 6)) ck_X12 f_X12_132 g_60 rfl (fun _ => rfl) dX12_place_26 ?_
      refine X_iload_n dX12_place_29 rfl rfl ?_
      refine X_iast g_65 dX12_place_30 h (fun σ3 h => ?_)
      refine X_aload_n dX12_place_31 rfl rfl ?_
      refine X_get (v := .ref 66) ck_X12 f_X12_27 g_60 rfl (fun _ => rfl) dX12_place_32 ?_
      refine X_aload_n dX12_place_35 rfl rfl ?_
      refine X_get (v := .int (σ3.1 60 6)) ck_X12 f_X12_132 g_60 rfl (fun _ => rfl) dX12_place_36 ?_
      refine X_iconst (v := 1) dX12_place_39 iconst_1 ?_
      refine X_iast g_66 dX12_place_40 h (fun σ4 h => ?_)
      refine X_aload_n dX12_place_41 rfl rfl ?_
      refine X_dup dX12_place_42 rfl ?_
      refine X_get (v := .int (σ4.1 60 6)) ck_X12 f_X12_132 g_60 rfl (fun _ => rfl) dX12_place_43 ?_
      refine X_iconst (v := 1) dX12_place_46 iconst_1 ?_
      refine X_iadd dX12_place_47 ?_
      refine X_putI ck_X12 f_X12_132 rfl g_60 rfl rfl rfl dX12_place_48 h (fun σ5 h => ?_)
      refine X_aload_n dX12_place_51 rfl rfl ?_
      refine X_get (v := .int (σ5.1 60 6)) ck_X12 f_X12_132 g_60 rfl (fun _ => rfl) dX12_place_52 ?_
      refine X_iconst (v := 1) dX12_place_55 iconst_1 ?_
      refine X_isub dX12_place_56 ?_
      exact X_reti rfl dX12_place_57 h
    · refine X_bipush (v := -3) dX12_place_18 bipush_m3 ?_
      exact X_reti rfl dX12_place_20 h
  · refine X_iconst (v := -1) dX12_place_7 iconst_m1 ?_
    exact X_reti rfl dX12_place_8 h
def w_X12_valueAt (a0 : Int32) (b0 : Int32) (σ : Sg) (Q : Int32 → Sg → Prop) : Prop := if a0 = (0 : Int32) then (vp_in b0 6 ∧ Q (σ.1 61 (Int32.toNatClampNeg b0)) σ) else (if a0 = (1 : Int32) then (vp_in b0 6 ∧ Q (σ.1 62 (Int32.toNatClampNeg b0)) σ) else (if a0 = (2 : Int32) then (vp_in b0 6 ∧ Q (σ.1 63 (Int32.toNatClampNeg b0)) σ) else (if a0 = (3 : Int32) then (vp_in b0 6 ∧ Q (σ.1 64 (Int32.toNatClampNeg b0)) σ) else (if a0 = (4 : Int32) then (vp_in b0 8 ∧ Q (σ.1 65 (Int32.toNatClampNeg b0)) σ) else (if a0 = (5 : Int32) then (vp_in b0 8 ∧ Q (σ.1 66 (Int32.toNatClampNeg b0)) σ) else (vp_in (a0 - (6 : Int32)) 3 ∧ Q (σ.1 67 (Int32.toNatClampNeg (a0 - (6 : Int32)))) σ))))))
set_option maxRecDepth 100000 in
set_option maxHeartbeats 4000000 in
theorem s_X12_valueAt (sx : Nat × (Nat → Int32)) (a0 : Int32) (b0 : Int32) (σ : Sg) (Q : Int32 → Sg → Prop) (h : w_X12_valueAt a0 b0 σ Q) : Ct mX12_valueAt 0 false (0, 0) sx G0 [.ref 60, .int a0, .int b0] σ (qI Q) := by
  refine Ct.of (L := [some (.ref 60), some (.int a0), some (.int b0)]) (by decide) (Nat.le_of_ble_eq_true rfl) rfl ?_
  unfold w_X12_valueAt at h
  refine X_iload_n dX12_valueAt_0 rfl rfl ?_
  by_cases hc1_0 : a0 = (0 : Int32)
  · replace h := if_t h hc1_0
    refine X_tableIn (tgt := 40) dX12_valueAt_1 (by rw [hc1_0] <;> decide) (by rw [hc1_0] <;> decide) (by rw [hc1_0] <;> rfl) (by decide) ?_
    refine X_aload_n dX12_valueAt_40 rfl rfl ?_
    refine X_get (v := .ref 61) ck_X12 f_X12_9 g_60 rfl (fun _ => rfl) dX12_valueAt_41 ?_
    refine X_iload_n dX12_valueAt_44 rfl rfl ?_
    refine X_iald g_61 dX12_valueAt_45 h (fun h => ?_)
    exact X_reti rfl dX12_valueAt_46 h
  replace h := if_f h hc1_0
  by_cases hc1_1 : a0 = (1 : Int32)
  · replace h := if_t h hc1_1
    refine X_tableIn (tgt := 47) dX12_valueAt_1 (by rw [hc1_1] <;> decide) (by rw [hc1_1] <;> decide) (by rw [hc1_1] <;> rfl) (by decide) ?_
    refine X_aload_n dX12_valueAt_47 rfl rfl ?_
    refine X_get (v := .ref 62) ck_X12 f_X12_15 g_60 rfl (fun _ => rfl) dX12_valueAt_48 ?_
    refine X_iload_n dX12_valueAt_51 rfl rfl ?_
    refine X_iald g_62 dX12_valueAt_52 h (fun h => ?_)
    exact X_reti rfl dX12_valueAt_53 h
  replace h := if_f h hc1_1
  by_cases hc1_2 : a0 = (2 : Int32)
  · replace h := if_t h hc1_2
    refine X_tableIn (tgt := 54) dX12_valueAt_1 (by rw [hc1_2] <;> decide) (by rw [hc1_2] <;> decide) (by rw [hc1_2] <;> rfl) (by decide) ?_
    refine X_aload_n dX12_valueAt_54 rfl rfl ?_
    refine X_get (v := .ref 63) ck_X12 f_X12_18 g_60 rfl (fun _ => rfl) dX12_valueAt_55 ?_
    refine X_iload_n dX12_valueAt_58 rfl rfl ?_
    refine X_iald g_63 dX12_valueAt_59 h (fun h => ?_)
    exact X_reti rfl dX12_valueAt_60 h
  replace h := if_f h hc1_2
  by_cases hc1_3 : a0 = (3 : Int32)
  · replace h := if_t h hc1_3
    refine X_tableIn (tgt := 61) dX12_valueAt_1 (by rw [hc1_3] <;> decide) (by rw [hc1_3] <;> decide) (by rw [hc1_3] <;> rfl) (by decide) ?_
    refine X_aload_n dX12_valueAt_61 rfl rfl ?_
    refine X_get (v := .ref 64) ck_X12 f_X12_21 g_60 rfl (fun _ => rfl) dX12_valueAt_62 ?_
    refine X_iload_n dX12_valueAt_65 rfl rfl ?_
    refine X_iald g_64 dX12_valueAt_66 h (fun h => ?_)
    exact X_reti rfl dX12_valueAt_67 h
  replace h := if_f h hc1_3
  by_cases hc1_4 : a0 = (4 : Int32)
  · replace h := if_t h hc1_4
    refine X_tableIn (tgt := 68) dX12_valueAt_1 (by rw [hc1_4] <;> decide) (by rw [hc1_4] <;> decide) (by rw [hc1_4] <;> rfl) (by decide) ?_
    refine X_aload_n dX12_valueAt_68 rfl rfl ?_
    refine X_get (v := .ref 65) ck_X12 f_X12_24 g_60 rfl (fun _ => rfl) dX12_valueAt_69 ?_
    refine X_iload_n dX12_valueAt_72 rfl rfl ?_
    refine X_iald g_65 dX12_valueAt_73 h (fun h => ?_)
    exact X_reti rfl dX12_valueAt_74 h
  replace h := if_f h hc1_4
  by_cases hc1_5 : a0 = (5 : Int32)
  · replace h := if_t h hc1_5
    refine X_tableIn (tgt := 75) dX12_valueAt_1 (by rw [hc1_5] <;> decide) (by rw [hc1_5] <;> decide) (by rw [hc1_5] <;> rfl) (by decide) ?_
    refine X_aload_n dX12_valueAt_75 rfl rfl ?_
    refine X_get (v := .ref 66) ck_X12 f_X12_27 g_60 rfl (fun _ => rfl) dX12_valueAt_76 ?_
    refine X_iload_n dX12_valueAt_79 rfl rfl ?_
    refine X_iald g_66 dX12_valueAt_80 h (fun h => ?_)
    exact X_reti rfl dX12_valueAt_81 h
  replace h := if_f h hc1_5
  refine X_tableOut (tgt := 82) dX12_valueAt_1 (tbl_out (fun j h1 h2 e => ?_)) (by decide) ?_
  · rcases (show j = 0 ∨ j = 1 ∨ j = 2 ∨ j = 3 ∨ j = 4 ∨ j = 5 by omega) with rfl | rfl | rfl | rfl | rfl | rfl
    · exact ne_toInt hc1_0 e
    · exact ne_toInt hc1_1 e
    · exact ne_toInt hc1_2 e
    · exact ne_toInt hc1_3 e
    · exact ne_toInt hc1_4 e
    · exact ne_toInt hc1_5 e
  refine X_aload_n dX12_valueAt_82 rfl rfl ?_
  refine X_get (v := .ref 67) ck_X12 f_X12_30 g_60 rfl (fun _ => rfl) dX12_valueAt_83 ?_
  refine X_iload_n dX12_valueAt_86 rfl rfl ?_
  refine X_bipush (v := 6) dX12_valueAt_87 bipush_6 ?_
  refine X_isub dX12_valueAt_89 ?_
  refine X_iald g_67 dX12_valueAt_90 h (fun h => ?_)
  exact X_reti rfl dX12_valueAt_91 h
def w_X12_lays (a0 : Int32) (b0 : Int32) (c0 : Int32) (σ : Sg) (Q : Sg → Prop) : Prop := if a0 = (0 : Int32) then (vp_in b0 6 ∧ bd (sI σ 61 (Int32.toNatClampNeg b0) c0) fun σ1 => Q σ1) else (if a0 = (1 : Int32) then (vp_in b0 6 ∧ bd (sI σ 62 (Int32.toNatClampNeg b0) c0) fun σ2 => Q σ2) else (if a0 = (2 : Int32) then (vp_in b0 6 ∧ bd (sI σ 63 (Int32.toNatClampNeg b0) c0) fun σ3 => Q σ3) else (if a0 = (3 : Int32) then (vp_in b0 6 ∧ bd (sI σ 64 (Int32.toNatClampNeg b0) c0) fun σ4 => Q σ4) else (if a0 = (4 : Int32) then (vp_in b0 8 ∧ bd (sI σ 65 (Int32.toNatClampNeg b0) c0) fun σ5 => Q σ5) else (if a0 = (5 : Int32) then (vp_in b0 8 ∧ bd (sI σ 66 (Int32.toNatClampNeg b0) c0) fun σ6 => Q σ6) else (vp_in (a0 - (6 : Int32)) 3 ∧ bd (sI σ 67 (Int32.toNatClampNeg (a0 - (6 : Int32))) c0) fun σ7 => Q σ7))))))
set_option maxRecDepth 100000 in
set_option maxHeartbeats 4000000 in
theorem s_X12_lays (sx : Nat × (Nat → Int32)) (a0 : Int32) (b0 : Int32) (c0 : Int32) (σ : Sg) (Q : Sg → Prop) (h : w_X12_lays a0 b0 c0 σ Q) : Ct mX12_lays 0 false (0, 0) sx G0 [.ref 60, .int a0, .int b0, .int c0] σ (qV Q) := by
  refine Ct.of (L := [some (.ref 60), some (.int a0), some (.int b0), some (.int c0)]) (by decide) (Nat.le_of_ble_eq_true rfl) rfl ?_
  unfold w_X12_lays at h
  refine X_iload_n dX12_lays_0 rfl rfl ?_
  by_cases hc1_0 : a0 = (0 : Int32)
  · replace h := if_t h hc1_0
    refine X_tableIn (tgt := 40) dX12_lays_1 (by rw [hc1_0] <;> decide) (by rw [hc1_0] <;> decide) (by rw [hc1_0] <;> rfl) (by decide) ?_
    refine X_aload_n dX12_lays_40 rfl rfl ?_
    refine X_get (v := .ref 61) ck_X12 f_X12_9 g_60 rfl (fun _ => rfl) dX12_lays_41 ?_
    refine X_iload_n dX12_lays_44 rfl rfl ?_
    refine X_iload_n dX12_lays_45 rfl rfl ?_
    refine X_iast g_61 dX12_lays_46 h (fun σ1 h => ?_)
    refine X_goto (tgt := 110) dX12_lays_47 (by decide) ?_
    exact X_retv rfl dX12_lays_110 h
  replace h := if_f h hc1_0
  by_cases hc1_1 : a0 = (1 : Int32)
  · replace h := if_t h hc1_1
    refine X_tableIn (tgt := 50) dX12_lays_1 (by rw [hc1_1] <;> decide) (by rw [hc1_1] <;> decide) (by rw [hc1_1] <;> rfl) (by decide) ?_
    refine X_aload_n dX12_lays_50 rfl rfl ?_
    refine X_get (v := .ref 62) ck_X12 f_X12_15 g_60 rfl (fun _ => rfl) dX12_lays_51 ?_
    refine X_iload_n dX12_lays_54 rfl rfl ?_
    refine X_iload_n dX12_lays_55 rfl rfl ?_
    refine X_iast g_62 dX12_lays_56 h (fun σ2 h => ?_)
    refine X_goto (tgt := 110) dX12_lays_57 (by decide) ?_
    exact X_retv rfl dX12_lays_110 h
  replace h := if_f h hc1_1
  by_cases hc1_2 : a0 = (2 : Int32)
  · replace h := if_t h hc1_2
    refine X_tableIn (tgt := 60) dX12_lays_1 (by rw [hc1_2] <;> decide) (by rw [hc1_2] <;> decide) (by rw [hc1_2] <;> rfl) (by decide) ?_
    refine X_aload_n dX12_lays_60 rfl rfl ?_
    refine X_get (v := .ref 63) ck_X12 f_X12_18 g_60 rfl (fun _ => rfl) dX12_lays_61 ?_
    refine X_iload_n dX12_lays_64 rfl rfl ?_
    refine X_iload_n dX12_lays_65 rfl rfl ?_
    refine X_iast g_63 dX12_lays_66 h (fun σ3 h => ?_)
    refine X_goto (tgt := 110) dX12_lays_67 (by decide) ?_
    exact X_retv rfl dX12_lays_110 h
  replace h := if_f h hc1_2
  by_cases hc1_3 : a0 = (3 : Int32)
  · replace h := if_t h hc1_3
    refine X_tableIn (tgt := 70) dX12_lays_1 (by rw [hc1_3] <;> decide) (by rw [hc1_3] <;> decide) (by rw [hc1_3] <;> rfl) (by decide) ?_
    refine X_aload_n dX12_lays_70 rfl rfl ?_
    refine X_get (v := .ref 64) ck_X12 f_X12_21 g_60 rfl (fun _ => rfl) dX12_lays_71 ?_
    refine X_iload_n dX12_lays_74 rfl rfl ?_
    refine X_iload_n dX12_lays_75 rfl rfl ?_
    refine X_iast g_64 dX12_lays_76 h (fun σ4 h => ?_)
    refine X_goto (tgt := 110) dX12_lays_77 (by decide) ?_
    exact X_retv rfl dX12_lays_110 h
  replace h := if_f h hc1_3
  by_cases hc1_4 : a0 = (4 : Int32)
  · replace h := if_t h hc1_4
    refine X_tableIn (tgt := 80) dX12_lays_1 (by rw [hc1_4] <;> decide) (by rw [hc1_4] <;> decide) (by rw [hc1_4] <;> rfl) (by decide) ?_
    refine X_aload_n dX12_lays_80 rfl rfl ?_
    refine X_get (v := .ref 65) ck_X12 f_X12_24 g_60 rfl (fun _ => rfl) dX12_lays_81 ?_
    refine X_iload_n dX12_lays_84 rfl rfl ?_
    refine X_iload_n dX12_lays_85 rfl rfl ?_
    refine X_iast g_65 dX12_lays_86 h (fun σ5 h => ?_)
    refine X_goto (tgt := 110) dX12_lays_87 (by decide) ?_
    exact X_retv rfl dX12_lays_110 h
  replace h := if_f h hc1_4
  by_cases hc1_5 : a0 = (5 : Int32)
  · replace h := if_t h hc1_5
    refine X_tableIn (tgt := 90) dX12_lays_1 (by rw [hc1_5] <;> decide) (by rw [hc1_5] <;> decide) (by rw [hc1_5] <;> rfl) (by decide) ?_
    refine X_aload_n dX12_lays_90 rfl rfl ?_
    refine X_get (v := .ref 66) ck_X12 f_X12_27 g_60 rfl (fun _ => rfl) dX12_lays_91 ?_
    refine X_iload_n dX12_lays_94 rfl rfl ?_
    refine X_iload_n dX12_lays_95 rfl rfl ?_
    refine X_iast g_66 dX12_lays_96 h (fun σ6 h => ?_)
    refine X_goto (tgt := 110) dX12_lays_97 (by decide) ?_
    exact X_retv rfl dX12_lays_110 h
  replace h := if_f h hc1_5
  refine X_tableOut (tgt := 100) dX12_lays_1 (tbl_out (fun j h1 h2 e => ?_)) (by decide) ?_
  · rcases (show j = 0 ∨ j = 1 ∨ j = 2 ∨ j = 3 ∨ j = 4 ∨ j = 5 by omega) with rfl | rfl | rfl | rfl | rfl | rfl
    · exact ne_toInt hc1_0 e
    · exact ne_toInt hc1_1 e
    · exact ne_toInt hc1_2 e
    · exact ne_toInt hc1_3 e
    · exact ne_toInt hc1_4 e
    · exact ne_toInt hc1_5 e
  refine X_aload_n dX12_lays_100 rfl rfl ?_
  refine X_get (v := .ref 67) ck_X12 f_X12_30 g_60 rfl (fun _ => rfl) dX12_lays_101 ?_
  refine X_iload_n dX12_lays_104 rfl rfl ?_
  refine X_bipush (v := 6) dX12_lays_105 bipush_6 ?_
  refine X_isub dX12_lays_107 ?_
  refine X_iload_n dX12_lays_108 rfl rfl ?_
  refine X_iast g_67 dX12_lays_109 h (fun σ7 h => ?_)
  exact X_retv rfl dX12_lays_110 h
def w_X12_changes_l34 (J111 : Sg → Prop) : Nat → Int32 → Sg → Prop
  | 0, _, _ => False
  | n34 + 1, x13, σ14 => if (40 : Int32) ≤ x13 then (J111 σ14) else (vp_in x13 40 ∧ vp_in (x13 - (1 : Int32)) 40 ∧ bd (sI σ14 68 (Int32.toNatClampNeg (x13 - (1 : Int32))) (σ14.1 68 (Int32.toNatClampNeg x13))) fun σ15 => vp_in x13 40 ∧ vp_in (x13 - (1 : Int32)) 40 ∧ bd (sI σ15 69 (Int32.toNatClampNeg (x13 - (1 : Int32))) (σ15.1 69 (Int32.toNatClampNeg x13))) fun σ16 => vp_in x13 40 ∧ vp_in (x13 - (1 : Int32)) 40 ∧ bd (sI σ16 70 (Int32.toNatClampNeg (x13 - (1 : Int32))) (σ16.1 70 (Int32.toNatClampNeg x13))) fun σ17 => vp_in x13 40 ∧ vp_in (x13 - (1 : Int32)) 40 ∧ bd (sI σ17 71 (Int32.toNatClampNeg (x13 - (1 : Int32))) (σ17.1 71 (Int32.toNatClampNeg x13))) fun σ18 => w_X12_changes_l34 J111 n34 (x13 + 1) σ18)
def w_X12_changes (a0 : Int32) (b0 : Int32) (c0 : Int32) (σ : Sg) (Q : Int32 → Sg → Prop) : Prop := w_X12_valueAt a0 b0 σ (fun r2 σ1 => if r2 = c0 then (Q r2 σ1) else (bd (sI σ1 60 11 (0 : Int32)) fun σ3 => bd (fun (σ4 : Sg) => vp_in (σ4.1 60 10) 40 ∧ bd (sI σ4 68 (Int32.toNatClampNeg (σ4.1 60 10)) a0) fun σ5 => vp_in (σ5.1 60 10) 40 ∧ bd (sI σ5 69 (Int32.toNatClampNeg (σ5.1 60 10)) b0) fun σ6 => vp_in (σ6.1 60 10) 40 ∧ bd (sI σ6 70 (Int32.toNatClampNeg (σ6.1 60 10)) r2) fun σ7 => vp_in (σ7.1 60 10) 40 ∧ bd (sI σ7 71 (Int32.toNatClampNeg (σ7.1 60 10)) c0) fun σ8 => bd (sI σ8 60 10 ((σ8.1 60 10) + (1 : Int32))) fun σ9 => w_X12_lays a0 b0 c0 σ9 (fun  σ10 => Q r2 σ10)) fun J121 => if (σ3.1 60 10) = (40 : Int32) then (bd (fun (σ11 : Sg) => bd (sI σ11 60 10 ((σ11.1 60 10) - (1 : Int32))) fun σ12 => J121 σ12) fun J111 => ∃ n, w_X12_changes_l34 J111 n (1 : Int32) σ3) else (J121 σ3)))
set_option maxRecDepth 100000 in
set_option maxHeartbeats 4000000 in
theorem s_X12_changes (sx : Nat × (Nat → Int32)) (a0 : Int32) (b0 : Int32) (c0 : Int32) (σ : Sg) (Q : Int32 → Sg → Prop) (h : w_X12_changes a0 b0 c0 σ Q) : Ct mX12_changes 1 false (0, 0) sx G0 [.ref 60, .int a0, .int b0, .int c0] σ (qI Q) := by
  refine Ct.of (L := [some (.ref 60), some (.int a0), some (.int b0), some (.int c0), none, none]) (by decide) (Nat.le_of_ble_eq_true rfl) rfl ?_
  unfold w_X12_changes at h
  refine X_aload_n dX12_changes_0 rfl rfl ?_
  refine X_iload_n dX12_changes_1 rfl rfl ?_
  refine X_iload_n dX12_changes_2 rfl rfl ?_
  refine X_callVi [.int a0, .int b0] [] c_X12_valueAt v_X12_valueAt lk_X12_154 dX12_changes_3 g_60 rfl rfl rfl (by decide) (Nat.le_of_ble_eq_true rfl) rfl (s_X12_valueAt sx a0 b0  σ _ h) (fun r2 σ1 h => ?_)
  refine X_istore (L' := [some (.ref 60), some (.int a0), some (.int b0), some (.int c0), some (.int r2), none]) dX12_changes_6 (by decide) rfl ?_
  refine X_iload dX12_changes_8 rfl ?_
  refine X_iload_n dX12_changes_10 rfl rfl ?_
  refine X_icmp_ne (tgt := 17) dX12_changes_11 (by decide) h (fun h => ?_) (fun h => ?_)
  · refine X_aload_n dX12_changes_17 rfl rfl ?_
    refine X_iconst (v := 0) dX12_changes_18 iconst_0 ?_
    refine X_putI ck_X12 f_X12_157 rfl g_60 rfl rfl rfl dX12_changes_19 h (fun σ3 h => ?_)
    refine X_aload_n dX12_changes_22 rfl rfl ?_
    refine X_get (v := .int (σ3.1 60 10)) ck_X12 f_X12_160 g_60 rfl (fun _ => rfl) dX12_changes_23 ?_
    refine X_bipush (v := 40) dX12_changes_26 bipush_40 ?_
    refine bd_j h (fun J121 e121 h => ?_)
    have j121 : ∀ (σ4 : Sg) , J121  σ4 → Ex mX12_changes 1 false (0, 0) sx G0 121 [some (.ref 60), some (.int a0), some (.int b0), some (.int c0), some (.int r2), none] [] σ4 (qI Q) := by
      intro  σ4  h
      subst e121
      replace h := h
      refine X_aload_n dX12_changes_121 rfl rfl ?_
      refine X_get (v := .ref 68) ck_X12 f_X12_33 g_60 rfl (fun _ => rfl) dX12_changes_122 ?_
      refine X_aload_n dX12_changes_125 rfl rfl ?_
      refine X_get (v := .int (σ4.1 60 10)) ck_X12 f_X12_160 g_60 rfl (fun _ => rfl) dX12_changes_126 ?_
      refine X_iload_n dX12_changes_129 rfl rfl ?_
      refine X_iast g_68 dX12_changes_130 h (fun σ5 h => ?_)
      refine X_aload_n dX12_changes_131 rfl rfl ?_
      refine X_get (v := .ref 69) ck_X12 f_X12_36 g_60 rfl (fun _ => rfl) dX12_changes_132 ?_
      refine X_aload_n dX12_changes_135 rfl rfl ?_
      refine X_get (v := .int (σ5.1 60 10)) ck_X12 f_X12_160 g_60 rfl (fun _ => rfl) dX12_changes_136 ?_
      refine X_iload_n dX12_changes_139 rfl rfl ?_
      refine X_iast g_69 dX12_changes_140 h (fun σ6 h => ?_)
      refine X_aload_n dX12_changes_141 rfl rfl ?_
      refine X_get (v := .ref 70) ck_X12 f_X12_39 g_60 rfl (fun _ => rfl) dX12_changes_142 ?_
      refine X_aload_n dX12_changes_145 rfl rfl ?_
      refine X_get (v := .int (σ6.1 60 10)) ck_X12 f_X12_160 g_60 rfl (fun _ => rfl) dX12_changes_146 ?_
      refine X_iload dX12_changes_149 rfl ?_
      refine X_iast g_70 dX12_changes_151 h (fun σ7 h => ?_)
      refine X_aload_n dX12_changes_152 rfl rfl ?_
      refine X_get (v := .ref 71) ck_X12 f_X12_42 g_60 rfl (fun _ => rfl) dX12_changes_153 ?_
      refine X_aload_n dX12_changes_156 rfl rfl ?_
      refine X_get (v := .int (σ7.1 60 10)) ck_X12 f_X12_160 g_60 rfl (fun _ => rfl) dX12_changes_157 ?_
      refine X_iload_n dX12_changes_160 rfl rfl ?_
      refine X_iast g_71 dX12_changes_161 h (fun σ8 h => ?_)
      refine X_aload_n dX12_changes_162 rfl rfl ?_
      refine X_dup dX12_changes_163 rfl ?_
      refine X_get (v := .int (σ8.1 60 10)) ck_X12 f_X12_160 g_60 rfl (fun _ => rfl) dX12_changes_164 ?_
      refine X_iconst (v := 1) dX12_changes_167 iconst_1 ?_
      refine X_iadd dX12_changes_168 ?_
      refine X_putI ck_X12 f_X12_160 rfl g_60 rfl rfl rfl dX12_changes_169 h (fun σ9 h => ?_)
      refine X_aload_n dX12_changes_172 rfl rfl ?_
      refine X_iload_n dX12_changes_173 rfl rfl ?_
      refine X_iload_n dX12_changes_174 rfl rfl ?_
      refine X_iload_n dX12_changes_175 rfl rfl ?_
      refine X_callVv [.int a0, .int b0, .int c0] [] c_X12_lays v_X12_lays lk_X12_163 dX12_changes_176 g_60 rfl rfl rfl (by decide) (Nat.le_of_ble_eq_true rfl) rfl (s_X12_lays sx a0 b0 c0  σ9 _ h) (fun  σ10 h => ?_)
      refine X_iload dX12_changes_179 rfl ?_
      exact X_reti rfl dX12_changes_181 h
    refine X_icmp_ne (tgt := 121) dX12_changes_28 (by decide) h (fun h => ?_) (fun h => ?_)
    · exact j121 _  h
    · refine X_iconst (v := 1) dX12_changes_31 iconst_1 ?_
      refine X_istore (L' := [some (.ref 60), some (.int a0), some (.int b0), some (.int c0), some (.int r2), some (.int (1 : Int32))]) dX12_changes_32 (by decide) rfl ?_
      refine bd_j h (fun J111 e111 h => ?_)
      have j111 : ∀ (σ11 : Sg) , J111  σ11 → Ex mX12_changes 1 false (0, 0) sx G0 111 [some (.ref 60), some (.int a0), some (.int b0), some (.int c0), some (.int r2), none] [] σ11 (qI Q) := by
        intro  σ11  h
        subst e111
        replace h := h
        refine X_aload_n dX12_changes_111 rfl rfl ?_
        refine X_dup dX12_changes_112 rfl ?_
        refine X_get (v := .int (σ11.1 60 10)) ck_X12 f_X12_160 g_60 rfl (fun _ => rfl) dX12_changes_113 ?_
        refine X_iconst (v := 1) dX12_changes_116 iconst_1 ?_
        refine X_isub dX12_changes_117 ?_
        refine X_putI ck_X12 f_X12_160 rfl g_60 rfl rfl rfl dX12_changes_118 h (fun σ12 h => ?_)
        exact j121 _  h
      obtain ⟨n34, h⟩ := h
      have key34 : ∀ (n : Nat) (x13 : Int32) (σ14 : Sg) , w_X12_changes_l34 J111 n x13 σ14 → Ex mX12_changes 1 false (0, 0) sx G0 34 [some (.ref 60), some (.int a0), some (.int b0), some (.int c0), some (.int r2), some (.int x13)] [] σ14 (qI Q) := by
        intro n34
        induction n34 with
        | zero => intro _ _  h; exact h.elim
        | succ n34 ih34 =>
          intro x13 σ14  h
          unfold w_X12_changes_l34 at h
          refine X_iload dX12_changes_34 rfl ?_
          refine X_bipush (v := 40) dX12_changes_36 bipush_40 ?_
          refine X_icmp_ge (tgt := 111) dX12_changes_38 (by decide) h (fun h => ?_) (fun h => ?_)
          · refine X_drop (L' := [some (.ref 60), some (.int a0), some (.int b0), some (.int c0), some (.int r2), none]) ⟨rfl, ⟨rfl, ⟨rfl, ⟨rfl, ⟨rfl, trivial⟩⟩⟩⟩⟩ ?_
            exact j111 _  h
          · refine X_aload_n dX12_changes_41 rfl rfl ?_
            refine X_get (v := .ref 68) ck_X12 f_X12_33 g_60 rfl (fun _ => rfl) dX12_changes_42 ?_
            refine X_iload dX12_changes_45 rfl ?_
            refine X_iconst (v := 1) dX12_changes_47 iconst_1 ?_
            refine X_isub dX12_changes_48 ?_
            refine X_aload_n dX12_changes_49 rfl rfl ?_
            refine X_get (v := .ref 68) ck_X12 f_X12_33 g_60 rfl (fun _ => rfl) dX12_changes_50 ?_
            refine X_iload dX12_changes_53 rfl ?_
            refine X_iald g_68 dX12_changes_55 h (fun h => ?_)
            refine X_iast g_68 dX12_changes_56 h (fun σ15 h => ?_)
            refine X_aload_n dX12_changes_57 rfl rfl ?_
            refine X_get (v := .ref 69) ck_X12 f_X12_36 g_60 rfl (fun _ => rfl) dX12_changes_58 ?_
            refine X_iload dX12_changes_61 rfl ?_
            refine X_iconst (v := 1) dX12_changes_63 iconst_1 ?_
            refine X_isub dX12_changes_64 ?_
            refine X_aload_n dX12_changes_65 rfl rfl ?_
            refine X_get (v := .ref 69) ck_X12 f_X12_36 g_60 rfl (fun _ => rfl) dX12_changes_66 ?_
            refine X_iload dX12_changes_69 rfl ?_
            refine X_iald g_69 dX12_changes_71 h (fun h => ?_)
            refine X_iast g_69 dX12_changes_72 h (fun σ16 h => ?_)
            refine X_aload_n dX12_changes_73 rfl rfl ?_
            refine X_get (v := .ref 70) ck_X12 f_X12_39 g_60 rfl (fun _ => rfl) dX12_changes_74 ?_
            refine X_iload dX12_changes_77 rfl ?_
            refine X_iconst (v := 1) dX12_changes_79 iconst_1 ?_
            refine X_isub dX12_changes_80 ?_
            refine X_aload_n dX12_changes_81 rfl rfl ?_
            refine X_get (v := .ref 70) ck_X12 f_X12_39 g_60 rfl (fun _ => rfl) dX12_changes_82 ?_
            refine X_iload dX12_changes_85 rfl ?_
            refine X_iald g_70 dX12_changes_87 h (fun h => ?_)
            refine X_iast g_70 dX12_changes_88 h (fun σ17 h => ?_)
            refine X_aload_n dX12_changes_89 rfl rfl ?_
            refine X_get (v := .ref 71) ck_X12 f_X12_42 g_60 rfl (fun _ => rfl) dX12_changes_90 ?_
            refine X_iload dX12_changes_93 rfl ?_
            refine X_iconst (v := 1) dX12_changes_95 iconst_1 ?_
            refine X_isub dX12_changes_96 ?_
            refine X_aload_n dX12_changes_97 rfl rfl ?_
            refine X_get (v := .ref 71) ck_X12 f_X12_42 g_60 rfl (fun _ => rfl) dX12_changes_98 ?_
            refine X_iload dX12_changes_101 rfl ?_
            refine X_iald g_71 dX12_changes_103 h (fun h => ?_)
            refine X_iast g_71 dX12_changes_104 h (fun σ18 h => ?_)
            refine X_iinc (v := (x13 + 1)) (L' := [some (.ref 60), some (.int a0), some (.int b0), some (.int c0), some (.int r2), some (.int (x13 + 1))]) dX12_changes_105 rfl rfl (by decide) rfl ?_
            refine X_goto (tgt := 34) dX12_changes_108 (by decide) ?_
            exact ih34 _ _  h
      exact key34 _ _ _  h
  · refine X_iload dX12_changes_14 rfl ?_
    exact X_reti rfl dX12_changes_16 h
def w_X12_undo (σ : Sg) (Q : Int32 → Sg → Prop) : Prop := if (σ.1 60 10) = 0 then (Q (-5 : Int32) σ) else (bd (sI σ 60 10 ((σ.1 60 10) - (1 : Int32))) fun σ1 => bd (sI σ1 60 11 ((σ1.1 60 11) + (1 : Int32))) fun σ2 => vp_in (σ2.1 60 10) 40 ∧ vp_in (σ2.1 60 10) 40 ∧ vp_in (σ2.1 60 10) 40 ∧ w_X12_lays (σ2.1 68 (Int32.toNatClampNeg (σ2.1 60 10))) (σ2.1 69 (Int32.toNatClampNeg (σ2.1 60 10))) (σ2.1 70 (Int32.toNatClampNeg (σ2.1 60 10))) σ2 (fun  σ3 => Q (σ3.1 60 10) σ3))
set_option maxRecDepth 100000 in
set_option maxHeartbeats 4000000 in
theorem s_X12_undo (sx : Nat × (Nat → Int32)) (σ : Sg) (Q : Int32 → Sg → Prop) (h : w_X12_undo σ Q) : Ct mX12_undo 1 false (0, 0) sx G0 [.ref 60] σ (qI Q) := by
  refine Ct.of (L := [some (.ref 60)]) (by decide) (Nat.le_of_ble_eq_true rfl) rfl ?_
  unfold w_X12_undo at h
  refine X_aload_n dX12_undo_0 rfl rfl ?_
  refine X_get (v := .int (σ.1 60 10)) ck_X12 f_X12_160 g_60 rfl (fun _ => rfl) dX12_undo_1 ?_
  refine X_if_ne (tgt := 10) dX12_undo_4 (by decide) h (fun h => ?_) (fun h => ?_)
  · refine X_aload_n dX12_undo_10 rfl rfl ?_
    refine X_dup dX12_undo_11 rfl ?_
    refine X_get (v := .int (σ.1 60 10)) ck_X12 f_X12_160 g_60 rfl (fun _ => rfl) dX12_undo_12 ?_
    refine X_iconst (v := 1) dX12_undo_15 iconst_1 ?_
    refine X_isub dX12_undo_16 ?_
    refine X_putI ck_X12 f_X12_160 rfl g_60 rfl rfl rfl dX12_undo_17 h (fun σ1 h => ?_)
    refine X_aload_n dX12_undo_20 rfl rfl ?_
    refine X_dup dX12_undo_21 rfl ?_
    refine X_get (v := .int (σ1.1 60 11)) ck_X12 f_X12_157 g_60 rfl (fun _ => rfl) dX12_undo_22 ?_
    refine X_iconst (v := 1) dX12_undo_25 iconst_1 ?_
    refine X_iadd dX12_undo_26 ?_
    refine X_putI ck_X12 f_X12_157 rfl g_60 rfl rfl rfl dX12_undo_27 h (fun σ2 h => ?_)
    refine X_aload_n dX12_undo_30 rfl rfl ?_
    refine X_aload_n dX12_undo_31 rfl rfl ?_
    refine X_get (v := .ref 68) ck_X12 f_X12_33 g_60 rfl (fun _ => rfl) dX12_undo_32 ?_
    refine X_aload_n dX12_undo_35 rfl rfl ?_
    refine X_get (v := .int (σ2.1 60 10)) ck_X12 f_X12_160 g_60 rfl (fun _ => rfl) dX12_undo_36 ?_
    refine X_iald g_68 dX12_undo_39 h (fun h => ?_)
    refine X_aload_n dX12_undo_40 rfl rfl ?_
    refine X_get (v := .ref 69) ck_X12 f_X12_36 g_60 rfl (fun _ => rfl) dX12_undo_41 ?_
    refine X_aload_n dX12_undo_44 rfl rfl ?_
    refine X_get (v := .int (σ2.1 60 10)) ck_X12 f_X12_160 g_60 rfl (fun _ => rfl) dX12_undo_45 ?_
    refine X_iald g_69 dX12_undo_48 h (fun h => ?_)
    refine X_aload_n dX12_undo_49 rfl rfl ?_
    refine X_get (v := .ref 70) ck_X12 f_X12_39 g_60 rfl (fun _ => rfl) dX12_undo_50 ?_
    refine X_aload_n dX12_undo_53 rfl rfl ?_
    refine X_get (v := .int (σ2.1 60 10)) ck_X12 f_X12_160 g_60 rfl (fun _ => rfl) dX12_undo_54 ?_
    refine X_iald g_70 dX12_undo_57 h (fun h => ?_)
    refine X_callVv [.int (σ2.1 68 (Int32.toNatClampNeg (σ2.1 60 10))), .int (σ2.1 69 (Int32.toNatClampNeg (σ2.1 60 10))), .int (σ2.1 70 (Int32.toNatClampNeg (σ2.1 60 10)))] [] c_X12_lays v_X12_lays lk_X12_163 dX12_undo_58 g_60 rfl rfl rfl (by decide) (Nat.le_of_ble_eq_true rfl) rfl (s_X12_lays sx (σ2.1 68 (Int32.toNatClampNeg (σ2.1 60 10))) (σ2.1 69 (Int32.toNatClampNeg (σ2.1 60 10))) (σ2.1 70 (Int32.toNatClampNeg (σ2.1 60 10)))  σ2 _ h) (fun  σ3 h => ?_)
    refine X_aload_n dX12_undo_61 rfl rfl ?_
    refine X_get (v := .int (σ3.1 60 10)) ck_X12 f_X12_160 g_60 rfl (fun _ => rfl) dX12_undo_62 ?_
    exact X_reti rfl dX12_undo_65 h
  · refine X_bipush (v := -5) dX12_undo_7 bipush_m5 ?_
    exact X_reti rfl dX12_undo_9 h
def w_X12_redo (σ : Sg) (Q : Int32 → Sg → Prop) : Prop := if (σ.1 60 11) = 0 then (Q (-5 : Int32) σ) else (vp_in (σ.1 60 10) 40 ∧ vp_in (σ.1 60 10) 40 ∧ vp_in (σ.1 60 10) 40 ∧ w_X12_lays (σ.1 68 (Int32.toNatClampNeg (σ.1 60 10))) (σ.1 69 (Int32.toNatClampNeg (σ.1 60 10))) (σ.1 71 (Int32.toNatClampNeg (σ.1 60 10))) σ (fun  σ1 => bd (sI σ1 60 10 ((σ1.1 60 10) + (1 : Int32))) fun σ2 => bd (sI σ2 60 11 ((σ2.1 60 11) - (1 : Int32))) fun σ3 => Q (σ3.1 60 11) σ3))
set_option maxRecDepth 100000 in
set_option maxHeartbeats 4000000 in
theorem s_X12_redo (sx : Nat × (Nat → Int32)) (σ : Sg) (Q : Int32 → Sg → Prop) (h : w_X12_redo σ Q) : Ct mX12_redo 1 false (0, 0) sx G0 [.ref 60] σ (qI Q) := by
  refine Ct.of (L := [some (.ref 60)]) (by decide) (Nat.le_of_ble_eq_true rfl) rfl ?_
  unfold w_X12_redo at h
  refine X_aload_n dX12_redo_0 rfl rfl ?_
  refine X_get (v := .int (σ.1 60 11)) ck_X12 f_X12_157 g_60 rfl (fun _ => rfl) dX12_redo_1 ?_
  refine X_if_ne (tgt := 10) dX12_redo_4 (by decide) h (fun h => ?_) (fun h => ?_)
  · refine X_aload_n dX12_redo_10 rfl rfl ?_
    refine X_aload_n dX12_redo_11 rfl rfl ?_
    refine X_get (v := .ref 68) ck_X12 f_X12_33 g_60 rfl (fun _ => rfl) dX12_redo_12 ?_
    refine X_aload_n dX12_redo_15 rfl rfl ?_
    refine X_get (v := .int (σ.1 60 10)) ck_X12 f_X12_160 g_60 rfl (fun _ => rfl) dX12_redo_16 ?_
    refine X_iald g_68 dX12_redo_19 h (fun h => ?_)
    refine X_aload_n dX12_redo_20 rfl rfl ?_
    refine X_get (v := .ref 69) ck_X12 f_X12_36 g_60 rfl (fun _ => rfl) dX12_redo_21 ?_
    refine X_aload_n dX12_redo_24 rfl rfl ?_
    refine X_get (v := .int (σ.1 60 10)) ck_X12 f_X12_160 g_60 rfl (fun _ => rfl) dX12_redo_25 ?_
    refine X_iald g_69 dX12_redo_28 h (fun h => ?_)
    refine X_aload_n dX12_redo_29 rfl rfl ?_
    refine X_get (v := .ref 71) ck_X12 f_X12_42 g_60 rfl (fun _ => rfl) dX12_redo_30 ?_
    refine X_aload_n dX12_redo_33 rfl rfl ?_
    refine X_get (v := .int (σ.1 60 10)) ck_X12 f_X12_160 g_60 rfl (fun _ => rfl) dX12_redo_34 ?_
    refine X_iald g_71 dX12_redo_37 h (fun h => ?_)
    refine X_callVv [.int (σ.1 68 (Int32.toNatClampNeg (σ.1 60 10))), .int (σ.1 69 (Int32.toNatClampNeg (σ.1 60 10))), .int (σ.1 71 (Int32.toNatClampNeg (σ.1 60 10)))] [] c_X12_lays v_X12_lays lk_X12_163 dX12_redo_38 g_60 rfl rfl rfl (by decide) (Nat.le_of_ble_eq_true rfl) rfl (s_X12_lays sx (σ.1 68 (Int32.toNatClampNeg (σ.1 60 10))) (σ.1 69 (Int32.toNatClampNeg (σ.1 60 10))) (σ.1 71 (Int32.toNatClampNeg (σ.1 60 10)))  σ _ h) (fun  σ1 h => ?_)
    refine X_aload_n dX12_redo_41 rfl rfl ?_
    refine X_dup dX12_redo_42 rfl ?_
    refine X_get (v := .int (σ1.1 60 10)) ck_X12 f_X12_160 g_60 rfl (fun _ => rfl) dX12_redo_43 ?_
    refine X_iconst (v := 1) dX12_redo_46 iconst_1 ?_
    refine X_iadd dX12_redo_47 ?_
    refine X_putI ck_X12 f_X12_160 rfl g_60 rfl rfl rfl dX12_redo_48 h (fun σ2 h => ?_)
    refine X_aload_n dX12_redo_51 rfl rfl ?_
    refine X_dup dX12_redo_52 rfl ?_
    refine X_get (v := .int (σ2.1 60 11)) ck_X12 f_X12_157 g_60 rfl (fun _ => rfl) dX12_redo_53 ?_
    refine X_iconst (v := 1) dX12_redo_56 iconst_1 ?_
    refine X_isub dX12_redo_57 ?_
    refine X_putI ck_X12 f_X12_157 rfl g_60 rfl rfl rfl dX12_redo_58 h (fun σ3 h => ?_)
    refine X_aload_n dX12_redo_61 rfl rfl ?_
    refine X_get (v := .int (σ3.1 60 11)) ck_X12 f_X12_157 g_60 rfl (fun _ => rfl) dX12_redo_62 ?_
    exact X_reti rfl dX12_redo_65 h
  · refine X_bipush (v := -5) dX12_redo_7 bipush_m5 ?_
    exact X_reti rfl dX12_redo_9 h
def w_X12_isOne (a0 : Int32) (b0 : Int32) (σ : Sg) (Q : Int32 → Sg → Prop) : Prop := w_X12_in b0 (0 : Int32) (3 : Int32) σ (fun r2 σ1 => if r2 = 0 then (w_X12_in b0 (4 : Int32) (5 : Int32) σ1 (fun r4 σ3 => if r4 = 0 then (w_X12_in b0 (6 : Int32) (8 : Int32) σ3 (fun r6 σ5 => if r6 = 0 then (Q (0 : Int32) σ5) else (if a0 = 0 then (Q (1 : Int32) σ5) else (Q (0 : Int32) σ5)))) else (w_X12_isPlace a0 σ3 (fun r8 σ7 => (r8 = 0 ∨ r8 = 1) ∧ Q r8 σ7)))) else (w_X12_isCarriage a0 σ1 (fun r10 σ9 => (r10 = 0 ∨ r10 = 1) ∧ Q r10 σ9)))
set_option maxRecDepth 100000 in
set_option maxHeartbeats 4000000 in
theorem s_X12_isOne (sx : Nat × (Nat → Int32)) (a0 : Int32) (b0 : Int32) (σ : Sg) (Q : Int32 → Sg → Prop) (h : w_X12_isOne a0 b0 σ Q) : Ct mX12_isOne 2 false (0, 0) sx G0 [.ref 60, .int a0, .int b0] σ (qI Q) := by
  refine Ct.of (L := [some (.ref 60), some (.int a0), some (.int b0)]) (by decide) (Nat.le_of_ble_eq_true rfl) rfl ?_
  unfold w_X12_isOne at h
  refine X_iload_n dX12_isOne_0 rfl rfl ?_
  refine X_iconst (v := 0) dX12_isOne_1 iconst_0 ?_
  refine X_iconst (v := 3) dX12_isOne_2 iconst_3 ?_
  refine X_callSi [.int b0, .int (0 : Int32), .int (3 : Int32)] [] c_X12_in t_X12_in lk_X12_128 dX12_isOne_3 rfl (by decide) (Nat.le_of_ble_eq_true rfl) rfl (s_X12_in sx b0 (0 : Int32) (3 : Int32)  σ _ h) (fun r2 σ1 h => ?_)
  refine X_if_eq (tgt := 17) dX12_isOne_6 (by decide) h (fun h => ?_) (fun h => ?_)
  · refine X_iload_n dX12_isOne_17 rfl rfl ?_
    refine X_iconst (v := 4) dX12_isOne_18 iconst_4 ?_
    refine X_iconst (v := 5) dX12_isOne_19 iconst_5 ?_
    refine X_callSi [.int b0, .int (4 : Int32), .int (5 : Int32)] [] c_X12_in t_X12_in lk_X12_128 dX12_isOne_20 rfl (by decide) (Nat.le_of_ble_eq_true rfl) rfl (s_X12_in sx b0 (4 : Int32) (5 : Int32)  σ1 _ h) (fun r4 σ3 h => ?_)
    refine X_if_eq (tgt := 34) dX12_isOne_23 (by decide) h (fun h => ?_) (fun h => ?_)
    · refine X_iload_n dX12_isOne_34 rfl rfl ?_
      refine X_bipush (v := 6) dX12_isOne_35 bipush_6 ?_
      refine X_bipush (v := 8) dX12_isOne_37 bipush_8 ?_
      refine X_callSi [.int b0, .int (6 : Int32), .int (8 : Int32)] [] c_X12_in t_X12_in lk_X12_128 dX12_isOne_39 rfl (by decide) (Nat.le_of_ble_eq_true rfl) rfl (s_X12_in sx b0 (6 : Int32) (8 : Int32)  σ3 _ h) (fun r6 σ5 h => ?_)
      refine X_if_eq (tgt := 53) dX12_isOne_42 (by decide) h (fun h => ?_) (fun h => ?_)
      · refine X_iconst (v := 0) dX12_isOne_53 iconst_0 ?_
        exact X_retz rfl rfl dX12_isOne_54 h
      · refine X_iload_n dX12_isOne_45 rfl rfl ?_
        refine X_if_ne (tgt := 53) dX12_isOne_46 (by decide) h (fun h => ?_) (fun h => ?_)
        · refine X_iconst (v := 0) dX12_isOne_53 iconst_0 ?_
          exact X_retz rfl rfl dX12_isOne_54 h
        · refine X_iconst (v := 1) dX12_isOne_49 iconst_1 ?_
          refine X_goto (tgt := 54) dX12_isOne_50 (by decide) ?_
          exact X_retz rfl rfl dX12_isOne_54 h
    · refine X_aload_n dX12_isOne_26 rfl rfl ?_
      refine X_iload_n dX12_isOne_27 rfl rfl ?_
      refine X_callVi [.int a0] [] c_X12_isPlace v_X12_isPlace lk_X12_139 dX12_isOne_28 g_60 rfl rfl rfl (by decide) (Nat.le_of_ble_eq_true rfl) rfl (s_X12_isPlace sx a0  σ3 _ h) (fun r8 σ7 h => ?_)
      refine X_goto (tgt := 54) dX12_isOne_31 (by decide) ?_
      exact X_retz rfl (nzb h.1) dX12_isOne_54 h.2
  · refine X_aload_n dX12_isOne_9 rfl rfl ?_
    refine X_iload_n dX12_isOne_10 rfl rfl ?_
    refine X_callVi [.int a0] [] c_X12_isCarriage v_X12_isCarriage lk_X12_135 dX12_isOne_11 g_60 rfl rfl rfl (by decide) (Nat.le_of_ble_eq_true rfl) rfl (s_X12_isCarriage sx a0  σ1 _ h) (fun r10 σ9 h => ?_)
    refine X_goto (tgt := 54) dX12_isOne_14 (by decide) ?_
    exact X_retz rfl (nzb h.1) dX12_isOne_54 h.2
def w_X12_mayHave (a0 : Int32) (b0 : Int32) (σ : Sg) (Q : Int32 → Sg → Prop) : Prop := if a0 = (1 : Int32) then (w_X12_in b0 (0 : Int32) (7 : Int32) σ (fun r2 σ1 => (r2 = 0 ∨ r2 = 1) ∧ Q r2 σ1)) else (if a0 = (2 : Int32) then (w_X12_in b0 (1 : Int32) (4 : Int32) σ (fun r4 σ3 => (r4 = 0 ∨ r4 = 1) ∧ Q r4 σ3)) else (if a0 = (3 : Int32) then (w_X12_in b0 (0 : Int32) (9 : Int32) σ (fun r6 σ5 => (r6 = 0 ∨ r6 = 1) ∧ Q r6 σ5)) else (if a0 = (5 : Int32) then (w_X12_in b0 (0 : Int32) (9 : Int32) σ (fun r8 σ7 => (r8 = 0 ∨ r8 = 1) ∧ Q r8 σ7)) else (if a0 = (6 : Int32) then (w_X12_in b0 (0 : Int32) (5 : Int32) σ (fun r10 σ9 => (r10 = 0 ∨ r10 = 1) ∧ Q r10 σ9)) else (if a0 = (7 : Int32) then (w_X12_in b0 (-3 : Int32) (3 : Int32) σ (fun r12 σ11 => (r12 = 0 ∨ r12 = 1) ∧ Q r12 σ11)) else (if a0 = (8 : Int32) then (w_X12_in b0 (0 : Int32) (99 : Int32) σ (fun r14 σ13 => (r14 = 0 ∨ r14 = 1) ∧ Q r14 σ13)) else (w_X12_isCell b0 σ (fun r16 σ15 => (r16 = 0 ∨ r16 = 1) ∧ Q r16 σ15))))))))
set_option maxRecDepth 100000 in
set_option maxHeartbeats 4000000 in
theorem s_X12_mayHave (sx : Nat × (Nat → Int32)) (a0 : Int32) (b0 : Int32) (σ : Sg) (Q : Int32 → Sg → Prop) (h : w_X12_mayHave a0 b0 σ Q) : Ct mX12_mayHave 2 false (0, 0) sx G0 [.int a0, .int b0] σ (qI Q) := by
  refine Ct.of (L := [some (.int a0), some (.int b0)]) (by decide) (Nat.le_of_ble_eq_true rfl) rfl ?_
  unfold w_X12_mayHave at h
  refine X_iload_n dX12_mayHave_0 rfl rfl ?_
  by_cases hc1_1 : a0 = (1 : Int32)
  · replace h := if_t h hc1_1
    refine X_tableIn (tgt := 48) dX12_mayHave_1 (by rw [hc1_1] <;> decide) (by rw [hc1_1] <;> decide) (by rw [hc1_1] <;> rfl) (by decide) ?_
    refine X_iload_n dX12_mayHave_48 rfl rfl ?_
    refine X_iconst (v := 0) dX12_mayHave_49 iconst_0 ?_
    refine X_bipush (v := 7) dX12_mayHave_50 bipush_7 ?_
    refine X_callSi [.int b0, .int (0 : Int32), .int (7 : Int32)] [] c_X12_in t_X12_in lk_X12_128 dX12_mayHave_52 rfl (by decide) (Nat.le_of_ble_eq_true rfl) rfl (s_X12_in sx b0 (0 : Int32) (7 : Int32)  σ _ h) (fun r2 σ1 h => ?_)
    exact X_retz rfl (nzb h.1) dX12_mayHave_55 h.2
  replace h := if_f h hc1_1
  by_cases hc1_2 : a0 = (2 : Int32)
  · replace h := if_t h hc1_2
    refine X_tableIn (tgt := 56) dX12_mayHave_1 (by rw [hc1_2] <;> decide) (by rw [hc1_2] <;> decide) (by rw [hc1_2] <;> rfl) (by decide) ?_
    refine X_iload_n dX12_mayHave_56 rfl rfl ?_
    refine X_iconst (v := 1) dX12_mayHave_57 iconst_1 ?_
    refine X_iconst (v := 4) dX12_mayHave_58 iconst_4 ?_
    refine X_callSi [.int b0, .int (1 : Int32), .int (4 : Int32)] [] c_X12_in t_X12_in lk_X12_128 dX12_mayHave_59 rfl (by decide) (Nat.le_of_ble_eq_true rfl) rfl (s_X12_in sx b0 (1 : Int32) (4 : Int32)  σ _ h) (fun r4 σ3 h => ?_)
    exact X_retz rfl (nzb h.1) dX12_mayHave_62 h.2
  replace h := if_f h hc1_2
  by_cases hc1_3 : a0 = (3 : Int32)
  · replace h := if_t h hc1_3
    refine X_tableIn (tgt := 63) dX12_mayHave_1 (by rw [hc1_3] <;> decide) (by rw [hc1_3] <;> decide) (by rw [hc1_3] <;> rfl) (by decide) ?_
    refine X_iload_n dX12_mayHave_63 rfl rfl ?_
    refine X_iconst (v := 0) dX12_mayHave_64 iconst_0 ?_
    refine X_bipush (v := 9) dX12_mayHave_65 bipush_9 ?_
    refine X_callSi [.int b0, .int (0 : Int32), .int (9 : Int32)] [] c_X12_in t_X12_in lk_X12_128 dX12_mayHave_67 rfl (by decide) (Nat.le_of_ble_eq_true rfl) rfl (s_X12_in sx b0 (0 : Int32) (9 : Int32)  σ _ h) (fun r6 σ5 h => ?_)
    exact X_retz rfl (nzb h.1) dX12_mayHave_70 h.2
  replace h := if_f h hc1_3
  by_cases hc1_5 : a0 = (5 : Int32)
  · replace h := if_t h hc1_5
    refine X_tableIn (tgt := 71) dX12_mayHave_1 (by rw [hc1_5] <;> decide) (by rw [hc1_5] <;> decide) (by rw [hc1_5] <;> rfl) (by decide) ?_
    refine X_iload_n dX12_mayHave_71 rfl rfl ?_
    refine X_iconst (v := 0) dX12_mayHave_72 iconst_0 ?_
    refine X_bipush (v := 9) dX12_mayHave_73 bipush_9 ?_
    refine X_callSi [.int b0, .int (0 : Int32), .int (9 : Int32)] [] c_X12_in t_X12_in lk_X12_128 dX12_mayHave_75 rfl (by decide) (Nat.le_of_ble_eq_true rfl) rfl (s_X12_in sx b0 (0 : Int32) (9 : Int32)  σ _ h) (fun r8 σ7 h => ?_)
    exact X_retz rfl (nzb h.1) dX12_mayHave_78 h.2
  replace h := if_f h hc1_5
  by_cases hc1_6 : a0 = (6 : Int32)
  · replace h := if_t h hc1_6
    refine X_tableIn (tgt := 79) dX12_mayHave_1 (by rw [hc1_6] <;> decide) (by rw [hc1_6] <;> decide) (by rw [hc1_6] <;> rfl) (by decide) ?_
    refine X_iload_n dX12_mayHave_79 rfl rfl ?_
    refine X_iconst (v := 0) dX12_mayHave_80 iconst_0 ?_
    refine X_iconst (v := 5) dX12_mayHave_81 iconst_5 ?_
    refine X_callSi [.int b0, .int (0 : Int32), .int (5 : Int32)] [] c_X12_in t_X12_in lk_X12_128 dX12_mayHave_82 rfl (by decide) (Nat.le_of_ble_eq_true rfl) rfl (s_X12_in sx b0 (0 : Int32) (5 : Int32)  σ _ h) (fun r10 σ9 h => ?_)
    exact X_retz rfl (nzb h.1) dX12_mayHave_85 h.2
  replace h := if_f h hc1_6
  by_cases hc1_7 : a0 = (7 : Int32)
  · replace h := if_t h hc1_7
    refine X_tableIn (tgt := 86) dX12_mayHave_1 (by rw [hc1_7] <;> decide) (by rw [hc1_7] <;> decide) (by rw [hc1_7] <;> rfl) (by decide) ?_
    refine X_iload_n dX12_mayHave_86 rfl rfl ?_
    refine X_bipush (v := -3) dX12_mayHave_87 bipush_m3 ?_
    refine X_iconst (v := 3) dX12_mayHave_89 iconst_3 ?_
    refine X_callSi [.int b0, .int (-3 : Int32), .int (3 : Int32)] [] c_X12_in t_X12_in lk_X12_128 dX12_mayHave_90 rfl (by decide) (Nat.le_of_ble_eq_true rfl) rfl (s_X12_in sx b0 (-3 : Int32) (3 : Int32)  σ _ h) (fun r12 σ11 h => ?_)
    exact X_retz rfl (nzb h.1) dX12_mayHave_93 h.2
  replace h := if_f h hc1_7
  by_cases hc1_8 : a0 = (8 : Int32)
  · replace h := if_t h hc1_8
    refine X_tableIn (tgt := 94) dX12_mayHave_1 (by rw [hc1_8] <;> decide) (by rw [hc1_8] <;> decide) (by rw [hc1_8] <;> rfl) (by decide) ?_
    refine X_iload_n dX12_mayHave_94 rfl rfl ?_
    refine X_iconst (v := 0) dX12_mayHave_95 iconst_0 ?_
    refine X_bipush (v := 99) dX12_mayHave_96 bipush_99 ?_
    refine X_callSi [.int b0, .int (0 : Int32), .int (99 : Int32)] [] c_X12_in t_X12_in lk_X12_128 dX12_mayHave_98 rfl (by decide) (Nat.le_of_ble_eq_true rfl) rfl (s_X12_in sx b0 (0 : Int32) (99 : Int32)  σ _ h) (fun r14 σ13 h => ?_)
    exact X_retz rfl (nzb h.1) dX12_mayHave_101 h.2
  replace h := if_f h hc1_8
  by_cases hc1_4 : a0 = (4 : Int32)
  · refine X_tableIn (tgt := 102) dX12_mayHave_1 (by rw [hc1_4] <;> decide) (by rw [hc1_4] <;> decide) (by rw [hc1_4] <;> rfl) (by decide) ?_
    refine X_iload_n dX12_mayHave_102 rfl rfl ?_
    refine X_callSi [.int b0] [] c_X12_isCell t_X12_isCell lk_X12_142 dX12_mayHave_103 rfl (by decide) (Nat.le_of_ble_eq_true rfl) rfl (s_X12_isCell sx b0  σ _ h) (fun r16 σ15 h => ?_)
    exact X_retz rfl (nzb h.1) dX12_mayHave_106 h.2
  refine X_tableOut (tgt := 102) dX12_mayHave_1 (tbl_out (fun j h1 h2 e => ?_)) (by decide) ?_
  · rcases (show j = 1 ∨ j = 2 ∨ j = 3 ∨ j = 4 ∨ j = 5 ∨ j = 6 ∨ j = 7 ∨ j = 8 by omega) with rfl | rfl | rfl | rfl | rfl | rfl | rfl | rfl
    · exact ne_toInt hc1_1 e
    · exact ne_toInt hc1_2 e
    · exact ne_toInt hc1_3 e
    · exact ne_toInt hc1_4 e
    · exact ne_toInt hc1_5 e
    · exact ne_toInt hc1_6 e
    · exact ne_toInt hc1_7 e
    · exact ne_toInt hc1_8 e
  refine X_iload_n dX12_mayHave_102 rfl rfl ?_
  refine X_callSi [.int b0] [] c_X12_isCell t_X12_isCell lk_X12_142 dX12_mayHave_103 rfl (by decide) (Nat.le_of_ble_eq_true rfl) rfl (s_X12_isCell sx b0  σ _ h) (fun r16 σ15 h => ?_)
  exact X_retz rfl (nzb h.1) dX12_mayHave_106 h.2
def w_X12_mend (a0 : Int32) (b0 : Int32) (c0 : Int32) (σ : Sg) (Q : Int32 → Sg → Prop) : Prop := w_X12_isOne a0 b0 σ (fun r2 σ1 => if r2 = 0 then (Q (-2000000000 : Int32) σ1) else (w_X12_mayHave b0 c0 σ1 (fun r4 σ3 => if r4 = 0 then (Q (-2000000000 : Int32) σ3) else (w_X12_changes b0 a0 c0 σ3 (fun r6 σ5 => Q r6 σ5)))))
set_option maxRecDepth 100000 in
set_option maxHeartbeats 4000000 in
theorem s_X12_mend (sx : Nat × (Nat → Int32)) (a0 : Int32) (b0 : Int32) (c0 : Int32) (σ : Sg) (Q : Int32 → Sg → Prop) (h : w_X12_mend a0 b0 c0 σ Q) : Ct mX12_mend 3 false (0, 0) sx G0 [.ref 60, .int a0, .int b0, .int c0] σ (qI Q) := by
  refine Ct.of (L := [some (.ref 60), some (.int a0), some (.int b0), some (.int c0)]) (by decide) (Nat.le_of_ble_eq_true rfl) rfl ?_
  unfold w_X12_mend at h
  refine X_aload_n dX12_mend_0 rfl rfl ?_
  refine X_iload_n dX12_mend_1 rfl rfl ?_
  refine X_iload_n dX12_mend_2 rfl rfl ?_
  refine X_callVi [.int a0, .int b0] [] c_X12_isOne v_X12_isOne lk_X12_167 dX12_mend_3 g_60 rfl rfl rfl (by decide) (Nat.le_of_ble_eq_true rfl) rfl (s_X12_isOne sx a0 b0  σ _ h) (fun r2 σ1 h => ?_)
  refine X_if_eq (tgt := 27) dX12_mend_6 (by decide) h (fun h => ?_) (fun h => ?_)
  · refine X_ldc (v := -2000000000) dX12_mend_27 k_X12_177 ?_
    exact X_reti rfl dX12_mend_29 h
  · refine X_iload_n dX12_mend_9 rfl rfl ?_
    refine X_iload_n dX12_mend_10 rfl rfl ?_
    refine X_callSi [.int b0, .int c0] [] c_X12_mayHave t_X12_mayHave lk_X12_171 dX12_mend_11 rfl (by decide) (Nat.le_of_ble_eq_true rfl) rfl (s_X12_mayHave sx b0 c0  σ1 _ h) (fun r4 σ3 h => ?_)
    refine X_if_eq (tgt := 27) dX12_mend_14 (by decide) h (fun h => ?_) (fun h => ?_)
    · refine X_ldc (v := -2000000000) dX12_mend_27 k_X12_177 ?_
      exact X_reti rfl dX12_mend_29 h
    · refine X_aload_n dX12_mend_17 rfl rfl ?_
      refine X_iload_n dX12_mend_18 rfl rfl ?_
      refine X_iload_n dX12_mend_19 rfl rfl ?_
      refine X_iload_n dX12_mend_20 rfl rfl ?_
      refine X_callVi [.int b0, .int a0, .int c0] [] c_X12_changes v_X12_changes lk_X12_174 dX12_mend_21 g_60 rfl rfl rfl (by decide) (Nat.le_of_ble_eq_true rfl) rfl (s_X12_changes sx b0 a0 c0  σ3 _ h) (fun r6 σ5 h => ?_)
      refine X_goto (tgt := 29) dX12_mend_24 (by decide) ?_
      exact X_reti rfl dX12_mend_29 h
def w_X12_of (a0 : Int32) (b0 : Int32) (σ : Sg) (Q : Int32 → Sg → Prop) : Prop := w_X12_isOne a0 b0 σ (fun r2 σ1 => if r2 = 0 then (Q (-2000000000 : Int32) σ1) else (w_X12_valueAt b0 a0 σ1 (fun r4 σ3 => Q r4 σ3)))
set_option maxRecDepth 100000 in
set_option maxHeartbeats 4000000 in
theorem s_X12_of (sx : Nat × (Nat → Int32)) (a0 : Int32) (b0 : Int32) (σ : Sg) (Q : Int32 → Sg → Prop) (h : w_X12_of a0 b0 σ Q) : Ct mX12_of 3 false (0, 0) sx G0 [.ref 60, .int a0, .int b0] σ (qI Q) := by
  refine Ct.of (L := [some (.ref 60), some (.int a0), some (.int b0)]) (by decide) (Nat.le_of_ble_eq_true rfl) rfl ?_
  unfold w_X12_of at h
  refine X_aload_n dX12_of_0 rfl rfl ?_
  refine X_iload_n dX12_of_1 rfl rfl ?_
  refine X_iload_n dX12_of_2 rfl rfl ?_
  refine X_callVi [.int a0, .int b0] [] c_X12_isOne v_X12_isOne lk_X12_167 dX12_of_3 g_60 rfl rfl rfl (by decide) (Nat.le_of_ble_eq_true rfl) rfl (s_X12_isOne sx a0 b0  σ _ h) (fun r2 σ1 h => ?_)
  refine X_if_eq (tgt := 18) dX12_of_6 (by decide) h (fun h => ?_) (fun h => ?_)
  · refine X_ldc (v := -2000000000) dX12_of_18 k_X12_177 ?_
    exact X_reti rfl dX12_of_20 h
  · refine X_aload_n dX12_of_9 rfl rfl ?_
    refine X_iload_n dX12_of_10 rfl rfl ?_
    refine X_iload_n dX12_of_11 rfl rfl ?_
    refine X_callVi [.int b0, .int a0] [] c_X12_valueAt v_X12_valueAt lk_X12_154 dX12_of_12 g_60 rfl rfl rfl (by decide) (Nat.le_of_ble_eq_true rfl) rfl (s_X12_valueAt sx b0 a0  σ1 _ h) (fun r4 σ3 h => ?_)
    refine X_goto (tgt := 20) dX12_of_15 (by decide) ?_
    exact X_reti rfl dX12_of_20 h
def w_X12_feed (a0 : Int32) (σ : Sg) (Q : Int32 → Sg → Prop) : Prop := w_X12_in a0 (0 : Int32) (255 : Int32) σ (fun r2 σ1 => if r2 = 0 then (Q (-1 : Int32) σ1) else (if (σ1.1 60 17) = (120 : Int32) then (Q (-3 : Int32) σ1) else (vp_in (σ1.1 60 17) 120 ∧ bd (sI σ1 72 (Int32.toNatClampNeg (σ1.1 60 17)) (vp_nar .byte (Int8.toInt32 (Int32.toInt8 a0)))) fun σ3 => bd (sI σ3 60 17 ((σ3.1 60 17) + (1 : Int32))) fun σ4 => Q (σ4.1 60 17) σ4)))
set_option maxRecDepth 100000 in
set_option maxHeartbeats 4000000 in
theorem s_X12_feed (sx : Nat × (Nat → Int32)) (a0 : Int32) (σ : Sg) (Q : Int32 → Sg → Prop) (h : w_X12_feed a0 σ Q) : Ct mX12_feed 1 false (0, 0) sx G0 [.ref 60, .int a0] σ (qI Q) := by
  refine Ct.of (L := [some (.ref 60), some (.int a0)]) (by decide) (Nat.le_of_ble_eq_true rfl) rfl ?_
  unfold w_X12_feed at h
  refine X_iload_n dX12_feed_0 rfl rfl ?_
  refine X_iconst (v := 0) dX12_feed_1 iconst_0 ?_
  refine X_sipush (v := 255) dX12_feed_2 sipush_255 ?_
  refine X_callSi [.int a0, .int (0 : Int32), .int (255 : Int32)] [] c_X12_in t_X12_in lk_X12_128 dX12_feed_5 rfl (by decide) (Nat.le_of_ble_eq_true rfl) rfl (s_X12_in sx a0 (0 : Int32) (255 : Int32)  σ _ h) (fun r2 σ1 h => ?_)
  refine X_if_ne (tgt := 13) dX12_feed_8 (by decide) h (fun h => ?_) (fun h => ?_)
  · refine X_aload_n dX12_feed_13 rfl rfl ?_
    refine X_get (v := .int (σ1.1 60 17)) ck_X12 f_X12_178 g_60 rfl (fun _ => rfl) dX12_feed_14 ?_
    refine X_bipush (v := 120) dX12_feed_17 bipush_120 ?_
    refine X_icmp_ne (tgt := 25) dX12_feed_19 (by decide) h (fun h => ?_) (fun h => ?_)
    · refine X_aload_n dX12_feed_25 rfl rfl ?_
      refine X_get (v := .ref 72) ck_X12 f_X12_45 g_60 rfl (fun _ => rfl) dX12_feed_26 ?_
      refine X_aload_n dX12_feed_29 rfl rfl ?_
      refine X_get (v := .int (σ1.1 60 17)) ck_X12 f_X12_178 g_60 rfl (fun _ => rfl) dX12_feed_30 ?_
      refine X_iload_n dX12_feed_33 rfl rfl ?_
      refine X_i2b dX12_feed_34 ?_
      refine X_bast g_72 dX12_feed_35 h (fun σ3 h => ?_)
      refine X_aload_n dX12_feed_36 rfl rfl ?_
      refine X_dup dX12_feed_37 rfl ?_
      refine X_get (v := .int (σ3.1 60 17)) ck_X12 f_X12_178 g_60 rfl (fun _ => rfl) dX12_feed_38 ?_
      refine X_iconst (v := 1) dX12_feed_41 iconst_1 ?_
      refine X_iadd dX12_feed_42 ?_
      refine X_putI ck_X12 f_X12_178 rfl g_60 rfl rfl rfl dX12_feed_43 h (fun σ4 h => ?_)
      refine X_aload_n dX12_feed_46 rfl rfl ?_
      refine X_get (v := .int (σ4.1 60 17)) ck_X12 f_X12_178 g_60 rfl (fun _ => rfl) dX12_feed_47 ?_
      exact X_reti rfl dX12_feed_50 h
    · refine X_bipush (v := -3) dX12_feed_22 bipush_m3 ?_
      exact X_reti rfl dX12_feed_24 h
  · refine X_iconst (v := -1) dX12_feed_11 iconst_m1 ?_
    exact X_reti rfl dX12_feed_12 h
def w_X12_look (σ : Sg) (Q : Int32 → Sg → Prop) : Prop := if (σ.1 60 17) ≤ (σ.1 60 18) then (Q (-1 : Int32) σ) else (vp_in (σ.1 60 18) 120 ∧ Q (σ.1 72 (Int32.toNatClampNeg (σ.1 60 18))) σ)
set_option maxRecDepth 100000 in
set_option maxHeartbeats 4000000 in
theorem s_X12_look (sx : Nat × (Nat → Int32)) (σ : Sg) (Q : Int32 → Sg → Prop) (h : w_X12_look σ Q) : Ct mX12_look 0 false (0, 0) sx G0 [.ref 60] σ (qI Q) := by
  refine Ct.of (L := [some (.ref 60)]) (by decide) (Nat.le_of_ble_eq_true rfl) rfl ?_
  unfold w_X12_look at h
  refine X_aload_n dX12_look_0 rfl rfl ?_
  refine X_get (v := .int (σ.1 60 18)) ck_X12 f_X12_181 g_60 rfl (fun _ => rfl) dX12_look_1 ?_
  refine X_aload_n dX12_look_4 rfl rfl ?_
  refine X_get (v := .int (σ.1 60 17)) ck_X12 f_X12_178 g_60 rfl (fun _ => rfl) dX12_look_5 ?_
  refine X_icmp_ge (tgt := 23) dX12_look_8 (by decide) h (fun h => ?_) (fun h => ?_)
  · refine X_iconst (v := -1) dX12_look_23 iconst_m1 ?_
    exact X_reti rfl dX12_look_24 h
  · refine X_aload_n dX12_look_11 rfl rfl ?_
    refine X_get (v := .ref 72) ck_X12 f_X12_45 g_60 rfl (fun _ => rfl) dX12_look_12 ?_
    refine X_aload_n dX12_look_15 rfl rfl ?_
    refine X_get (v := .int (σ.1 60 18)) ck_X12 f_X12_181 g_60 rfl (fun _ => rfl) dX12_look_16 ?_
    refine X_bald g_72 dX12_look_19 h (fun h => ?_)
    refine X_goto (tgt := 24) dX12_look_20 (by decide) ?_
    exact X_reti rfl dX12_look_24 h
def w_X12_wrong (σ : Sg) (Q : Sg → Prop) : Prop := if 0 ≤ (σ.1 60 19) then (Q σ) else (bd (sI σ 60 19 (σ.1 60 18)) fun σ1 => Q σ1)
set_option maxRecDepth 100000 in
set_option maxHeartbeats 4000000 in
theorem s_X12_wrong (sx : Nat × (Nat → Int32)) (σ : Sg) (Q : Sg → Prop) (h : w_X12_wrong σ Q) : Ct mX12_wrong 0 false (0, 0) sx G0 [.ref 60] σ (qV Q) := by
  refine Ct.of (L := [some (.ref 60)]) (by decide) (Nat.le_of_ble_eq_true rfl) rfl ?_
  unfold w_X12_wrong at h
  refine X_aload_n dX12_wrong_0 rfl rfl ?_
  refine X_get (v := .int (σ.1 60 19)) ck_X12 f_X12_184 g_60 rfl (fun _ => rfl) dX12_wrong_1 ?_
  refine X_if_ge (tgt := 15) dX12_wrong_4 (by decide) h (fun h => ?_) (fun h => ?_)
  · exact X_retv rfl dX12_wrong_15 h
  · refine X_aload_n dX12_wrong_7 rfl rfl ?_
    refine X_aload_n dX12_wrong_8 rfl rfl ?_
    refine X_get (v := .int (σ.1 60 18)) ck_X12 f_X12_181 g_60 rfl (fun _ => rfl) dX12_wrong_9 ?_
    refine X_putI ck_X12 f_X12_184 rfl g_60 rfl rfl rfl dX12_wrong_12 h (fun σ1 h => ?_)
    exact X_retv rfl dX12_wrong_15 h
def w_X12_addStep (a0 : Int32) (b0 : Int32) (σ : Sg) (Q : Sg → Prop) : Prop := vp_in ((130 : Int32) + (σ.1 60 21)) 260 ∧ bd (sI σ 73 (Int32.toNatClampNeg ((130 : Int32) + (σ.1 60 21))) (vp_nar .byte (Int8.toInt32 (Int32.toInt8 a0)))) fun σ1 => vp_in ((130 : Int32) + (σ1.1 60 21)) 260 ∧ bd (sI σ1 74 (Int32.toNatClampNeg ((130 : Int32) + (σ1.1 60 21))) b0) fun σ2 => bd (sI σ2 60 21 ((σ2.1 60 21) + (1 : Int32))) fun σ3 => Q σ3
set_option maxRecDepth 100000 in
set_option maxHeartbeats 4000000 in
theorem s_X12_addStep (sx : Nat × (Nat → Int32)) (a0 : Int32) (b0 : Int32) (σ : Sg) (Q : Sg → Prop) (h : w_X12_addStep a0 b0 σ Q) : Ct mX12_addStep 0 false (0, 0) sx G0 [.ref 60, .int a0, .int b0] σ (qV Q) := by
  refine Ct.of (L := [some (.ref 60), some (.int a0), some (.int b0)]) (by decide) (Nat.le_of_ble_eq_true rfl) rfl ?_
  unfold w_X12_addStep at h
  refine X_aload_n dX12_addStep_0 rfl rfl ?_
  refine X_get (v := .ref 73) ck_X12 f_X12_49 g_60 rfl (fun _ => rfl) dX12_addStep_1 ?_
  refine X_sipush (v := 130) dX12_addStep_4 sipush_130 ?_
  refine X_aload_n dX12_addStep_7 rfl rfl ?_
  refine X_get (v := .int (σ.1 60 21)) ck_X12 f_X12_187 g_60 rfl (fun _ => rfl) dX12_addStep_8 ?_
  refine X_iadd dX12_addStep_11 ?_
  refine X_iload_n dX12_addStep_12 rfl rfl ?_
  refine X_i2b dX12_addStep_13 ?_
  refine X_bast g_73 dX12_addStep_14 h (fun σ1 h => ?_)
  refine X_aload_n dX12_addStep_15 rfl rfl ?_
  refine X_get (v := .ref 74) ck_X12 f_X12_52 g_60 rfl (fun _ => rfl) dX12_addStep_16 ?_
  refine X_sipush (v := 130) dX12_addStep_19 sipush_130 ?_
  refine X_aload_n dX12_addStep_22 rfl rfl ?_
  refine X_get (v := .int (σ1.1 60 21)) ck_X12 f_X12_187 g_60 rfl (fun _ => rfl) dX12_addStep_23 ?_
  refine X_iadd dX12_addStep_26 ?_
  refine X_iload_n dX12_addStep_27 rfl rfl ?_
  refine X_iast g_74 dX12_addStep_28 h (fun σ2 h => ?_)
  refine X_aload_n dX12_addStep_29 rfl rfl ?_
  refine X_dup dX12_addStep_30 rfl ?_
  refine X_get (v := .int (σ2.1 60 21)) ck_X12 f_X12_187 g_60 rfl (fun _ => rfl) dX12_addStep_31 ?_
  refine X_iconst (v := 1) dX12_addStep_34 iconst_1 ?_
  refine X_iadd dX12_addStep_35 ?_
  refine X_putI ck_X12 f_X12_187 rfl g_60 rfl rfl rfl dX12_addStep_36 h (fun σ3 h => ?_)
  exact X_retv rfl dX12_addStep_39 h
def w_X12_nameOf (a0 : Int32) (σ : Sg) (Q : Int32 → Sg → Prop) : Prop := if a0 = (100 : Int32) then (Q (3 : Int32) σ) else (if a0 = (104 : Int32) then (Q (2 : Int32) σ) else (if a0 = (107 : Int32) then (Q (4 : Int32) σ) else (if a0 = (112 : Int32) then (Q (5 : Int32) σ) else (if a0 = (115 : Int32) then (Q (1 : Int32) σ) else (if a0 = (119 : Int32) then (Q (0 : Int32) σ) else (Q (-1 : Int32) σ))))))
set_option maxRecDepth 100000 in
set_option maxHeartbeats 4000000 in
theorem s_X12_nameOf (sx : Nat × (Nat → Int32)) (a0 : Int32) (σ : Sg) (Q : Int32 → Sg → Prop) (h : w_X12_nameOf a0 σ Q) : Ct mX12_nameOf 0 false (0, 0) sx G0 [.int a0] σ (qI Q) := by
  refine Ct.of (L := [some (.int a0)]) (by decide) (Nat.le_of_ble_eq_true rfl) rfl ?_
  unfold w_X12_nameOf at h
  refine X_iload_n dX12_nameOf_0 rfl rfl ?_
  by_cases hc1_100 : a0 = (100 : Int32)
  · replace h := if_t h hc1_100
    refine X_tableIn (tgt := 102) dX12_nameOf_1 (by rw [hc1_100] <;> decide) (by rw [hc1_100] <;> decide) (by rw [hc1_100] <;> rfl) (by decide) ?_
    refine X_iconst (v := 3) dX12_nameOf_102 iconst_3 ?_
    exact X_reti rfl dX12_nameOf_103 h
  replace h := if_f h hc1_100
  by_cases hc1_104 : a0 = (104 : Int32)
  · replace h := if_t h hc1_104
    refine X_tableIn (tgt := 100) dX12_nameOf_1 (by rw [hc1_104] <;> decide) (by rw [hc1_104] <;> decide) (by rw [hc1_104] <;> rfl) (by decide) ?_
    refine X_iconst (v := 2) dX12_nameOf_100 iconst_2 ?_
    exact X_reti rfl dX12_nameOf_101 h
  replace h := if_f h hc1_104
  by_cases hc1_107 : a0 = (107 : Int32)
  · replace h := if_t h hc1_107
    refine X_tableIn (tgt := 104) dX12_nameOf_1 (by rw [hc1_107] <;> decide) (by rw [hc1_107] <;> decide) (by rw [hc1_107] <;> rfl) (by decide) ?_
    refine X_iconst (v := 4) dX12_nameOf_104 iconst_4 ?_
    exact X_reti rfl dX12_nameOf_105 h
  replace h := if_f h hc1_107
  by_cases hc1_112 : a0 = (112 : Int32)
  · replace h := if_t h hc1_112
    refine X_tableIn (tgt := 106) dX12_nameOf_1 (by rw [hc1_112] <;> decide) (by rw [hc1_112] <;> decide) (by rw [hc1_112] <;> rfl) (by decide) ?_
    refine X_iconst (v := 5) dX12_nameOf_106 iconst_5 ?_
    exact X_reti rfl dX12_nameOf_107 h
  replace h := if_f h hc1_112
  by_cases hc1_115 : a0 = (115 : Int32)
  · replace h := if_t h hc1_115
    refine X_tableIn (tgt := 98) dX12_nameOf_1 (by rw [hc1_115] <;> decide) (by rw [hc1_115] <;> decide) (by rw [hc1_115] <;> rfl) (by decide) ?_
    refine X_iconst (v := 1) dX12_nameOf_98 iconst_1 ?_
    exact X_reti rfl dX12_nameOf_99 h
  replace h := if_f h hc1_115
  by_cases hc1_119 : a0 = (119 : Int32)
  · replace h := if_t h hc1_119
    refine X_tableIn (tgt := 96) dX12_nameOf_1 (by rw [hc1_119] <;> decide) (by rw [hc1_119] <;> decide) (by rw [hc1_119] <;> rfl) (by decide) ?_
    refine X_iconst (v := 0) dX12_nameOf_96 iconst_0 ?_
    exact X_reti rfl dX12_nameOf_97 h
  replace h := if_f h hc1_119
  by_cases hc1_101 : a0 = (101 : Int32)
  · refine X_tableIn (tgt := 108) dX12_nameOf_1 (by rw [hc1_101] <;> decide) (by rw [hc1_101] <;> decide) (by rw [hc1_101] <;> rfl) (by decide) ?_
    refine X_iconst (v := -1) dX12_nameOf_108 iconst_m1 ?_
    exact X_reti rfl dX12_nameOf_109 h
  by_cases hc1_102 : a0 = (102 : Int32)
  · refine X_tableIn (tgt := 108) dX12_nameOf_1 (by rw [hc1_102] <;> decide) (by rw [hc1_102] <;> decide) (by rw [hc1_102] <;> rfl) (by decide) ?_
    refine X_iconst (v := -1) dX12_nameOf_108 iconst_m1 ?_
    exact X_reti rfl dX12_nameOf_109 h
  by_cases hc1_103 : a0 = (103 : Int32)
  · refine X_tableIn (tgt := 108) dX12_nameOf_1 (by rw [hc1_103] <;> decide) (by rw [hc1_103] <;> decide) (by rw [hc1_103] <;> rfl) (by decide) ?_
    refine X_iconst (v := -1) dX12_nameOf_108 iconst_m1 ?_
    exact X_reti rfl dX12_nameOf_109 h
  by_cases hc1_105 : a0 = (105 : Int32)
  · refine X_tableIn (tgt := 108) dX12_nameOf_1 (by rw [hc1_105] <;> decide) (by rw [hc1_105] <;> decide) (by rw [hc1_105] <;> rfl) (by decide) ?_
    refine X_iconst (v := -1) dX12_nameOf_108 iconst_m1 ?_
    exact X_reti rfl dX12_nameOf_109 h
  by_cases hc1_106 : a0 = (106 : Int32)
  · refine X_tableIn (tgt := 108) dX12_nameOf_1 (by rw [hc1_106] <;> decide) (by rw [hc1_106] <;> decide) (by rw [hc1_106] <;> rfl) (by decide) ?_
    refine X_iconst (v := -1) dX12_nameOf_108 iconst_m1 ?_
    exact X_reti rfl dX12_nameOf_109 h
  by_cases hc1_108 : a0 = (108 : Int32)
  · refine X_tableIn (tgt := 108) dX12_nameOf_1 (by rw [hc1_108] <;> decide) (by rw [hc1_108] <;> decide) (by rw [hc1_108] <;> rfl) (by decide) ?_
    refine X_iconst (v := -1) dX12_nameOf_108 iconst_m1 ?_
    exact X_reti rfl dX12_nameOf_109 h
  by_cases hc1_109 : a0 = (109 : Int32)
  · refine X_tableIn (tgt := 108) dX12_nameOf_1 (by rw [hc1_109] <;> decide) (by rw [hc1_109] <;> decide) (by rw [hc1_109] <;> rfl) (by decide) ?_
    refine X_iconst (v := -1) dX12_nameOf_108 iconst_m1 ?_
    exact X_reti rfl dX12_nameOf_109 h
  by_cases hc1_110 : a0 = (110 : Int32)
  · refine X_tableIn (tgt := 108) dX12_nameOf_1 (by rw [hc1_110] <;> decide) (by rw [hc1_110] <;> decide) (by rw [hc1_110] <;> rfl) (by decide) ?_
    refine X_iconst (v := -1) dX12_nameOf_108 iconst_m1 ?_
    exact X_reti rfl dX12_nameOf_109 h
  by_cases hc1_111 : a0 = (111 : Int32)
  · refine X_tableIn (tgt := 108) dX12_nameOf_1 (by rw [hc1_111] <;> decide) (by rw [hc1_111] <;> decide) (by rw [hc1_111] <;> rfl) (by decide) ?_
    refine X_iconst (v := -1) dX12_nameOf_108 iconst_m1 ?_
    exact X_reti rfl dX12_nameOf_109 h
  by_cases hc1_113 : a0 = (113 : Int32)
  · refine X_tableIn (tgt := 108) dX12_nameOf_1 (by rw [hc1_113] <;> decide) (by rw [hc1_113] <;> decide) (by rw [hc1_113] <;> rfl) (by decide) ?_
    refine X_iconst (v := -1) dX12_nameOf_108 iconst_m1 ?_
    exact X_reti rfl dX12_nameOf_109 h
  by_cases hc1_114 : a0 = (114 : Int32)
  · refine X_tableIn (tgt := 108) dX12_nameOf_1 (by rw [hc1_114] <;> decide) (by rw [hc1_114] <;> decide) (by rw [hc1_114] <;> rfl) (by decide) ?_
    refine X_iconst (v := -1) dX12_nameOf_108 iconst_m1 ?_
    exact X_reti rfl dX12_nameOf_109 h
  by_cases hc1_116 : a0 = (116 : Int32)
  · refine X_tableIn (tgt := 108) dX12_nameOf_1 (by rw [hc1_116] <;> decide) (by rw [hc1_116] <;> decide) (by rw [hc1_116] <;> rfl) (by decide) ?_
    refine X_iconst (v := -1) dX12_nameOf_108 iconst_m1 ?_
    exact X_reti rfl dX12_nameOf_109 h
  by_cases hc1_117 : a0 = (117 : Int32)
  · refine X_tableIn (tgt := 108) dX12_nameOf_1 (by rw [hc1_117] <;> decide) (by rw [hc1_117] <;> decide) (by rw [hc1_117] <;> rfl) (by decide) ?_
    refine X_iconst (v := -1) dX12_nameOf_108 iconst_m1 ?_
    exact X_reti rfl dX12_nameOf_109 h
  by_cases hc1_118 : a0 = (118 : Int32)
  · refine X_tableIn (tgt := 108) dX12_nameOf_1 (by rw [hc1_118] <;> decide) (by rw [hc1_118] <;> decide) (by rw [hc1_118] <;> rfl) (by decide) ?_
    refine X_iconst (v := -1) dX12_nameOf_108 iconst_m1 ?_
    exact X_reti rfl dX12_nameOf_109 h
  refine X_tableOut (tgt := 108) dX12_nameOf_1 (tbl_out (fun j h1 h2 e => ?_)) (by decide) ?_
  · rcases (show j = 100 ∨ j = 101 ∨ j = 102 ∨ j = 103 ∨ j = 104 ∨ j = 105 ∨ j = 106 ∨ j = 107 ∨ j = 108 ∨ j = 109 ∨ j = 110 ∨ j = 111 ∨ j = 112 ∨ j = 113 ∨ j = 114 ∨ j = 115 ∨ j = 116 ∨ j = 117 ∨ j = 118 ∨ j = 119 by omega) with rfl | rfl | rfl | rfl | rfl | rfl | rfl | rfl | rfl | rfl | rfl | rfl | rfl | rfl | rfl | rfl | rfl | rfl | rfl | rfl
    · exact ne_toInt hc1_100 e
    · exact ne_toInt hc1_101 e
    · exact ne_toInt hc1_102 e
    · exact ne_toInt hc1_103 e
    · exact ne_toInt hc1_104 e
    · exact ne_toInt hc1_105 e
    · exact ne_toInt hc1_106 e
    · exact ne_toInt hc1_107 e
    · exact ne_toInt hc1_108 e
    · exact ne_toInt hc1_109 e
    · exact ne_toInt hc1_110 e
    · exact ne_toInt hc1_111 e
    · exact ne_toInt hc1_112 e
    · exact ne_toInt hc1_113 e
    · exact ne_toInt hc1_114 e
    · exact ne_toInt hc1_115 e
    · exact ne_toInt hc1_116 e
    · exact ne_toInt hc1_117 e
    · exact ne_toInt hc1_118 e
    · exact ne_toInt hc1_119 e
  refine X_iconst (v := -1) dX12_nameOf_108 iconst_m1 ?_
  exact X_reti rfl dX12_nameOf_109 h
def w_X12_opens (σ : Sg) (Q : Int32 → Sg → Prop) : Prop := if (σ.1 60 20) = (6 : Int32) then (w_X12_wrong  σ (fun  σ3 => Q (0 : Int32) σ3)) else (bd (sI σ 60 20 ((σ.1 60 20) + (1 : Int32))) fun σ1 => bd (sI σ1 60 18 ((σ1.1 60 18) + (1 : Int32))) fun σ2 => Q (1 : Int32) σ2)
set_option maxRecDepth 100000 in
set_option maxHeartbeats 4000000 in
theorem s_X12_opens (sx : Nat × (Nat → Int32)) (σ : Sg) (Q : Int32 → Sg → Prop) (h : w_X12_opens σ Q) : Ct mX12_opens 1 false (0, 0) sx G0 [.ref 60] σ (qI Q) := by
  refine Ct.of (L := [some (.ref 60)]) (by decide) (Nat.le_of_ble_eq_true rfl) rfl ?_
  unfold w_X12_opens at h
  refine X_aload_n dX12_opens_0 rfl rfl ?_
  refine X_get (v := .int (σ.1 60 20)) ck_X12 f_X12_190 g_60 rfl (fun _ => rfl) dX12_opens_1 ?_
  refine X_bipush (v := 6) dX12_opens_4 bipush_6 ?_
  refine X_icmp_ne (tgt := 15) dX12_opens_6 (by decide) h (fun h => ?_) (fun h => ?_)
  · refine X_aload_n dX12_opens_15 rfl rfl ?_
    refine X_dup dX12_opens_16 rfl ?_
    refine X_get (v := .int (σ.1 60 20)) ck_X12 f_X12_190 g_60 rfl (fun _ => rfl) dX12_opens_17 ?_
    refine X_iconst (v := 1) dX12_opens_20 iconst_1 ?_
    refine X_iadd dX12_opens_21 ?_
    refine X_putI ck_X12 f_X12_190 rfl g_60 rfl rfl rfl dX12_opens_22 h (fun σ1 h => ?_)
    refine X_aload_n dX12_opens_25 rfl rfl ?_
    refine X_dup dX12_opens_26 rfl ?_
    refine X_get (v := .int (σ1.1 60 18)) ck_X12 f_X12_181 g_60 rfl (fun _ => rfl) dX12_opens_27 ?_
    refine X_iconst (v := 1) dX12_opens_30 iconst_1 ?_
    refine X_iadd dX12_opens_31 ?_
    refine X_putI ck_X12 f_X12_181 rfl g_60 rfl rfl rfl dX12_opens_32 h (fun σ2 h => ?_)
    refine X_iconst (v := 1) dX12_opens_35 iconst_1 ?_
    exact X_retz rfl rfl dX12_opens_36 h
  · refine X_aload_n dX12_opens_9 rfl rfl ?_
    refine X_callVv [] [] c_X12_wrong v_X12_wrong lk_X12_193 dX12_opens_10 g_60 rfl rfl rfl (by decide) (Nat.le_of_ble_eq_true rfl) rfl (s_X12_wrong sx   σ _ h) (fun  σ3 h => ?_)
    refine X_iconst (v := 0) dX12_opens_13 iconst_0 ?_
    exact X_retz rfl rfl dX12_opens_14 h
def w_X12_figure_l4 (J52 : Int32 → Int32 → Sg → Prop) : Nat → Int32 → Int32 → Sg → Prop
  | 0, _, _, _ => False
  | n4 + 1, x12, x13, σ14 => if (4 : Int32) ≤ x13 then (J52 x12 x13 σ14) else (w_X12_look  σ14 (fun r16 σ15 => w_X12_in r16 (48 : Int32) (57 : Int32) σ15 (fun r18 σ17 => if r18 = 0 then (J52 x12 x13 σ17) else (w_X12_look  σ17 (fun r20 σ19 => bd ((((10 : Int32) * x12) + r20) - (48 : Int32)) fun x21 => bd (sI σ19 60 18 ((σ19.1 60 18) + (1 : Int32))) fun σ22 => w_X12_figure_l4 J52 n4 x21 (x13 + 1) σ22)))))
def w_X12_figure (σ : Sg) (Q : Sg → Prop) : Prop := bd (fun (x1 : Int32) (x2 : Int32) (σ3 : Sg) => bd (fun (σ4 : Sg) => w_X12_addStep (1 : Int32) x1 σ4 (fun  σ5 => Q σ5)) fun J74 => bd (fun (σ6 : Sg) => w_X12_wrong  σ6 (fun  σ7 => J74 σ7)) fun J70 => if x2 = 0 then (J70 σ3) else (w_X12_look  σ3 (fun r9 σ8 => w_X12_in r9 (48 : Int32) (57 : Int32) σ8 (fun r11 σ10 => if r11 = 0 then (J74 σ10) else (J70 σ10))))) fun J52 => ∃ n, w_X12_figure_l4 J52 n (0 : Int32) (0 : Int32) σ
set_option maxRecDepth 100000 in
set_option maxHeartbeats 4000000 in
theorem s_X12_figure (sx : Nat × (Nat → Int32)) (σ : Sg) (Q : Sg → Prop) (h : w_X12_figure σ Q) : Ct mX12_figure 1 false (0, 0) sx G0 [.ref 60] σ (qV Q) := by
  refine Ct.of (L := [some (.ref 60), none, none]) (by decide) (Nat.le_of_ble_eq_true rfl) rfl ?_
  unfold w_X12_figure at h
  refine X_iconst (v := 0) dX12_figure_0 iconst_0 ?_
  refine X_istore_n (L' := [some (.ref 60), some (.int (0 : Int32)), none]) dX12_figure_1 rfl (by decide) rfl ?_
  refine X_iconst (v := 0) dX12_figure_2 iconst_0 ?_
  refine X_istore_n (L' := [some (.ref 60), some (.int (0 : Int32)), some (.int (0 : Int32))]) dX12_figure_3 rfl (by decide) rfl ?_
  refine bd_j h (fun J52 e52 h => ?_)
  have j52 : ∀ (x1 : Int32) (x2 : Int32) (σ3 : Sg) , J52 x1 x2 σ3 → Ex mX12_figure 1 false (0, 0) sx G0 52 [some (.ref 60), some (.int x1), some (.int x2)] [] σ3 (qV Q) := by
    intro x1 x2 σ3  h
    subst e52
    replace h := h
    refine X_iload_n dX12_figure_52 rfl rfl ?_
    refine bd_j h (fun J74 e74 h => ?_)
    have j74 : ∀ (σ4 : Sg) , J74  σ4 → Ex mX12_figure 1 false (0, 0) sx G0 74 [some (.ref 60), some (.int x1), none] [] σ4 (qV Q) := by
      intro  σ4  h
      subst e74
      replace h := h
      refine X_aload_n dX12_figure_74 rfl rfl ?_
      refine X_iconst (v := 1) dX12_figure_75 iconst_1 ?_
      refine X_iload_n dX12_figure_76 rfl rfl ?_
      refine X_callVv [.int (1 : Int32), .int x1] [] c_X12_addStep v_X12_addStep lk_X12_200 dX12_figure_77 g_60 rfl rfl rfl (by decide) (Nat.le_of_ble_eq_true rfl) rfl (s_X12_addStep sx (1 : Int32) x1  σ4 _ h) (fun  σ5 h => ?_)
      exact X_retv rfl dX12_figure_80 h
    refine bd_j h (fun J70 e70 h => ?_)
    have j70 : ∀ (σ6 : Sg) , J70  σ6 → Ex mX12_figure 1 false (0, 0) sx G0 70 [some (.ref 60), some (.int x1), none] [] σ6 (qV Q) := by
      intro  σ6  h
      subst e70
      replace h := h
      refine X_aload_n dX12_figure_70 rfl rfl ?_
      refine X_callVv [] [] c_X12_wrong v_X12_wrong lk_X12_193 dX12_figure_71 g_60 rfl rfl rfl (by decide) (Nat.le_of_ble_eq_true rfl) rfl (s_X12_wrong sx   σ6 _ h) (fun  σ7 h => ?_)
      exact j74 _  h
    refine X_if_eq (tgt := 70) dX12_figure_53 (by decide) h (fun h => ?_) (fun h => ?_)
    · refine X_drop (L' := [some (.ref 60), some (.int x1), none]) ⟨rfl, ⟨rfl, trivial⟩⟩ ?_
      exact j70 _  h
    · refine X_aload_n dX12_figure_56 rfl rfl ?_
      refine X_callVi [] [] c_X12_look v_X12_look lk_X12_196 dX12_figure_57 g_60 rfl rfl rfl (by decide) (Nat.le_of_ble_eq_true rfl) rfl (s_X12_look sx   σ3 _ h) (fun r9 σ8 h => ?_)
      refine X_bipush (v := 48) dX12_figure_60 bipush_48 ?_
      refine X_bipush (v := 57) dX12_figure_62 bipush_57 ?_
      refine X_callSi [.int r9, .int (48 : Int32), .int (57 : Int32)] [] c_X12_in t_X12_in lk_X12_128 dX12_figure_64 rfl (by decide) (Nat.le_of_ble_eq_true rfl) rfl (s_X12_in sx r9 (48 : Int32) (57 : Int32)  σ8 _ h) (fun r11 σ10 h => ?_)
      refine X_if_eq (tgt := 74) dX12_figure_67 (by decide) h (fun h => ?_) (fun h => ?_)
      · refine X_drop (L' := [some (.ref 60), some (.int x1), none]) ⟨rfl, ⟨rfl, trivial⟩⟩ ?_
        exact j74 _  h
      · refine X_drop (L' := [some (.ref 60), some (.int x1), none]) ⟨rfl, ⟨rfl, trivial⟩⟩ ?_
        exact j70 _  h
  obtain ⟨n4, h⟩ := h
  have key4 : ∀ (n : Nat) (x12 : Int32) (x13 : Int32) (σ14 : Sg) , w_X12_figure_l4 J52 n x12 x13 σ14 → Ex mX12_figure 1 false (0, 0) sx G0 4 [some (.ref 60), some (.int x12), some (.int x13)] [] σ14 (qV Q) := by
    intro n4
    induction n4 with
    | zero => intro _ _ _  h; exact h.elim
    | succ n4 ih4 =>
      intro x12 x13 σ14  h
      unfold w_X12_figure_l4 at h
      refine X_iload_n dX12_figure_4 rfl rfl ?_
      refine X_iconst (v := 4) dX12_figure_5 iconst_4 ?_
      refine X_icmp_ge (tgt := 52) dX12_figure_6 (by decide) h (fun h => ?_) (fun h => ?_)
      · exact j52 _ _ _  h
      · refine X_aload_n dX12_figure_9 rfl rfl ?_
        refine X_callVi [] [] c_X12_look v_X12_look lk_X12_196 dX12_figure_10 g_60 rfl rfl rfl (by decide) (Nat.le_of_ble_eq_true rfl) rfl (s_X12_look sx   σ14 _ h) (fun r16 σ15 h => ?_)
        refine X_bipush (v := 48) dX12_figure_13 bipush_48 ?_
        refine X_bipush (v := 57) dX12_figure_15 bipush_57 ?_
        refine X_callSi [.int r16, .int (48 : Int32), .int (57 : Int32)] [] c_X12_in t_X12_in lk_X12_128 dX12_figure_17 rfl (by decide) (Nat.le_of_ble_eq_true rfl) rfl (s_X12_in sx r16 (48 : Int32) (57 : Int32)  σ15 _ h) (fun r18 σ17 h => ?_)
        refine X_if_eq (tgt := 52) dX12_figure_20 (by decide) h (fun h => ?_) (fun h => ?_)
        · exact j52 _ _ _  h
        · refine X_bipush (v := 10) dX12_figure_23 bipush_10 ?_
          refine X_iload_n dX12_figure_25 rfl rfl ?_
          refine X_imul dX12_figure_26 ?_
          refine X_aload_n dX12_figure_27 rfl rfl ?_
          refine X_callVi [] [.int ((10 : Int32) * x12)] c_X12_look v_X12_look lk_X12_196 dX12_figure_28 g_60 rfl rfl rfl (by decide) (Nat.le_of_ble_eq_true rfl) rfl (s_X12_look sx   σ17 _ h) (fun r20 σ19 h => ?_)
          refine X_iadd dX12_figure_31 ?_
          refine X_bipush (v := 48) dX12_figure_32 bipush_48 ?_
          refine X_isub dX12_figure_34 ?_
          refine X_topI h (fun x21 h => ?_)
          refine X_istore_n (L' := [some (.ref 60), some (.int x21), some (.int x13)]) dX12_figure_35 rfl (by decide) rfl ?_
          refine X_iinc (v := (x13 + 1)) (L' := [some (.ref 60), some (.int x21), some (.int (x13 + 1))]) dX12_figure_36 rfl rfl (by decide) rfl ?_
          refine X_aload_n dX12_figure_39 rfl rfl ?_
          refine X_dup dX12_figure_40 rfl ?_
          refine X_get (v := .int (σ19.1 60 18)) ck_X12 f_X12_181 g_60 rfl (fun _ => rfl) dX12_figure_41 ?_
          refine X_iconst (v := 1) dX12_figure_44 iconst_1 ?_
          refine X_iadd dX12_figure_45 ?_
          refine X_putI ck_X12 f_X12_181 rfl g_60 rfl rfl rfl dX12_figure_46 h (fun σ22 h => ?_)
          refine X_goto (tgt := 4) dX12_figure_49 (by decide) ?_
          exact ih4 _ _ _  h
  exact key4 _ _ _ _  h
def w_X12_twoOf (a0 : Int32) (b0 : Int32) (c0 : Int32) (σ : Sg) (Q : Int32 → Sg → Prop) : Prop := if a0 = (37 : Int32) then (if c0 = 0 then (Q (0 : Int32) σ) else (if c0 = (-1 : Int32) then (Q (0 : Int32) σ) else (¬ c0 = 0 ∧ Q (b0 - b0 / c0 * c0) σ))) else (if a0 = (38 : Int32) then (if b0 = 0 then (Q (0 : Int32) σ) else (if c0 = 0 then (Q (0 : Int32) σ) else (Q (1 : Int32) σ))) else (if a0 = (42 : Int32) then (Q (b0 * c0) σ) else (if a0 = (43 : Int32) then (Q (b0 + c0) σ) else (if a0 = (45 : Int32) then (Q (b0 - c0) σ) else (if a0 = (47 : Int32) then (if c0 = 0 then (Q (0 : Int32) σ) else (if c0 = (-1 : Int32) then (Q (-b0) σ) else (¬ c0 = 0 ∧ Q (b0 / c0) σ))) else (if a0 = (60 : Int32) then (if c0 ≤ b0 then (Q (0 : Int32) σ) else (Q (1 : Int32) σ)) else (if a0 = (61 : Int32) then (if b0 = c0 then (Q (1 : Int32) σ) else (Q (0 : Int32) σ)) else (if a0 = (62 : Int32) then (if b0 ≤ c0 then (Q (0 : Int32) σ) else (Q (1 : Int32) σ)) else (if b0 = 0 then (if c0 = 0 then (Q (0 : Int32) σ) else (Q (1 : Int32) σ)) else (Q (1 : Int32) σ))))))))))
set_option maxRecDepth 100000 in
set_option maxHeartbeats 4000000 in
theorem s_X12_twoOf (sx : Nat × (Nat → Int32)) (a0 : Int32) (b0 : Int32) (c0 : Int32) (σ : Sg) (Q : Int32 → Sg → Prop) (h : w_X12_twoOf a0 b0 c0 σ Q) : Ct mX12_twoOf 0 false (0, 0) sx G0 [.int a0, .int b0, .int c0] σ (qI Q) := by
  refine Ct.of (L := [some (.int a0), some (.int b0), some (.int c0)]) (by decide) (Nat.le_of_ble_eq_true rfl) rfl ?_
  unfold w_X12_twoOf at h
  refine X_iload_n dX12_twoOf_0 rfl rfl ?_
  by_cases hc1_37 : a0 = (37 : Int32)
  · replace h := if_t h hc1_37
    refine X_tableIn (tgt := 154) dX12_twoOf_1 (by rw [hc1_37] <;> decide) (by rw [hc1_37] <;> decide) (by rw [hc1_37] <;> rfl) (by decide) ?_
    refine X_iload_n dX12_twoOf_154 rfl rfl ?_
    refine X_if_eq (tgt := 163) dX12_twoOf_155 (by decide) h (fun h => ?_) (fun h => ?_)
    · refine X_iconst (v := 0) dX12_twoOf_163 iconst_0 ?_
      refine X_goto (tgt := 170) dX12_twoOf_164 (by decide) ?_
      exact X_reti rfl dX12_twoOf_170 h
    · refine X_iload_n dX12_twoOf_158 rfl rfl ?_
      refine X_iconst (v := -1) dX12_twoOf_159 iconst_m1 ?_
      refine X_icmp_ne (tgt := 167) dX12_twoOf_160 (by decide) h (fun h => ?_) (fun h => ?_)
      · refine X_iload_n dX12_twoOf_167 rfl rfl ?_
        refine X_iload_n dX12_twoOf_168 rfl rfl ?_
        obtain ⟨hz, h⟩ := h
        refine X_irem dX12_twoOf_169 hz ?_
        exact X_reti rfl dX12_twoOf_170 h
      · refine X_iconst (v := 0) dX12_twoOf_163 iconst_0 ?_
        refine X_goto (tgt := 170) dX12_twoOf_164 (by decide) ?_
        exact X_reti rfl dX12_twoOf_170 h
  replace h := if_f h hc1_37
  by_cases hc1_38 : a0 = (38 : Int32)
  · replace h := if_t h hc1_38
    refine X_tableIn (tgt := 204) dX12_twoOf_1 (by rw [hc1_38] <;> decide) (by rw [hc1_38] <;> decide) (by rw [hc1_38] <;> rfl) (by decide) ?_
    refine X_iload_n dX12_twoOf_204 rfl rfl ?_
    refine X_if_eq (tgt := 216) dX12_twoOf_205 (by decide) h (fun h => ?_) (fun h => ?_)
    · refine X_iconst (v := 0) dX12_twoOf_216 iconst_0 ?_
      exact X_reti rfl dX12_twoOf_217 h
    · refine X_iload_n dX12_twoOf_208 rfl rfl ?_
      refine X_if_eq (tgt := 216) dX12_twoOf_209 (by decide) h (fun h => ?_) (fun h => ?_)
      · refine X_iconst (v := 0) dX12_twoOf_216 iconst_0 ?_
        exact X_reti rfl dX12_twoOf_217 h
      · refine X_iconst (v := 1) dX12_twoOf_212 iconst_1 ?_
        refine X_goto (tgt := 217) dX12_twoOf_213 (by decide) ?_
        exact X_reti rfl dX12_twoOf_217 h
  replace h := if_f h hc1_38
  by_cases hc1_42 : a0 = (42 : Int32)
  · replace h := if_t h hc1_42
    refine X_tableIn (tgt := 128) dX12_twoOf_1 (by rw [hc1_42] <;> decide) (by rw [hc1_42] <;> decide) (by rw [hc1_42] <;> rfl) (by decide) ?_
    refine X_iload_n dX12_twoOf_128 rfl rfl ?_
    refine X_iload_n dX12_twoOf_129 rfl rfl ?_
    refine X_imul dX12_twoOf_130 ?_
    exact X_reti rfl dX12_twoOf_131 h
  replace h := if_f h hc1_42
  by_cases hc1_43 : a0 = (43 : Int32)
  · replace h := if_t h hc1_43
    refine X_tableIn (tgt := 120) dX12_twoOf_1 (by rw [hc1_43] <;> decide) (by rw [hc1_43] <;> decide) (by rw [hc1_43] <;> rfl) (by decide) ?_
    refine X_iload_n dX12_twoOf_120 rfl rfl ?_
    refine X_iload_n dX12_twoOf_121 rfl rfl ?_
    refine X_iadd dX12_twoOf_122 ?_
    exact X_reti rfl dX12_twoOf_123 h
  replace h := if_f h hc1_43
  by_cases hc1_45 : a0 = (45 : Int32)
  · replace h := if_t h hc1_45
    refine X_tableIn (tgt := 124) dX12_twoOf_1 (by rw [hc1_45] <;> decide) (by rw [hc1_45] <;> decide) (by rw [hc1_45] <;> rfl) (by decide) ?_
    refine X_iload_n dX12_twoOf_124 rfl rfl ?_
    refine X_iload_n dX12_twoOf_125 rfl rfl ?_
    refine X_isub dX12_twoOf_126 ?_
    exact X_reti rfl dX12_twoOf_127 h
  replace h := if_f h hc1_45
  by_cases hc1_47 : a0 = (47 : Int32)
  · replace h := if_t h hc1_47
    refine X_tableIn (tgt := 132) dX12_twoOf_1 (by rw [hc1_47] <;> decide) (by rw [hc1_47] <;> decide) (by rw [hc1_47] <;> rfl) (by decide) ?_
    refine X_iload_n dX12_twoOf_132 rfl rfl ?_
    refine X_if_ne (tgt := 140) dX12_twoOf_133 (by decide) h (fun h => ?_) (fun h => ?_)
    · refine X_iload_n dX12_twoOf_140 rfl rfl ?_
      refine X_iconst (v := -1) dX12_twoOf_141 iconst_m1 ?_
      refine X_icmp_ne (tgt := 150) dX12_twoOf_142 (by decide) h (fun h => ?_) (fun h => ?_)
      · refine X_iload_n dX12_twoOf_150 rfl rfl ?_
        refine X_iload_n dX12_twoOf_151 rfl rfl ?_
        obtain ⟨hz, h⟩ := h
        refine X_idiv dX12_twoOf_152 hz ?_
        exact X_reti rfl dX12_twoOf_153 h
      · refine X_iload_n dX12_twoOf_145 rfl rfl ?_
        refine X_ineg dX12_twoOf_146 ?_
        refine X_goto (tgt := 153) dX12_twoOf_147 (by decide) ?_
        exact X_reti rfl dX12_twoOf_153 h
    · refine X_iconst (v := 0) dX12_twoOf_136 iconst_0 ?_
      refine X_goto (tgt := 153) dX12_twoOf_137 (by decide) ?_
      exact X_reti rfl dX12_twoOf_153 h
  replace h := if_f h hc1_47
  by_cases hc1_60 : a0 = (60 : Int32)
  · replace h := if_t h hc1_60
    refine X_tableIn (tgt := 171) dX12_twoOf_1 (by rw [hc1_60] <;> decide) (by rw [hc1_60] <;> decide) (by rw [hc1_60] <;> rfl) (by decide) ?_
    refine X_iload_n dX12_twoOf_171 rfl rfl ?_
    refine X_iload_n dX12_twoOf_172 rfl rfl ?_
    refine X_icmp_ge (tgt := 180) dX12_twoOf_173 (by decide) h (fun h => ?_) (fun h => ?_)
    · refine X_iconst (v := 0) dX12_twoOf_180 iconst_0 ?_
      exact X_reti rfl dX12_twoOf_181 h
    · refine X_iconst (v := 1) dX12_twoOf_176 iconst_1 ?_
      refine X_goto (tgt := 181) dX12_twoOf_177 (by decide) ?_
      exact X_reti rfl dX12_twoOf_181 h
  replace h := if_f h hc1_60
  by_cases hc1_61 : a0 = (61 : Int32)
  · replace h := if_t h hc1_61
    refine X_tableIn (tgt := 182) dX12_twoOf_1 (by rw [hc1_61] <;> decide) (by rw [hc1_61] <;> decide) (by rw [hc1_61] <;> rfl) (by decide) ?_
    refine X_iload_n dX12_twoOf_182 rfl rfl ?_
    refine X_iload_n dX12_twoOf_183 rfl rfl ?_
    refine X_icmp_ne (tgt := 191) dX12_twoOf_184 (by decide) h (fun h => ?_) (fun h => ?_)
    · refine X_iconst (v := 0) dX12_twoOf_191 iconst_0 ?_
      exact X_reti rfl dX12_twoOf_192 h
    · refine X_iconst (v := 1) dX12_twoOf_187 iconst_1 ?_
      refine X_goto (tgt := 192) dX12_twoOf_188 (by decide) ?_
      exact X_reti rfl dX12_twoOf_192 h
  replace h := if_f h hc1_61
  by_cases hc1_62 : a0 = (62 : Int32)
  · replace h := if_t h hc1_62
    refine X_tableIn (tgt := 193) dX12_twoOf_1 (by rw [hc1_62] <;> decide) (by rw [hc1_62] <;> decide) (by rw [hc1_62] <;> rfl) (by decide) ?_
    refine X_iload_n dX12_twoOf_193 rfl rfl ?_
    refine X_iload_n dX12_twoOf_194 rfl rfl ?_
    refine X_icmp_le (tgt := 202) dX12_twoOf_195 (by decide) h (fun h => ?_) (fun h => ?_)
    · refine X_iconst (v := 0) dX12_twoOf_202 iconst_0 ?_
      exact X_reti rfl dX12_twoOf_203 h
    · refine X_iconst (v := 1) dX12_twoOf_198 iconst_1 ?_
      refine X_goto (tgt := 203) dX12_twoOf_199 (by decide) ?_
      exact X_reti rfl dX12_twoOf_203 h
  replace h := if_f h hc1_62
  by_cases hc1_39 : a0 = (39 : Int32)
  · refine X_tableIn (tgt := 218) dX12_twoOf_1 (by rw [hc1_39] <;> decide) (by rw [hc1_39] <;> decide) (by rw [hc1_39] <;> rfl) (by decide) ?_
    refine X_iload_n dX12_twoOf_218 rfl rfl ?_
    refine X_if_ne (tgt := 226) dX12_twoOf_219 (by decide) h (fun h => ?_) (fun h => ?_)
    · refine X_iconst (v := 1) dX12_twoOf_226 iconst_1 ?_
      refine X_goto (tgt := 231) dX12_twoOf_227 (by decide) ?_
      exact X_reti rfl dX12_twoOf_231 h
    · refine X_iload_n dX12_twoOf_222 rfl rfl ?_
      refine X_if_eq (tgt := 230) dX12_twoOf_223 (by decide) h (fun h => ?_) (fun h => ?_)
      · refine X_iconst (v := 0) dX12_twoOf_230 iconst_0 ?_
        exact X_reti rfl dX12_twoOf_231 h
      · refine X_iconst (v := 1) dX12_twoOf_226 iconst_1 ?_
        refine X_goto (tgt := 231) dX12_twoOf_227 (by decide) ?_
        exact X_reti rfl dX12_twoOf_231 h
  by_cases hc1_40 : a0 = (40 : Int32)
  · refine X_tableIn (tgt := 218) dX12_twoOf_1 (by rw [hc1_40] <;> decide) (by rw [hc1_40] <;> decide) (by rw [hc1_40] <;> rfl) (by decide) ?_
    refine X_iload_n dX12_twoOf_218 rfl rfl ?_
    refine X_if_ne (tgt := 226) dX12_twoOf_219 (by decide) h (fun h => ?_) (fun h => ?_)
    · refine X_iconst (v := 1) dX12_twoOf_226 iconst_1 ?_
      refine X_goto (tgt := 231) dX12_twoOf_227 (by decide) ?_
      exact X_reti rfl dX12_twoOf_231 h
    · refine X_iload_n dX12_twoOf_222 rfl rfl ?_
      refine X_if_eq (tgt := 230) dX12_twoOf_223 (by decide) h (fun h => ?_) (fun h => ?_)
      · refine X_iconst (v := 0) dX12_twoOf_230 iconst_0 ?_
        exact X_reti rfl dX12_twoOf_231 h
      · refine X_iconst (v := 1) dX12_twoOf_226 iconst_1 ?_
        refine X_goto (tgt := 231) dX12_twoOf_227 (by decide) ?_
        exact X_reti rfl dX12_twoOf_231 h
  by_cases hc1_41 : a0 = (41 : Int32)
  · refine X_tableIn (tgt := 218) dX12_twoOf_1 (by rw [hc1_41] <;> decide) (by rw [hc1_41] <;> decide) (by rw [hc1_41] <;> rfl) (by decide) ?_
    refine X_iload_n dX12_twoOf_218 rfl rfl ?_
    refine X_if_ne (tgt := 226) dX12_twoOf_219 (by decide) h (fun h => ?_) (fun h => ?_)
    · refine X_iconst (v := 1) dX12_twoOf_226 iconst_1 ?_
      refine X_goto (tgt := 231) dX12_twoOf_227 (by decide) ?_
      exact X_reti rfl dX12_twoOf_231 h
    · refine X_iload_n dX12_twoOf_222 rfl rfl ?_
      refine X_if_eq (tgt := 230) dX12_twoOf_223 (by decide) h (fun h => ?_) (fun h => ?_)
      · refine X_iconst (v := 0) dX12_twoOf_230 iconst_0 ?_
        exact X_reti rfl dX12_twoOf_231 h
      · refine X_iconst (v := 1) dX12_twoOf_226 iconst_1 ?_
        refine X_goto (tgt := 231) dX12_twoOf_227 (by decide) ?_
        exact X_reti rfl dX12_twoOf_231 h
  by_cases hc1_44 : a0 = (44 : Int32)
  · refine X_tableIn (tgt := 218) dX12_twoOf_1 (by rw [hc1_44] <;> decide) (by rw [hc1_44] <;> decide) (by rw [hc1_44] <;> rfl) (by decide) ?_
    refine X_iload_n dX12_twoOf_218 rfl rfl ?_
    refine X_if_ne (tgt := 226) dX12_twoOf_219 (by decide) h (fun h => ?_) (fun h => ?_)
    · refine X_iconst (v := 1) dX12_twoOf_226 iconst_1 ?_
      refine X_goto (tgt := 231) dX12_twoOf_227 (by decide) ?_
      exact X_reti rfl dX12_twoOf_231 h
    · refine X_iload_n dX12_twoOf_222 rfl rfl ?_
      refine X_if_eq (tgt := 230) dX12_twoOf_223 (by decide) h (fun h => ?_) (fun h => ?_)
      · refine X_iconst (v := 0) dX12_twoOf_230 iconst_0 ?_
        exact X_reti rfl dX12_twoOf_231 h
      · refine X_iconst (v := 1) dX12_twoOf_226 iconst_1 ?_
        refine X_goto (tgt := 231) dX12_twoOf_227 (by decide) ?_
        exact X_reti rfl dX12_twoOf_231 h
  by_cases hc1_46 : a0 = (46 : Int32)
  · refine X_tableIn (tgt := 218) dX12_twoOf_1 (by rw [hc1_46] <;> decide) (by rw [hc1_46] <;> decide) (by rw [hc1_46] <;> rfl) (by decide) ?_
    refine X_iload_n dX12_twoOf_218 rfl rfl ?_
    refine X_if_ne (tgt := 226) dX12_twoOf_219 (by decide) h (fun h => ?_) (fun h => ?_)
    · refine X_iconst (v := 1) dX12_twoOf_226 iconst_1 ?_
      refine X_goto (tgt := 231) dX12_twoOf_227 (by decide) ?_
      exact X_reti rfl dX12_twoOf_231 h
    · refine X_iload_n dX12_twoOf_222 rfl rfl ?_
      refine X_if_eq (tgt := 230) dX12_twoOf_223 (by decide) h (fun h => ?_) (fun h => ?_)
      · refine X_iconst (v := 0) dX12_twoOf_230 iconst_0 ?_
        exact X_reti rfl dX12_twoOf_231 h
      · refine X_iconst (v := 1) dX12_twoOf_226 iconst_1 ?_
        refine X_goto (tgt := 231) dX12_twoOf_227 (by decide) ?_
        exact X_reti rfl dX12_twoOf_231 h
  by_cases hc1_48 : a0 = (48 : Int32)
  · refine X_tableIn (tgt := 218) dX12_twoOf_1 (by rw [hc1_48] <;> decide) (by rw [hc1_48] <;> decide) (by rw [hc1_48] <;> rfl) (by decide) ?_
    refine X_iload_n dX12_twoOf_218 rfl rfl ?_
    refine X_if_ne (tgt := 226) dX12_twoOf_219 (by decide) h (fun h => ?_) (fun h => ?_)
    · refine X_iconst (v := 1) dX12_twoOf_226 iconst_1 ?_
      refine X_goto (tgt := 231) dX12_twoOf_227 (by decide) ?_
      exact X_reti rfl dX12_twoOf_231 h
    · refine X_iload_n dX12_twoOf_222 rfl rfl ?_
      refine X_if_eq (tgt := 230) dX12_twoOf_223 (by decide) h (fun h => ?_) (fun h => ?_)
      · refine X_iconst (v := 0) dX12_twoOf_230 iconst_0 ?_
        exact X_reti rfl dX12_twoOf_231 h
      · refine X_iconst (v := 1) dX12_twoOf_226 iconst_1 ?_
        refine X_goto (tgt := 231) dX12_twoOf_227 (by decide) ?_
        exact X_reti rfl dX12_twoOf_231 h
  by_cases hc1_49 : a0 = (49 : Int32)
  · refine X_tableIn (tgt := 218) dX12_twoOf_1 (by rw [hc1_49] <;> decide) (by rw [hc1_49] <;> decide) (by rw [hc1_49] <;> rfl) (by decide) ?_
    refine X_iload_n dX12_twoOf_218 rfl rfl ?_
    refine X_if_ne (tgt := 226) dX12_twoOf_219 (by decide) h (fun h => ?_) (fun h => ?_)
    · refine X_iconst (v := 1) dX12_twoOf_226 iconst_1 ?_
      refine X_goto (tgt := 231) dX12_twoOf_227 (by decide) ?_
      exact X_reti rfl dX12_twoOf_231 h
    · refine X_iload_n dX12_twoOf_222 rfl rfl ?_
      refine X_if_eq (tgt := 230) dX12_twoOf_223 (by decide) h (fun h => ?_) (fun h => ?_)
      · refine X_iconst (v := 0) dX12_twoOf_230 iconst_0 ?_
        exact X_reti rfl dX12_twoOf_231 h
      · refine X_iconst (v := 1) dX12_twoOf_226 iconst_1 ?_
        refine X_goto (tgt := 231) dX12_twoOf_227 (by decide) ?_
        exact X_reti rfl dX12_twoOf_231 h
  by_cases hc1_50 : a0 = (50 : Int32)
  · refine X_tableIn (tgt := 218) dX12_twoOf_1 (by rw [hc1_50] <;> decide) (by rw [hc1_50] <;> decide) (by rw [hc1_50] <;> rfl) (by decide) ?_
    refine X_iload_n dX12_twoOf_218 rfl rfl ?_
    refine X_if_ne (tgt := 226) dX12_twoOf_219 (by decide) h (fun h => ?_) (fun h => ?_)
    · refine X_iconst (v := 1) dX12_twoOf_226 iconst_1 ?_
      refine X_goto (tgt := 231) dX12_twoOf_227 (by decide) ?_
      exact X_reti rfl dX12_twoOf_231 h
    · refine X_iload_n dX12_twoOf_222 rfl rfl ?_
      refine X_if_eq (tgt := 230) dX12_twoOf_223 (by decide) h (fun h => ?_) (fun h => ?_)
      · refine X_iconst (v := 0) dX12_twoOf_230 iconst_0 ?_
        exact X_reti rfl dX12_twoOf_231 h
      · refine X_iconst (v := 1) dX12_twoOf_226 iconst_1 ?_
        refine X_goto (tgt := 231) dX12_twoOf_227 (by decide) ?_
        exact X_reti rfl dX12_twoOf_231 h
  by_cases hc1_51 : a0 = (51 : Int32)
  · refine X_tableIn (tgt := 218) dX12_twoOf_1 (by rw [hc1_51] <;> decide) (by rw [hc1_51] <;> decide) (by rw [hc1_51] <;> rfl) (by decide) ?_
    refine X_iload_n dX12_twoOf_218 rfl rfl ?_
    refine X_if_ne (tgt := 226) dX12_twoOf_219 (by decide) h (fun h => ?_) (fun h => ?_)
    · refine X_iconst (v := 1) dX12_twoOf_226 iconst_1 ?_
      refine X_goto (tgt := 231) dX12_twoOf_227 (by decide) ?_
      exact X_reti rfl dX12_twoOf_231 h
    · refine X_iload_n dX12_twoOf_222 rfl rfl ?_
      refine X_if_eq (tgt := 230) dX12_twoOf_223 (by decide) h (fun h => ?_) (fun h => ?_)
      · refine X_iconst (v := 0) dX12_twoOf_230 iconst_0 ?_
        exact X_reti rfl dX12_twoOf_231 h
      · refine X_iconst (v := 1) dX12_twoOf_226 iconst_1 ?_
        refine X_goto (tgt := 231) dX12_twoOf_227 (by decide) ?_
        exact X_reti rfl dX12_twoOf_231 h
  by_cases hc1_52 : a0 = (52 : Int32)
  · refine X_tableIn (tgt := 218) dX12_twoOf_1 (by rw [hc1_52] <;> decide) (by rw [hc1_52] <;> decide) (by rw [hc1_52] <;> rfl) (by decide) ?_
    refine X_iload_n dX12_twoOf_218 rfl rfl ?_
    refine X_if_ne (tgt := 226) dX12_twoOf_219 (by decide) h (fun h => ?_) (fun h => ?_)
    · refine X_iconst (v := 1) dX12_twoOf_226 iconst_1 ?_
      refine X_goto (tgt := 231) dX12_twoOf_227 (by decide) ?_
      exact X_reti rfl dX12_twoOf_231 h
    · refine X_iload_n dX12_twoOf_222 rfl rfl ?_
      refine X_if_eq (tgt := 230) dX12_twoOf_223 (by decide) h (fun h => ?_) (fun h => ?_)
      · refine X_iconst (v := 0) dX12_twoOf_230 iconst_0 ?_
        exact X_reti rfl dX12_twoOf_231 h
      · refine X_iconst (v := 1) dX12_twoOf_226 iconst_1 ?_
        refine X_goto (tgt := 231) dX12_twoOf_227 (by decide) ?_
        exact X_reti rfl dX12_twoOf_231 h
  by_cases hc1_53 : a0 = (53 : Int32)
  · refine X_tableIn (tgt := 218) dX12_twoOf_1 (by rw [hc1_53] <;> decide) (by rw [hc1_53] <;> decide) (by rw [hc1_53] <;> rfl) (by decide) ?_
    refine X_iload_n dX12_twoOf_218 rfl rfl ?_
    refine X_if_ne (tgt := 226) dX12_twoOf_219 (by decide) h (fun h => ?_) (fun h => ?_)
    · refine X_iconst (v := 1) dX12_twoOf_226 iconst_1 ?_
      refine X_goto (tgt := 231) dX12_twoOf_227 (by decide) ?_
      exact X_reti rfl dX12_twoOf_231 h
    · refine X_iload_n dX12_twoOf_222 rfl rfl ?_
      refine X_if_eq (tgt := 230) dX12_twoOf_223 (by decide) h (fun h => ?_) (fun h => ?_)
      · refine X_iconst (v := 0) dX12_twoOf_230 iconst_0 ?_
        exact X_reti rfl dX12_twoOf_231 h
      · refine X_iconst (v := 1) dX12_twoOf_226 iconst_1 ?_
        refine X_goto (tgt := 231) dX12_twoOf_227 (by decide) ?_
        exact X_reti rfl dX12_twoOf_231 h
  by_cases hc1_54 : a0 = (54 : Int32)
  · refine X_tableIn (tgt := 218) dX12_twoOf_1 (by rw [hc1_54] <;> decide) (by rw [hc1_54] <;> decide) (by rw [hc1_54] <;> rfl) (by decide) ?_
    refine X_iload_n dX12_twoOf_218 rfl rfl ?_
    refine X_if_ne (tgt := 226) dX12_twoOf_219 (by decide) h (fun h => ?_) (fun h => ?_)
    · refine X_iconst (v := 1) dX12_twoOf_226 iconst_1 ?_
      refine X_goto (tgt := 231) dX12_twoOf_227 (by decide) ?_
      exact X_reti rfl dX12_twoOf_231 h
    · refine X_iload_n dX12_twoOf_222 rfl rfl ?_
      refine X_if_eq (tgt := 230) dX12_twoOf_223 (by decide) h (fun h => ?_) (fun h => ?_)
      · refine X_iconst (v := 0) dX12_twoOf_230 iconst_0 ?_
        exact X_reti rfl dX12_twoOf_231 h
      · refine X_iconst (v := 1) dX12_twoOf_226 iconst_1 ?_
        refine X_goto (tgt := 231) dX12_twoOf_227 (by decide) ?_
        exact X_reti rfl dX12_twoOf_231 h
  by_cases hc1_55 : a0 = (55 : Int32)
  · refine X_tableIn (tgt := 218) dX12_twoOf_1 (by rw [hc1_55] <;> decide) (by rw [hc1_55] <;> decide) (by rw [hc1_55] <;> rfl) (by decide) ?_
    refine X_iload_n dX12_twoOf_218 rfl rfl ?_
    refine X_if_ne (tgt := 226) dX12_twoOf_219 (by decide) h (fun h => ?_) (fun h => ?_)
    · refine X_iconst (v := 1) dX12_twoOf_226 iconst_1 ?_
      refine X_goto (tgt := 231) dX12_twoOf_227 (by decide) ?_
      exact X_reti rfl dX12_twoOf_231 h
    · refine X_iload_n dX12_twoOf_222 rfl rfl ?_
      refine X_if_eq (tgt := 230) dX12_twoOf_223 (by decide) h (fun h => ?_) (fun h => ?_)
      · refine X_iconst (v := 0) dX12_twoOf_230 iconst_0 ?_
        exact X_reti rfl dX12_twoOf_231 h
      · refine X_iconst (v := 1) dX12_twoOf_226 iconst_1 ?_
        refine X_goto (tgt := 231) dX12_twoOf_227 (by decide) ?_
        exact X_reti rfl dX12_twoOf_231 h
  by_cases hc1_56 : a0 = (56 : Int32)
  · refine X_tableIn (tgt := 218) dX12_twoOf_1 (by rw [hc1_56] <;> decide) (by rw [hc1_56] <;> decide) (by rw [hc1_56] <;> rfl) (by decide) ?_
    refine X_iload_n dX12_twoOf_218 rfl rfl ?_
    refine X_if_ne (tgt := 226) dX12_twoOf_219 (by decide) h (fun h => ?_) (fun h => ?_)
    · refine X_iconst (v := 1) dX12_twoOf_226 iconst_1 ?_
      refine X_goto (tgt := 231) dX12_twoOf_227 (by decide) ?_
      exact X_reti rfl dX12_twoOf_231 h
    · refine X_iload_n dX12_twoOf_222 rfl rfl ?_
      refine X_if_eq (tgt := 230) dX12_twoOf_223 (by decide) h (fun h => ?_) (fun h => ?_)
      · refine X_iconst (v := 0) dX12_twoOf_230 iconst_0 ?_
        exact X_reti rfl dX12_twoOf_231 h
      · refine X_iconst (v := 1) dX12_twoOf_226 iconst_1 ?_
        refine X_goto (tgt := 231) dX12_twoOf_227 (by decide) ?_
        exact X_reti rfl dX12_twoOf_231 h
  by_cases hc1_57 : a0 = (57 : Int32)
  · refine X_tableIn (tgt := 218) dX12_twoOf_1 (by rw [hc1_57] <;> decide) (by rw [hc1_57] <;> decide) (by rw [hc1_57] <;> rfl) (by decide) ?_
    refine X_iload_n dX12_twoOf_218 rfl rfl ?_
    refine X_if_ne (tgt := 226) dX12_twoOf_219 (by decide) h (fun h => ?_) (fun h => ?_)
    · refine X_iconst (v := 1) dX12_twoOf_226 iconst_1 ?_
      refine X_goto (tgt := 231) dX12_twoOf_227 (by decide) ?_
      exact X_reti rfl dX12_twoOf_231 h
    · refine X_iload_n dX12_twoOf_222 rfl rfl ?_
      refine X_if_eq (tgt := 230) dX12_twoOf_223 (by decide) h (fun h => ?_) (fun h => ?_)
      · refine X_iconst (v := 0) dX12_twoOf_230 iconst_0 ?_
        exact X_reti rfl dX12_twoOf_231 h
      · refine X_iconst (v := 1) dX12_twoOf_226 iconst_1 ?_
        refine X_goto (tgt := 231) dX12_twoOf_227 (by decide) ?_
        exact X_reti rfl dX12_twoOf_231 h
  by_cases hc1_58 : a0 = (58 : Int32)
  · refine X_tableIn (tgt := 218) dX12_twoOf_1 (by rw [hc1_58] <;> decide) (by rw [hc1_58] <;> decide) (by rw [hc1_58] <;> rfl) (by decide) ?_
    refine X_iload_n dX12_twoOf_218 rfl rfl ?_
    refine X_if_ne (tgt := 226) dX12_twoOf_219 (by decide) h (fun h => ?_) (fun h => ?_)
    · refine X_iconst (v := 1) dX12_twoOf_226 iconst_1 ?_
      refine X_goto (tgt := 231) dX12_twoOf_227 (by decide) ?_
      exact X_reti rfl dX12_twoOf_231 h
    · refine X_iload_n dX12_twoOf_222 rfl rfl ?_
      refine X_if_eq (tgt := 230) dX12_twoOf_223 (by decide) h (fun h => ?_) (fun h => ?_)
      · refine X_iconst (v := 0) dX12_twoOf_230 iconst_0 ?_
        exact X_reti rfl dX12_twoOf_231 h
      · refine X_iconst (v := 1) dX12_twoOf_226 iconst_1 ?_
        refine X_goto (tgt := 231) dX12_twoOf_227 (by decide) ?_
        exact X_reti rfl dX12_twoOf_231 h
  by_cases hc1_59 : a0 = (59 : Int32)
  · refine X_tableIn (tgt := 218) dX12_twoOf_1 (by rw [hc1_59] <;> decide) (by rw [hc1_59] <;> decide) (by rw [hc1_59] <;> rfl) (by decide) ?_
    refine X_iload_n dX12_twoOf_218 rfl rfl ?_
    refine X_if_ne (tgt := 226) dX12_twoOf_219 (by decide) h (fun h => ?_) (fun h => ?_)
    · refine X_iconst (v := 1) dX12_twoOf_226 iconst_1 ?_
      refine X_goto (tgt := 231) dX12_twoOf_227 (by decide) ?_
      exact X_reti rfl dX12_twoOf_231 h
    · refine X_iload_n dX12_twoOf_222 rfl rfl ?_
      refine X_if_eq (tgt := 230) dX12_twoOf_223 (by decide) h (fun h => ?_) (fun h => ?_)
      · refine X_iconst (v := 0) dX12_twoOf_230 iconst_0 ?_
        exact X_reti rfl dX12_twoOf_231 h
      · refine X_iconst (v := 1) dX12_twoOf_226 iconst_1 ?_
        refine X_goto (tgt := 231) dX12_twoOf_227 (by decide) ?_
        exact X_reti rfl dX12_twoOf_231 h
  refine X_tableOut (tgt := 218) dX12_twoOf_1 (tbl_out (fun j h1 h2 e => ?_)) (by decide) ?_
  · rcases (show j = 37 ∨ j = 38 ∨ j = 39 ∨ j = 40 ∨ j = 41 ∨ j = 42 ∨ j = 43 ∨ j = 44 ∨ j = 45 ∨ j = 46 ∨ j = 47 ∨ j = 48 ∨ j = 49 ∨ j = 50 ∨ j = 51 ∨ j = 52 ∨ j = 53 ∨ j = 54 ∨ j = 55 ∨ j = 56 ∨ j = 57 ∨ j = 58 ∨ j = 59 ∨ j = 60 ∨ j = 61 ∨ j = 62 by omega) with rfl | rfl | rfl | rfl | rfl | rfl | rfl | rfl | rfl | rfl | rfl | rfl | rfl | rfl | rfl | rfl | rfl | rfl | rfl | rfl | rfl | rfl | rfl | rfl | rfl | rfl
    · exact ne_toInt hc1_37 e
    · exact ne_toInt hc1_38 e
    · exact ne_toInt hc1_39 e
    · exact ne_toInt hc1_40 e
    · exact ne_toInt hc1_41 e
    · exact ne_toInt hc1_42 e
    · exact ne_toInt hc1_43 e
    · exact ne_toInt hc1_44 e
    · exact ne_toInt hc1_45 e
    · exact ne_toInt hc1_46 e
    · exact ne_toInt hc1_47 e
    · exact ne_toInt hc1_48 e
    · exact ne_toInt hc1_49 e
    · exact ne_toInt hc1_50 e
    · exact ne_toInt hc1_51 e
    · exact ne_toInt hc1_52 e
    · exact ne_toInt hc1_53 e
    · exact ne_toInt hc1_54 e
    · exact ne_toInt hc1_55 e
    · exact ne_toInt hc1_56 e
    · exact ne_toInt hc1_57 e
    · exact ne_toInt hc1_58 e
    · exact ne_toInt hc1_59 e
    · exact ne_toInt hc1_60 e
    · exact ne_toInt hc1_61 e
    · exact ne_toInt hc1_62 e
  refine X_iload_n dX12_twoOf_218 rfl rfl ?_
  refine X_if_ne (tgt := 226) dX12_twoOf_219 (by decide) h (fun h => ?_) (fun h => ?_)
  · refine X_iconst (v := 1) dX12_twoOf_226 iconst_1 ?_
    refine X_goto (tgt := 231) dX12_twoOf_227 (by decide) ?_
    exact X_reti rfl dX12_twoOf_231 h
  · refine X_iload_n dX12_twoOf_222 rfl rfl ?_
    refine X_if_eq (tgt := 230) dX12_twoOf_223 (by decide) h (fun h => ?_) (fun h => ?_)
    · refine X_iconst (v := 0) dX12_twoOf_230 iconst_0 ?_
      exact X_reti rfl dX12_twoOf_231 h
    · refine X_iconst (v := 1) dX12_twoOf_226 iconst_1 ?_
      refine X_goto (tgt := 231) dX12_twoOf_227 (by decide) ?_
      exact X_reti rfl dX12_twoOf_231 h
def w_X12_worked_l12 (a0 : Int32) (c0 : Int32) (J188 : Sg → Prop) : Nat → Int32 → Int32 → Sg → Prop
  | 0, _, _, _ => False
  | n12 + 1, x3, x4, σ5 => if (((130 : Int32) * a0) + c0) ≤ x4 then (J188 σ5) else (vp_in x4 260 ∧ bd (σ5.1 73 (Int32.toNatClampNeg x4)) fun x6 => bd (fun (x7 : Int32) (σ8 : Sg) => w_X12_worked_l12 a0 c0 J188 n12 x7 (x4 + 1) σ8) fun J182 => bd (fun (σ9 : Sg) => bd (fun (x10 : Int32) (x11 : Int32) (σ12 : Sg) => vp_in x10 130 ∧ bd (sI σ12 79 (Int32.toNatClampNeg x10) x11) fun σ13 => J182 (x3 + 1) σ13) fun J79 => if x6 = (1 : Int32) then (vp_in x4 260 ∧ J79 x3 (σ9.1 74 (Int32.toNatClampNeg x4)) σ9) else (vp_in x4 260 ∧ vp_in (σ9.1 74 (Int32.toNatClampNeg x4)) 6 ∧ J79 x3 (σ9.1 78 (Int32.toNatClampNeg (σ9.1 74 (Int32.toNatClampNeg x4)))) σ9)) fun J45 => if x6 = (1 : Int32) then (J45 σ5) else (if x6 = (2 : Int32) then (J45 σ5) else (if x6 = (3 : Int32) then (vp_in (x3 - (1 : Int32)) 130 ∧ bd (fun (x18 : Int32) (x19 : Int32) (σ20 : Sg) => vp_in x18 130 ∧ bd (sI σ20 79 (Int32.toNatClampNeg x18) x19) fun σ21 => J182 x3 σ21) fun J117 => if (σ5.1 79 (Int32.toNatClampNeg (x3 - (1 : Int32)))) = 0 then (J117 (x3 - (1 : Int32)) (1 : Int32) σ5) else (J117 (x3 - (1 : Int32)) (0 : Int32) σ5)) else (if x6 = (4 : Int32) then (vp_in (x3 - (1 : Int32)) 130 ∧ vp_in (x3 - (1 : Int32)) 130 ∧ bd (sI σ5 79 (Int32.toNatClampNeg (x3 - (1 : Int32))) (-(σ5.1 79 (Int32.toNatClampNeg (x3 - (1 : Int32)))))) fun σ17 => J182 x3 σ17) else (vp_in ((x3 + (-1)) - (1 : Int32)) 130 ∧ vp_in (x3 + (-1)) 130 ∧ w_X12_twoOf x6 (σ5.1 79 (Int32.toNatClampNeg ((x3 + (-1)) - (1 : Int32)))) (σ5.1 79 (Int32.toNatClampNeg (x3 + (-1)))) σ5 (fun r15 σ14 => vp_in ((x3 + (-1)) - (1 : Int32)) 130 ∧ bd (sI σ14 79 (Int32.toNatClampNeg ((x3 + (-1)) - (1 : Int32))) r15) fun σ16 => J182 (x3 + (-1)) σ16))))))
def w_X12_worked (a0 : Int32) (b0 : Int32) (c0 : Int32) (σ : Sg) (Q : Int32 → Sg → Prop) : Prop := bd (((130 : Int32) * a0) + b0) fun x1 => bd (fun (σ2 : Sg) => Q (σ2.1 79 (Int32.toNatClampNeg (0 : Int32))) σ2) fun J188 => ∃ n, w_X12_worked_l12 a0 c0 J188 n (0 : Int32) x1 σ
set_option maxRecDepth 100000 in
set_option maxHeartbeats 4000000 in
theorem s_X12_worked (sx : Nat × (Nat → Int32)) (a0 : Int32) (b0 : Int32) (c0 : Int32) (σ : Sg) (Q : Int32 → Sg → Prop) (h : w_X12_worked a0 b0 c0 σ Q) : Ct mX12_worked 1 false (0, 0) sx G0 [.ref 60, .int a0, .int b0, .int c0] σ (qI Q) := by
  refine Ct.of (L := [some (.ref 60), some (.int a0), some (.int b0), some (.int c0), none, none, none]) (by decide) (Nat.le_of_ble_eq_true rfl) rfl ?_
  unfold w_X12_worked at h
  refine X_iconst (v := 0) dX12_worked_0 iconst_0 ?_
  refine X_istore (L' := [some (.ref 60), some (.int a0), some (.int b0), some (.int c0), some (.int (0 : Int32)), none, none]) dX12_worked_1 (by decide) rfl ?_
  refine X_sipush (v := 130) dX12_worked_3 sipush_130 ?_
  refine X_iload_n dX12_worked_6 rfl rfl ?_
  refine X_imul dX12_worked_7 ?_
  refine X_iload_n dX12_worked_8 rfl rfl ?_
  refine X_iadd dX12_worked_9 ?_
  refine X_topI h (fun x1 h => ?_)
  refine X_istore (L' := [some (.ref 60), some (.int a0), some (.int b0), some (.int c0), some (.int (0 : Int32)), some (.int x1), none]) dX12_worked_10 (by decide) rfl ?_
  refine bd_j h (fun J188 e188 h => ?_)
  have j188 : ∀ (σ2 : Sg) , J188  σ2 → Ex mX12_worked 1 false (0, 0) sx G0 188 [some (.ref 60), none, none, none, none, none, none] [] σ2 (qI Q) := by
    intro  σ2  h
    subst e188
    replace h := h
    refine X_aload_n dX12_worked_188 rfl rfl ?_
    refine X_get (v := .ref 79) ck_X12 f_X12_68 g_60 rfl (fun _ => rfl) dX12_worked_189 ?_
    refine X_iconst (v := 0) dX12_worked_192 iconst_0 ?_
    refine X_iald g_79 dX12_worked_193 ⟨(by unfold vp_in; decide), h⟩ (fun h => ?_)
    exact X_reti rfl dX12_worked_194 h
  obtain ⟨n12, h⟩ := h
  have key12 : ∀ (n : Nat) (x3 : Int32) (x4 : Int32) (σ5 : Sg) , w_X12_worked_l12 a0 c0 J188 n x3 x4 σ5 → Ex mX12_worked 1 false (0, 0) sx G0 12 [some (.ref 60), some (.int a0), none, some (.int c0), some (.int x3), some (.int x4), none] [] σ5 (qI Q) := by
    intro n12
    induction n12 with
    | zero => intro _ _ _  h; exact h.elim
    | succ n12 ih12 =>
      intro x3 x4 σ5  h
      unfold w_X12_worked_l12 at h
      refine X_iload dX12_worked_12 rfl ?_
      refine X_sipush (v := 130) dX12_worked_14 sipush_130 ?_
      refine X_iload_n dX12_worked_17 rfl rfl ?_
      refine X_imul dX12_worked_18 ?_
      refine X_iload_n dX12_worked_19 rfl rfl ?_
      refine X_iadd dX12_worked_20 ?_
      refine X_icmp_ge (tgt := 188) dX12_worked_21 (by decide) h (fun h => ?_) (fun h => ?_)
      · refine X_drop (L' := [some (.ref 60), none, none, none, none, none, none]) ⟨rfl, trivial⟩ ?_
        exact j188 _  h
      · refine X_aload_n dX12_worked_24 rfl rfl ?_
        refine X_get (v := .ref 73) ck_X12 f_X12_49 g_60 rfl (fun _ => rfl) dX12_worked_25 ?_
        refine X_iload dX12_worked_28 rfl ?_
        refine X_bald g_73 dX12_worked_30 h (fun h => ?_)
        refine X_topI h (fun x6 h => ?_)
        refine X_istore (L' := [some (.ref 60), some (.int a0), none, some (.int c0), some (.int x3), some (.int x4), some (.int x6)]) dX12_worked_31 (by decide) rfl ?_
        refine X_iload dX12_worked_33 rfl ?_
        refine X_iconst (v := 1) dX12_worked_35 iconst_1 ?_
        refine bd_j h (fun J182 e182 h => ?_)
        have j182 : ∀ (x7 : Int32) (σ8 : Sg) , J182 x7 σ8 → Ex mX12_worked 1 false (0, 0) sx G0 182 [some (.ref 60), some (.int a0), none, some (.int c0), some (.int x7), some (.int x4), none] [] σ8 (qI Q) := by
          intro x7 σ8  h
          subst e182
          replace h := h
          refine X_iinc (v := (x4 + 1)) (L' := [some (.ref 60), some (.int a0), none, some (.int c0), some (.int x7), some (.int (x4 + 1)), none]) dX12_worked_182 rfl rfl (by decide) rfl ?_
          refine X_goto (tgt := 12) dX12_worked_185 (by decide) ?_
          exact ih12 _ _ _  h
        refine bd_j h (fun J45 e45 h => ?_)
        have j45 : ∀ (σ9 : Sg) , J45  σ9 → Ex mX12_worked 1 false (0, 0) sx G0 45 [some (.ref 60), some (.int a0), none, some (.int c0), some (.int x3), some (.int x4), some (.int x6)] [] σ9 (qI Q) := by
          intro  σ9  h
          subst e45
          replace h := h
          refine X_aload_n dX12_worked_45 rfl rfl ?_
          refine X_get (v := .ref 79) ck_X12 f_X12_68 g_60 rfl (fun _ => rfl) dX12_worked_46 ?_
          refine X_iload dX12_worked_49 rfl ?_
          refine X_iload dX12_worked_51 rfl ?_
          refine X_iconst (v := 1) dX12_worked_53 iconst_1 ?_
          refine bd_j h (fun J79 e79 h => ?_)
          have j79 : ∀ (x10 : Int32) (x11 : Int32) (σ12 : Sg) , J79 x10 x11 σ12 → Ex mX12_worked 1 false (0, 0) sx G0 79 [some (.ref 60), some (.int a0), none, some (.int c0), some (.int x3), some (.int x4), none] [.int x11, .int x10, .ref 79] σ12 (qI Q) := by
            intro x10 x11 σ12  h
            subst e79
            replace h := h
            refine X_iast g_79 dX12_worked_79 h (fun σ13 h => ?_)
            refine X_iinc (v := (x3 + 1)) (L' := [some (.ref 60), some (.int a0), none, some (.int c0), some (.int (x3 + 1)), some (.int x4), none]) dX12_worked_80 rfl rfl (by decide) rfl ?_
            refine X_goto (tgt := 182) dX12_worked_83 (by decide) ?_
            exact j182 _ _  h
          refine X_icmp_ne (tgt := 67) dX12_worked_54 (by decide) h (fun h => ?_) (fun h => ?_)
          · refine X_aload_n dX12_worked_67 rfl rfl ?_
            refine X_get (v := .ref 78) ck_X12 f_X12_65 g_60 rfl (fun _ => rfl) dX12_worked_68 ?_
            refine X_aload_n dX12_worked_71 rfl rfl ?_
            refine X_get (v := .ref 74) ck_X12 f_X12_52 g_60 rfl (fun _ => rfl) dX12_worked_72 ?_
            refine X_iload dX12_worked_75 rfl ?_
            refine X_iald g_74 dX12_worked_77 h (fun h => ?_)
            refine X_iald g_78 dX12_worked_78 h (fun h => ?_)
            refine X_drop (L' := [some (.ref 60), some (.int a0), none, some (.int c0), some (.int x3), some (.int x4), none]) ⟨rfl, ⟨rfl, ⟨rfl, ⟨rfl, ⟨rfl, trivial⟩⟩⟩⟩⟩ ?_
            exact j79 _ _ _  h
          · refine X_aload_n dX12_worked_57 rfl rfl ?_
            refine X_get (v := .ref 74) ck_X12 f_X12_52 g_60 rfl (fun _ => rfl) dX12_worked_58 ?_
            refine X_iload dX12_worked_61 rfl ?_
            refine X_iald g_74 dX12_worked_63 h (fun h => ?_)
            refine X_goto (tgt := 79) dX12_worked_64 (by decide) ?_
            refine X_drop (L' := [some (.ref 60), some (.int a0), none, some (.int c0), some (.int x3), some (.int x4), none]) ⟨rfl, ⟨rfl, ⟨rfl, ⟨rfl, ⟨rfl, trivial⟩⟩⟩⟩⟩ ?_
            exact j79 _ _ _  h
        refine X_icmp_eq (tgt := 45) dX12_worked_36 (by decide) h (fun h => ?_) (fun h => ?_)
        · exact j45 _  h
        · refine X_iload dX12_worked_39 rfl ?_
          refine X_iconst (v := 2) dX12_worked_41 iconst_2 ?_
          refine X_icmp_ne (tgt := 86) dX12_worked_42 (by decide) h (fun h => ?_) (fun h => ?_)
          · refine X_iload dX12_worked_86 rfl ?_
            refine X_iconst (v := 3) dX12_worked_88 iconst_3 ?_
            refine X_icmp_ne (tgt := 121) dX12_worked_89 (by decide) h (fun h => ?_) (fun h => ?_)
            · refine X_iload dX12_worked_121 rfl ?_
              refine X_iconst (v := 4) dX12_worked_123 iconst_4 ?_
              refine X_icmp_ne (tgt := 149) dX12_worked_124 (by decide) h (fun h => ?_) (fun h => ?_)
              · refine X_iinc (v := (x3 + (-1))) (L' := [some (.ref 60), some (.int a0), none, some (.int c0), some (.int (x3 + (-1))), some (.int x4), some (.int x6)]) dX12_worked_149 rfl rfl (by decide) rfl ?_
                refine X_aload_n dX12_worked_152 rfl rfl ?_
                refine X_get (v := .ref 79) ck_X12 f_X12_68 g_60 rfl (fun _ => rfl) dX12_worked_153 ?_
                refine X_iload dX12_worked_156 rfl ?_
                refine X_iconst (v := 1) dX12_worked_158 iconst_1 ?_
                refine X_isub dX12_worked_159 ?_
                refine X_iload dX12_worked_160 rfl ?_
                refine X_aload_n dX12_worked_162 rfl rfl ?_
                refine X_get (v := .ref 79) ck_X12 f_X12_68 g_60 rfl (fun _ => rfl) dX12_worked_163 ?_
                refine X_iload dX12_worked_166 rfl ?_
                refine X_iconst (v := 1) dX12_worked_168 iconst_1 ?_
                refine X_isub dX12_worked_169 ?_
                refine X_iald g_79 dX12_worked_170 h (fun h => ?_)
                refine X_aload_n dX12_worked_171 rfl rfl ?_
                refine X_get (v := .ref 79) ck_X12 f_X12_68 g_60 rfl (fun _ => rfl) dX12_worked_172 ?_
                refine X_iload dX12_worked_175 rfl ?_
                refine X_iald g_79 dX12_worked_177 h (fun h => ?_)
                refine X_callSi [.int x6, .int (σ5.1 79 (Int32.toNatClampNeg ((x3 + (-1)) - (1 : Int32)))), .int (σ5.1 79 (Int32.toNatClampNeg (x3 + (-1))))] [.int ((x3 + (-1)) - (1 : Int32)), .ref 79] c_X12_twoOf t_X12_twoOf lk_X12_236 dX12_worked_178 rfl (by decide) (Nat.le_of_ble_eq_true rfl) rfl (s_X12_twoOf sx x6 (σ5.1 79 (Int32.toNatClampNeg ((x3 + (-1)) - (1 : Int32)))) (σ5.1 79 (Int32.toNatClampNeg (x3 + (-1))))  σ5 _ h) (fun r15 σ14 h => ?_)
                refine X_iast g_79 dX12_worked_181 h (fun σ16 h => ?_)
                refine X_drop (L' := [some (.ref 60), some (.int a0), none, some (.int c0), some (.int (x3 + (-1))), some (.int x4), none]) ⟨rfl, ⟨rfl, ⟨rfl, ⟨rfl, ⟨rfl, trivial⟩⟩⟩⟩⟩ ?_
                exact j182 _ _  h
              · refine X_aload_n dX12_worked_127 rfl rfl ?_
                refine X_get (v := .ref 79) ck_X12 f_X12_68 g_60 rfl (fun _ => rfl) dX12_worked_128 ?_
                refine X_iload dX12_worked_131 rfl ?_
                refine X_iconst (v := 1) dX12_worked_133 iconst_1 ?_
                refine X_isub dX12_worked_134 ?_
                refine X_aload_n dX12_worked_135 rfl rfl ?_
                refine X_get (v := .ref 79) ck_X12 f_X12_68 g_60 rfl (fun _ => rfl) dX12_worked_136 ?_
                refine X_iload dX12_worked_139 rfl ?_
                refine X_iconst (v := 1) dX12_worked_141 iconst_1 ?_
                refine X_isub dX12_worked_142 ?_
                refine X_iald g_79 dX12_worked_143 h (fun h => ?_)
                refine X_ineg dX12_worked_144 ?_
                refine X_iast g_79 dX12_worked_145 h (fun σ17 h => ?_)
                refine X_goto (tgt := 182) dX12_worked_146 (by decide) ?_
                refine X_drop (L' := [some (.ref 60), some (.int a0), none, some (.int c0), some (.int x3), some (.int x4), none]) ⟨rfl, ⟨rfl, ⟨rfl, ⟨rfl, ⟨rfl, trivial⟩⟩⟩⟩⟩ ?_
                exact j182 _ _  h
            · refine X_aload_n dX12_worked_92 rfl rfl ?_
              refine X_get (v := .ref 79) ck_X12 f_X12_68 g_60 rfl (fun _ => rfl) dX12_worked_93 ?_
              refine X_iload dX12_worked_96 rfl ?_
              refine X_iconst (v := 1) dX12_worked_98 iconst_1 ?_
              refine X_isub dX12_worked_99 ?_
              refine X_aload_n dX12_worked_100 rfl rfl ?_
              refine X_get (v := .ref 79) ck_X12 f_X12_68 g_60 rfl (fun _ => rfl) dX12_worked_101 ?_
              refine X_iload dX12_worked_104 rfl ?_
              refine X_iconst (v := 1) dX12_worked_106 iconst_1 ?_
              refine X_isub dX12_worked_107 ?_
              refine X_iald g_79 dX12_worked_108 h (fun h => ?_)
              refine bd_j h (fun J117 e117 h => ?_)
              have j117 : ∀ (x18 : Int32) (x19 : Int32) (σ20 : Sg) , J117 x18 x19 σ20 → Ex mX12_worked 1 false (0, 0) sx G0 117 [some (.ref 60), some (.int a0), none, some (.int c0), some (.int x3), some (.int x4), none] [.int x19, .int x18, .ref 79] σ20 (qI Q) := by
                intro x18 x19 σ20  h
                subst e117
                replace h := h
                refine X_iast g_79 dX12_worked_117 h (fun σ21 h => ?_)
                refine X_goto (tgt := 182) dX12_worked_118 (by decide) ?_
                exact j182 _ _  h
              refine X_if_ne (tgt := 116) dX12_worked_109 (by decide) h (fun h => ?_) (fun h => ?_)
              · refine X_iconst (v := 0) dX12_worked_116 iconst_0 ?_
                refine X_drop (L' := [some (.ref 60), some (.int a0), none, some (.int c0), some (.int x3), some (.int x4), none]) ⟨rfl, ⟨rfl, ⟨rfl, ⟨rfl, ⟨rfl, trivial⟩⟩⟩⟩⟩ ?_
                exact j117 _ _ _  h
              · refine X_iconst (v := 1) dX12_worked_112 iconst_1 ?_
                refine X_goto (tgt := 117) dX12_worked_113 (by decide) ?_
                refine X_drop (L' := [some (.ref 60), some (.int a0), none, some (.int c0), some (.int x3), some (.int x4), none]) ⟨rfl, ⟨rfl, ⟨rfl, ⟨rfl, ⟨rfl, trivial⟩⟩⟩⟩⟩ ?_
                exact j117 _ _ _  h
          · exact j45 _  h
  refine X_drop (L' := [some (.ref 60), some (.int a0), none, some (.int c0), some (.int (0 : Int32)), some (.int x1), none]) ⟨rfl, ⟨rfl, ⟨rfl, ⟨rfl, ⟨rfl, trivial⟩⟩⟩⟩⟩ ?_
  exact key12 _ _ _ _  h
def w_X12_gives_l7 (a0 : Int32) (Q : Int32 → Sg → Prop) (J47 : Int32 → Sg → Prop) : Nat → Int32 → Int32 → Sg → Prop
  | 0, _, _, _ => False
  | n7 + 1, x6, x7, σ8 => vp_in a0 2 ∧ if (((61 : Int32) * a0) + (σ8.1 75 (Int32.toNatClampNeg a0))) ≤ x7 then (Q (0 : Int32) σ8) else (vp_in x7 122 ∧ if (σ8.1 76 (Int32.toNatClampNeg x7)) = x6 then (J47 x7 σ8) else (vp_in x7 122 ∧ w_X12_worked a0 x6 (σ8.1 76 (Int32.toNatClampNeg x7)) σ8 (fun r10 σ9 => if r10 = 0 then (vp_in x7 122 ∧ bd (σ9.1 77 (Int32.toNatClampNeg x7)) fun x11 => w_X12_gives_l7 a0 Q J47 n7 x11 (x7 + 1) σ9) else (J47 x7 σ9))))
def w_X12_gives (a0 : Int32) (σ : Sg) (Q : Int32 → Sg → Prop) : Prop := bd ((61 : Int32) * a0) fun x1 => bd (fun (x2 : Int32) (σ3 : Sg) => vp_in x2 122 ∧ vp_in x2 122 ∧ w_X12_worked a0 (σ3.1 76 (Int32.toNatClampNeg x2)) (σ3.1 77 (Int32.toNatClampNeg x2)) σ3 (fun r5 σ4 => Q r5 σ4)) fun J47 => ∃ n, w_X12_gives_l7 a0 Q J47 n (0 : Int32) x1 σ
set_option maxRecDepth 100000 in
set_option maxHeartbeats 4000000 in
theorem s_X12_gives (sx : Nat × (Nat → Int32)) (a0 : Int32) (σ : Sg) (Q : Int32 → Sg → Prop) (h : w_X12_gives a0 σ Q) : Ct mX12_gives 2 false (0, 0) sx G0 [.ref 60, .int a0] σ (qI Q) := by
  refine Ct.of (L := [some (.ref 60), some (.int a0), none, none]) (by decide) (Nat.le_of_ble_eq_true rfl) rfl ?_
  unfold w_X12_gives at h
  refine X_iconst (v := 0) dX12_gives_0 iconst_0 ?_
  refine X_istore_n (L' := [some (.ref 60), some (.int a0), some (.int (0 : Int32)), none]) dX12_gives_1 rfl (by decide) rfl ?_
  refine X_bipush (v := 61) dX12_gives_2 bipush_61 ?_
  refine X_iload_n dX12_gives_4 rfl rfl ?_
  refine X_imul dX12_gives_5 ?_
  refine X_topI h (fun x1 h => ?_)
  refine X_istore_n (L' := [some (.ref 60), some (.int a0), some (.int (0 : Int32)), some (.int x1)]) dX12_gives_6 rfl (by decide) rfl ?_
  refine bd_j h (fun J47 e47 h => ?_)
  have j47 : ∀ (x2 : Int32) (σ3 : Sg) , J47 x2 σ3 → Ex mX12_gives 2 false (0, 0) sx G0 47 [some (.ref 60), some (.int a0), none, some (.int x2)] [] σ3 (qI Q) := by
    intro x2 σ3  h
    subst e47
    replace h := h
    refine X_aload_n dX12_gives_47 rfl rfl ?_
    refine X_iload_n dX12_gives_48 rfl rfl ?_
    refine X_aload_n dX12_gives_49 rfl rfl ?_
    refine X_get (v := .ref 76) ck_X12 f_X12_58 g_60 rfl (fun _ => rfl) dX12_gives_50 ?_
    refine X_iload_n dX12_gives_53 rfl rfl ?_
    refine X_sald g_76 dX12_gives_54 h (fun h => ?_)
    refine X_aload_n dX12_gives_55 rfl rfl ?_
    refine X_get (v := .ref 77) ck_X12 f_X12_62 g_60 rfl (fun _ => rfl) dX12_gives_56 ?_
    refine X_iload_n dX12_gives_59 rfl rfl ?_
    refine X_sald g_77 dX12_gives_60 h (fun h => ?_)
    refine X_callVi [.int a0, .int (σ3.1 76 (Int32.toNatClampNeg x2)), .int (σ3.1 77 (Int32.toNatClampNeg x2))] [] c_X12_worked v_X12_worked lk_X12_239 dX12_gives_61 g_60 rfl rfl rfl (by decide) (Nat.le_of_ble_eq_true rfl) rfl (s_X12_worked sx a0 (σ3.1 76 (Int32.toNatClampNeg x2)) (σ3.1 77 (Int32.toNatClampNeg x2))  σ3 _ h) (fun r5 σ4 h => ?_)
    exact X_reti rfl dX12_gives_64 h
  obtain ⟨n7, h⟩ := h
  have key7 : ∀ (n : Nat) (x6 : Int32) (x7 : Int32) (σ8 : Sg) , w_X12_gives_l7 a0 Q J47 n x6 x7 σ8 → Ex mX12_gives 2 false (0, 0) sx G0 7 [some (.ref 60), some (.int a0), some (.int x6), some (.int x7)] [] σ8 (qI Q) := by
    intro n7
    induction n7 with
    | zero => intro _ _ _  h; exact h.elim
    | succ n7 ih7 =>
      intro x6 x7 σ8  h
      unfold w_X12_gives_l7 at h
      refine X_iload_n dX12_gives_7 rfl rfl ?_
      refine X_bipush (v := 61) dX12_gives_8 bipush_61 ?_
      refine X_iload_n dX12_gives_10 rfl rfl ?_
      refine X_imul dX12_gives_11 ?_
      refine X_aload_n dX12_gives_12 rfl rfl ?_
      refine X_get (v := .ref 75) ck_X12 f_X12_55 g_60 rfl (fun _ => rfl) dX12_gives_13 ?_
      refine X_iload_n dX12_gives_16 rfl rfl ?_
      refine X_iald g_75 dX12_gives_17 h (fun h => ?_)
      refine X_iadd dX12_gives_18 ?_
      refine X_icmp_ge (tgt := 78) dX12_gives_19 (by decide) h (fun h => ?_) (fun h => ?_)
      · refine X_iconst (v := 0) dX12_gives_78 iconst_0 ?_
        exact X_reti rfl dX12_gives_79 h
      · refine X_aload_n dX12_gives_22 rfl rfl ?_
        refine X_get (v := .ref 76) ck_X12 f_X12_58 g_60 rfl (fun _ => rfl) dX12_gives_23 ?_
        refine X_iload_n dX12_gives_26 rfl rfl ?_
        refine X_sald g_76 dX12_gives_27 h (fun h => ?_)
        refine X_iload_n dX12_gives_28 rfl rfl ?_
        refine X_icmp_eq (tgt := 47) dX12_gives_29 (by decide) h (fun h => ?_) (fun h => ?_)
        · refine X_drop (L' := [some (.ref 60), some (.int a0), none, some (.int x7)]) ⟨rfl, ⟨rfl, ⟨rfl, trivial⟩⟩⟩ ?_
          exact j47 _ _  h
        · refine X_aload_n dX12_gives_32 rfl rfl ?_
          refine X_iload_n dX12_gives_33 rfl rfl ?_
          refine X_iload_n dX12_gives_34 rfl rfl ?_
          refine X_aload_n dX12_gives_35 rfl rfl ?_
          refine X_get (v := .ref 76) ck_X12 f_X12_58 g_60 rfl (fun _ => rfl) dX12_gives_36 ?_
          refine X_iload_n dX12_gives_39 rfl rfl ?_
          refine X_sald g_76 dX12_gives_40 h (fun h => ?_)
          refine X_callVi [.int a0, .int x6, .int (σ8.1 76 (Int32.toNatClampNeg x7))] [] c_X12_worked v_X12_worked lk_X12_239 dX12_gives_41 g_60 rfl rfl rfl (by decide) (Nat.le_of_ble_eq_true rfl) rfl (s_X12_worked sx a0 x6 (σ8.1 76 (Int32.toNatClampNeg x7))  σ8 _ h) (fun r10 σ9 h => ?_)
          refine X_if_eq (tgt := 65) dX12_gives_44 (by decide) h (fun h => ?_) (fun h => ?_)
          · refine X_aload_n dX12_gives_65 rfl rfl ?_
            refine X_get (v := .ref 77) ck_X12 f_X12_62 g_60 rfl (fun _ => rfl) dX12_gives_66 ?_
            refine X_iload_n dX12_gives_69 rfl rfl ?_
            refine X_sald g_77 dX12_gives_70 h (fun h => ?_)
            refine X_topI h (fun x11 h => ?_)
            refine X_istore_n (L' := [some (.ref 60), some (.int a0), some (.int x11), some (.int x7)]) dX12_gives_71 rfl (by decide) rfl ?_
            refine X_iinc (v := (x7 + 1)) (L' := [some (.ref 60), some (.int a0), some (.int x11), some (.int (x7 + 1))]) dX12_gives_72 rfl rfl (by decide) rfl ?_
            refine X_goto (tgt := 7) dX12_gives_75 (by decide) ?_
            exact ih7 _ _ _  h
          · refine X_drop (L' := [some (.ref 60), some (.int a0), none, some (.int x7)]) ⟨rfl, ⟨rfl, ⟨rfl, trivial⟩⟩⟩ ?_
            exact j47 _ _  h
  exact key7 _ _ _ _  h
def w_X12_turnBy (a0 : Int32) (b0 : Int32) (c0 : Int32) (d0 : Int32) (σ : Sg) (Q : Int32 → Sg → Prop) : Prop := bd (fun (x1 : Int32) (σ2 : Sg) => bd (fun (x3 : Int32) (σ4 : Sg) => if (-1 : Int32) ≤ x3 then (if x3 ≤ (1 : Int32) then (Q x3 σ4) else (Q (1 : Int32) σ4)) else (Q (-1 : Int32) σ4)) fun J78 => if (σ2.1 60 29) = 0 then (J78 x1 σ2) else (bd (sI σ2 78 (Int32.toNatClampNeg (0 : Int32)) (σ2.1 67 (Int32.toNatClampNeg (1 : Int32)))) fun σ5 => bd (sI σ5 78 (Int32.toNatClampNeg (1 : Int32)) c0) fun σ6 => bd (sI σ6 78 (Int32.toNatClampNeg (2 : Int32)) d0) fun σ7 => bd (sI σ7 78 (Int32.toNatClampNeg (3 : Int32)) b0) fun σ8 => bd (sI σ8 78 (Int32.toNatClampNeg (4 : Int32)) a0) fun σ9 => vp_in a0 6 ∧ bd (sI σ9 78 (Int32.toNatClampNeg (5 : Int32)) (σ9.1 63 (Int32.toNatClampNeg a0))) fun σ10 => w_X12_gives (0 : Int32) σ10 (fun r12 σ11 => J78 r12 σ11))) fun J9 => if c0 = 0 then (J9 (1 : Int32) σ) else (J9 (0 : Int32) σ)
set_option maxRecDepth 100000 in
set_option maxHeartbeats 4000000 in
theorem s_X12_turnBy (sx : Nat × (Nat → Int32)) (a0 : Int32) (b0 : Int32) (c0 : Int32) (d0 : Int32) (σ : Sg) (Q : Int32 → Sg → Prop) (h : w_X12_turnBy a0 b0 c0 d0 σ Q) : Ct mX12_turnBy 3 false (0, 0) sx G0 [.ref 60, .int a0, .int b0, .int c0, .int d0] σ (qI Q) := by
  refine Ct.of (L := [some (.ref 60), some (.int a0), some (.int b0), some (.int c0), some (.int d0), none]) (by decide) (Nat.le_of_ble_eq_true rfl) rfl ?_
  unfold w_X12_turnBy at h
  refine X_iload_n dX12_turnBy_0 rfl rfl ?_
  refine bd_j h (fun J9 e9 h => ?_)
  have j9 : ∀ (x1 : Int32) (σ2 : Sg) , J9 x1 σ2 → Ex mX12_turnBy 3 false (0, 0) sx G0 9 [some (.ref 60), some (.int a0), some (.int b0), some (.int c0), some (.int d0), none] [.int x1] σ2 (qI Q) := by
    intro x1 σ2  h
    subst e9
    replace h := h
    refine X_istore (L' := [some (.ref 60), some (.int a0), some (.int b0), some (.int c0), some (.int d0), some (.int x1)]) dX12_turnBy_9 (by decide) rfl ?_
    refine X_aload_n dX12_turnBy_11 rfl rfl ?_
    refine X_get (v := .int (σ2.1 60 29)) ck_X12 f_X12_245 g_60 rfl (fun _ => rfl) dX12_turnBy_12 ?_
    refine bd_j h (fun J78 e78 h => ?_)
    have j78 : ∀ (x3 : Int32) (σ4 : Sg) , J78 x3 σ4 → Ex mX12_turnBy 3 false (0, 0) sx G0 78 [none, none, none, none, none, some (.int x3)] [] σ4 (qI Q) := by
      intro x3 σ4  h
      subst e78
      replace h := h
      refine X_iload dX12_turnBy_78 rfl ?_
      refine X_iconst (v := -1) dX12_turnBy_80 iconst_m1 ?_
      refine X_icmp_ge (tgt := 88) dX12_turnBy_81 (by decide) h (fun h => ?_) (fun h => ?_)
      · refine X_iload dX12_turnBy_88 rfl ?_
        refine X_iconst (v := 1) dX12_turnBy_90 iconst_1 ?_
        refine X_icmp_le (tgt := 98) dX12_turnBy_91 (by decide) h (fun h => ?_) (fun h => ?_)
        · refine X_iload dX12_turnBy_98 rfl ?_
          exact X_reti rfl dX12_turnBy_100 h
        · refine X_iconst (v := 1) dX12_turnBy_94 iconst_1 ?_
          refine X_goto (tgt := 100) dX12_turnBy_95 (by decide) ?_
          exact X_reti rfl dX12_turnBy_100 h
      · refine X_iconst (v := -1) dX12_turnBy_84 iconst_m1 ?_
        refine X_goto (tgt := 100) dX12_turnBy_85 (by decide) ?_
        exact X_reti rfl dX12_turnBy_100 h
    refine X_if_eq (tgt := 78) dX12_turnBy_15 (by decide) h (fun h => ?_) (fun h => ?_)
    · refine X_drop (L' := [none, none, none, none, none, some (.int x1)]) ⟨rfl, trivial⟩ ?_
      exact j78 _ _  h
    · refine X_aload_n dX12_turnBy_18 rfl rfl ?_
      refine X_get (v := .ref 78) ck_X12 f_X12_65 g_60 rfl (fun _ => rfl) dX12_turnBy_19 ?_
      refine X_iconst (v := 0) dX12_turnBy_22 iconst_0 ?_
      refine X_aload_n dX12_turnBy_23 rfl rfl ?_
      refine X_get (v := .ref 67) ck_X12 f_X12_30 g_60 rfl (fun _ => rfl) dX12_turnBy_24 ?_
      refine X_iconst (v := 1) dX12_turnBy_27 iconst_1 ?_
      refine X_iald g_67 dX12_turnBy_28 ⟨(by unfold vp_in; decide), h⟩ (fun h => ?_)
      refine X_iast g_78 dX12_turnBy_29 ⟨(by unfold vp_in; decide), h⟩ (fun σ5 h => ?_)
      refine X_aload_n dX12_turnBy_30 rfl rfl ?_
      refine X_get (v := .ref 78) ck_X12 f_X12_65 g_60 rfl (fun _ => rfl) dX12_turnBy_31 ?_
      refine X_iconst (v := 1) dX12_turnBy_34 iconst_1 ?_
      refine X_iload_n dX12_turnBy_35 rfl rfl ?_
      refine X_iast g_78 dX12_turnBy_36 ⟨(by unfold vp_in; decide), h⟩ (fun σ6 h => ?_)
      refine X_aload_n dX12_turnBy_37 rfl rfl ?_
      refine X_get (v := .ref 78) ck_X12 f_X12_65 g_60 rfl (fun _ => rfl) dX12_turnBy_38 ?_
      refine X_iconst (v := 2) dX12_turnBy_41 iconst_2 ?_
      refine X_iload dX12_turnBy_42 rfl ?_
      refine X_iast g_78 dX12_turnBy_44 ⟨(by unfold vp_in; decide), h⟩ (fun σ7 h => ?_)
      refine X_aload_n dX12_turnBy_45 rfl rfl ?_
      refine X_get (v := .ref 78) ck_X12 f_X12_65 g_60 rfl (fun _ => rfl) dX12_turnBy_46 ?_
      refine X_iconst (v := 3) dX12_turnBy_49 iconst_3 ?_
      refine X_iload_n dX12_turnBy_50 rfl rfl ?_
      refine X_iast g_78 dX12_turnBy_51 ⟨(by unfold vp_in; decide), h⟩ (fun σ8 h => ?_)
      refine X_aload_n dX12_turnBy_52 rfl rfl ?_
      refine X_get (v := .ref 78) ck_X12 f_X12_65 g_60 rfl (fun _ => rfl) dX12_turnBy_53 ?_
      refine X_iconst (v := 4) dX12_turnBy_56 iconst_4 ?_
      refine X_iload_n dX12_turnBy_57 rfl rfl ?_
      refine X_iast g_78 dX12_turnBy_58 ⟨(by unfold vp_in; decide), h⟩ (fun σ9 h => ?_)
      refine X_aload_n dX12_turnBy_59 rfl rfl ?_
      refine X_get (v := .ref 78) ck_X12 f_X12_65 g_60 rfl (fun _ => rfl) dX12_turnBy_60 ?_
      refine X_iconst (v := 5) dX12_turnBy_63 iconst_5 ?_
      refine X_aload_n dX12_turnBy_64 rfl rfl ?_
      refine X_get (v := .ref 63) ck_X12 f_X12_18 g_60 rfl (fun _ => rfl) dX12_turnBy_65 ?_
      refine X_iload_n dX12_turnBy_68 rfl rfl ?_
      refine X_iald g_63 dX12_turnBy_69 h (fun h => ?_)
      refine X_iast g_78 dX12_turnBy_70 ⟨(by unfold vp_in; decide), h⟩ (fun σ10 h => ?_)
      refine X_aload_n dX12_turnBy_71 rfl rfl ?_
      refine X_iconst (v := 0) dX12_turnBy_72 iconst_0 ?_
      refine X_callVi [.int (0 : Int32)] [] c_X12_gives v_X12_gives lk_X12_249 dX12_turnBy_73 g_60 rfl rfl rfl (by decide) (Nat.le_of_ble_eq_true rfl) rfl (s_X12_gives sx (0 : Int32)  σ10 _ h) (fun r12 σ11 h => ?_)
      refine X_istore (L' := [some (.ref 60), some (.int a0), some (.int b0), some (.int c0), some (.int d0), some (.int r12)]) dX12_turnBy_76 (by decide) rfl ?_
      refine X_drop (L' := [none, none, none, none, none, some (.int r12)]) ⟨rfl, trivial⟩ ?_
      exact j78 _ _  h
  refine X_if_ne (tgt := 8) dX12_turnBy_1 (by decide) h (fun h => ?_) (fun h => ?_)
  · refine X_iconst (v := 0) dX12_turnBy_8 iconst_0 ?_
    exact j9 _ _  h
  · refine X_iconst (v := 1) dX12_turnBy_4 iconst_1 ?_
    refine X_goto (tgt := 9) dX12_turnBy_5 (by decide) ?_
    exact j9 _ _  h
def w_X12_turn (a0 : Int32) (σ : Sg) (Q : Int32 → Sg → Prop) : Prop := w_X12_isCarriage a0 σ (fun r2 σ1 => if r2 = 0 then (Q (-2000000000 : Int32) σ1) else (vp_in a0 6 ∧ vp_in a0 6 ∧ w_X12_turnBy a0 (σ1.1 62 (Int32.toNatClampNeg a0)) (σ1.1 64 (Int32.toNatClampNeg a0)) (σ1.1 67 (Int32.toNatClampNeg (2 : Int32))) σ1 (fun r4 σ3 => Q r4 σ3)))
set_option maxRecDepth 100000 in
set_option maxHeartbeats 4000000 in
theorem s_X12_turn (sx : Nat × (Nat → Int32)) (a0 : Int32) (σ : Sg) (Q : Int32 → Sg → Prop) (h : w_X12_turn a0 σ Q) : Ct mX12_turn 4 false (0, 0) sx G0 [.ref 60, .int a0] σ (qI Q) := by
  refine Ct.of (L := [some (.ref 60), some (.int a0)]) (by decide) (Nat.le_of_ble_eq_true rfl) rfl ?_
  unfold w_X12_turn at h
  refine X_aload_n dX12_turn_0 rfl rfl ?_
  refine X_iload_n dX12_turn_1 rfl rfl ?_
  refine X_callVi [.int a0] [] c_X12_isCarriage v_X12_isCarriage lk_X12_135 dX12_turn_2 g_60 rfl rfl rfl (by decide) (Nat.le_of_ble_eq_true rfl) rfl (s_X12_isCarriage sx a0  σ _ h) (fun r2 σ1 h => ?_)
  refine X_if_eq (tgt := 34) dX12_turn_5 (by decide) h (fun h => ?_) (fun h => ?_)
  · refine X_ldc (v := -2000000000) dX12_turn_34 k_X12_177 ?_
    exact X_reti rfl dX12_turn_36 h
  · refine X_aload_n dX12_turn_8 rfl rfl ?_
    refine X_iload_n dX12_turn_9 rfl rfl ?_
    refine X_aload_n dX12_turn_10 rfl rfl ?_
    refine X_get (v := .ref 62) ck_X12 f_X12_15 g_60 rfl (fun _ => rfl) dX12_turn_11 ?_
    refine X_iload_n dX12_turn_14 rfl rfl ?_
    refine X_iald g_62 dX12_turn_15 h (fun h => ?_)
    refine X_aload_n dX12_turn_16 rfl rfl ?_
    refine X_get (v := .ref 64) ck_X12 f_X12_21 g_60 rfl (fun _ => rfl) dX12_turn_17 ?_
    refine X_iload_n dX12_turn_20 rfl rfl ?_
    refine X_iald g_64 dX12_turn_21 h (fun h => ?_)
    refine X_aload_n dX12_turn_22 rfl rfl ?_
    refine X_get (v := .ref 67) ck_X12 f_X12_30 g_60 rfl (fun _ => rfl) dX12_turn_23 ?_
    refine X_iconst (v := 2) dX12_turn_26 iconst_2 ?_
    refine X_iald g_67 dX12_turn_27 ⟨(by unfold vp_in; decide), h⟩ (fun h => ?_)
    refine X_callVi [.int a0, .int (σ1.1 62 (Int32.toNatClampNeg a0)), .int (σ1.1 64 (Int32.toNatClampNeg a0)), .int (σ1.1 67 (Int32.toNatClampNeg (2 : Int32)))] [] c_X12_turnBy v_X12_turnBy lk_X12_252 dX12_turn_28 g_60 rfl rfl rfl (by decide) (Nat.le_of_ble_eq_true rfl) rfl (s_X12_turnBy sx a0 (σ1.1 62 (Int32.toNatClampNeg a0)) (σ1.1 64 (Int32.toNatClampNeg a0)) (σ1.1 67 (Int32.toNatClampNeg (2 : Int32)))  σ1 _ h) (fun r4 σ3 h => ?_)
    refine X_goto (tgt := 36) dX12_turn_31 (by decide) ?_
    exact X_reti rfl dX12_turn_36 h
def w_X12_alongX (a0 : Int32) (σ : Sg) (Q : Int32 → Sg → Prop) : Prop := bd (fun (σ1 : Sg) => if a0 ≤ (4 : Int32) then (Q (0 : Int32) σ1) else (Q (-1 : Int32) σ1)) fun J13 => if a0 ≤ 0 then (J13 σ) else (if (4 : Int32) ≤ a0 then (J13 σ) else (Q (1 : Int32) σ))
set_option maxRecDepth 100000 in
set_option maxHeartbeats 4000000 in
theorem s_X12_alongX (sx : Nat × (Nat → Int32)) (a0 : Int32) (σ : Sg) (Q : Int32 → Sg → Prop) (h : w_X12_alongX a0 σ Q) : Ct mX12_alongX 0 false (0, 0) sx G0 [.int a0] σ (qI Q) := by
  refine Ct.of (L := [some (.int a0)]) (by decide) (Nat.le_of_ble_eq_true rfl) rfl ?_
  unfold w_X12_alongX at h
  refine X_iload_n dX12_alongX_0 rfl rfl ?_
  refine bd_j h (fun J13 e13 h => ?_)
  have j13 : ∀ (σ1 : Sg) , J13  σ1 → Ex mX12_alongX 0 false (0, 0) sx G0 13 [some (.int a0)] [] σ1 (qI Q) := by
    intro  σ1  h
    subst e13
    replace h := h
    refine X_iload_n dX12_alongX_13 rfl rfl ?_
    refine X_iconst (v := 4) dX12_alongX_14 iconst_4 ?_
    refine X_icmp_le (tgt := 22) dX12_alongX_15 (by decide) h (fun h => ?_) (fun h => ?_)
    · refine X_iconst (v := 0) dX12_alongX_22 iconst_0 ?_
      exact X_reti rfl dX12_alongX_23 h
    · refine X_iconst (v := -1) dX12_alongX_18 iconst_m1 ?_
      refine X_goto (tgt := 23) dX12_alongX_19 (by decide) ?_
      exact X_reti rfl dX12_alongX_23 h
  refine X_if_le (tgt := 13) dX12_alongX_1 (by decide) h (fun h => ?_) (fun h => ?_)
  · exact j13 _  h
  · refine X_iload_n dX12_alongX_4 rfl rfl ?_
    refine X_iconst (v := 4) dX12_alongX_5 iconst_4 ?_
    refine X_icmp_ge (tgt := 13) dX12_alongX_6 (by decide) h (fun h => ?_) (fun h => ?_)
    · exact j13 _  h
    · refine X_iconst (v := 1) dX12_alongX_9 iconst_1 ?_
      refine X_goto (tgt := 23) dX12_alongX_10 (by decide) ?_
      exact X_reti rfl dX12_alongX_23 h
def w_X12_alongY (a0 : Int32) (σ : Sg) (Q : Int32 → Sg → Prop) : Prop := if a0 = (7 : Int32) then (Q (-1 : Int32) σ) else (if (2 : Int32) ≤ a0 then (if a0 ≤ (2 : Int32) then (Q (0 : Int32) σ) else (if (6 : Int32) ≤ a0 then (Q (0 : Int32) σ) else (Q (1 : Int32) σ))) else (Q (-1 : Int32) σ))
set_option maxRecDepth 100000 in
set_option maxHeartbeats 4000000 in
theorem s_X12_alongY (sx : Nat × (Nat → Int32)) (a0 : Int32) (σ : Sg) (Q : Int32 → Sg → Prop) (h : w_X12_alongY a0 σ Q) : Ct mX12_alongY 0 false (0, 0) sx G0 [.int a0] σ (qI Q) := by
  refine Ct.of (L := [some (.int a0)]) (by decide) (Nat.le_of_ble_eq_true rfl) rfl ?_
  unfold w_X12_alongY at h
  refine X_iload_n dX12_alongY_0 rfl rfl ?_
  refine X_bipush (v := 7) dX12_alongY_1 bipush_7 ?_
  refine X_icmp_eq (tgt := 11) dX12_alongY_3 (by decide) h (fun h => ?_) (fun h => ?_)
  · refine X_iconst (v := -1) dX12_alongY_11 iconst_m1 ?_
    refine X_goto (tgt := 31) dX12_alongY_12 (by decide) ?_
    exact X_reti rfl dX12_alongY_31 h
  · refine X_iload_n dX12_alongY_6 rfl rfl ?_
    refine X_iconst (v := 2) dX12_alongY_7 iconst_2 ?_
    refine X_icmp_ge (tgt := 15) dX12_alongY_8 (by decide) h (fun h => ?_) (fun h => ?_)
    · refine X_iload_n dX12_alongY_15 rfl rfl ?_
      refine X_iconst (v := 2) dX12_alongY_16 iconst_2 ?_
      refine X_icmp_le (tgt := 30) dX12_alongY_17 (by decide) h (fun h => ?_) (fun h => ?_)
      · refine X_iconst (v := 0) dX12_alongY_30 iconst_0 ?_
        exact X_reti rfl dX12_alongY_31 h
      · refine X_iload_n dX12_alongY_20 rfl rfl ?_
        refine X_bipush (v := 6) dX12_alongY_21 bipush_6 ?_
        refine X_icmp_ge (tgt := 30) dX12_alongY_23 (by decide) h (fun h => ?_) (fun h => ?_)
        · refine X_iconst (v := 0) dX12_alongY_30 iconst_0 ?_
          exact X_reti rfl dX12_alongY_31 h
        · refine X_iconst (v := 1) dX12_alongY_26 iconst_1 ?_
          refine X_goto (tgt := 31) dX12_alongY_27 (by decide) ?_
          exact X_reti rfl dX12_alongY_31 h
    · refine X_iconst (v := -1) dX12_alongY_11 iconst_m1 ?_
      refine X_goto (tgt := 31) dX12_alongY_12 (by decide) ?_
      exact X_reti rfl dX12_alongY_31 h
