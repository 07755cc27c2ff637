def w_X12_leaves (a0 : Int32) (b0 : Int32) (σ : Sg) (Q : Int32 → Sg → Prop) : Prop := w_X12_alongX b0 σ (fun r2 σ1 => w_X12_in ((a0 - a0 / (16 : Int32) * (16 : Int32)) + r2) (0 : Int32) (15 : Int32) σ1 (fun r4 σ3 => if r4 = 0 then (Q (1 : Int32) σ3) else (w_X12_alongY b0 σ3 (fun r6 σ5 => w_X12_in ((a0 / (16 : Int32)) + r6) (0 : Int32) (15 : Int32) σ5 (fun r8 σ7 => if r8 = 0 then (Q (1 : Int32) σ7) else (Q (0 : Int32) σ7))))))
set_option maxRecDepth 100000 in
set_option maxHeartbeats 4000000 in
theorem s_X12_leaves (sx : Nat × (Nat → Int32)) (a0 : Int32) (b0 : Int32) (σ : Sg) (Q : Int32 → Sg → Prop) (h : w_X12_leaves a0 b0 σ Q) : Ct mX12_leaves 1 false (0, 0) sx G0 [.int a0, .int b0] σ (qI Q) := by
  refine Ct.of (L := [some (.int a0), some (.int b0)]) (by decide) (Nat.le_of_ble_eq_true rfl) rfl ?_
  unfold w_X12_leaves at h
  refine X_iload_n dX12_leaves_0 rfl rfl ?_
  refine X_bipush (v := 16) dX12_leaves_1 bipush_16 ?_
  refine X_irem dX12_leaves_3 (by decide) ?_
  refine X_iload_n dX12_leaves_4 rfl rfl ?_
  refine X_callSi [.int b0] [.int (a0 - a0 / (16 : Int32) * (16 : Int32))] c_X12_alongX t_X12_alongX lk_X12_256 dX12_leaves_5 rfl (by decide) (Nat.le_of_ble_eq_true rfl) rfl (s_X12_alongX sx b0  σ _ h) (fun r2 σ1 h => ?_)
  refine X_iadd dX12_leaves_8 ?_
  refine X_iconst (v := 0) dX12_leaves_9 iconst_0 ?_
  refine X_bipush (v := 15) dX12_leaves_10 bipush_15 ?_
  refine X_callSi [.int ((a0 - a0 / (16 : Int32) * (16 : Int32)) + r2), .int (0 : Int32), .int (15 : Int32)] [] c_X12_in t_X12_in lk_X12_128 dX12_leaves_12 rfl (by decide) (Nat.le_of_ble_eq_true rfl) rfl (s_X12_in sx ((a0 - a0 / (16 : Int32) * (16 : Int32)) + r2) (0 : Int32) (15 : Int32)  σ1 _ h) (fun r4 σ3 h => ?_)
  refine X_if_eq (tgt := 36) dX12_leaves_15 (by decide) h (fun h => ?_) (fun h => ?_)
  · refine X_iconst (v := 1) dX12_leaves_36 iconst_1 ?_
    refine X_goto (tgt := 41) dX12_leaves_37 (by decide) ?_
    exact X_retz rfl rfl dX12_leaves_41 h
  · refine X_iload_n dX12_leaves_18 rfl rfl ?_
    refine X_bipush (v := 16) dX12_leaves_19 bipush_16 ?_
    refine X_idiv dX12_leaves_21 (by decide) ?_
    refine X_iload_n dX12_leaves_22 rfl rfl ?_
    refine X_callSi [.int b0] [.int (a0 / (16 : Int32))] c_X12_alongY t_X12_alongY lk_X12_259 dX12_leaves_23 rfl (by decide) (Nat.le_of_ble_eq_true rfl) rfl (s_X12_alongY sx b0  σ3 _ h) (fun r6 σ5 h => ?_)
    refine X_iadd dX12_leaves_26 ?_
    refine X_iconst (v := 0) dX12_leaves_27 iconst_0 ?_
    refine X_bipush (v := 15) dX12_leaves_28 bipush_15 ?_
    refine X_callSi [.int ((a0 / (16 : Int32)) + r6), .int (0 : Int32), .int (15 : Int32)] [] c_X12_in t_X12_in lk_X12_128 dX12_leaves_30 rfl (by decide) (Nat.le_of_ble_eq_true rfl) rfl (s_X12_in sx ((a0 / (16 : Int32)) + r6) (0 : Int32) (15 : Int32)  σ5 _ h) (fun r8 σ7 h => ?_)
    refine X_if_ne (tgt := 40) dX12_leaves_33 (by decide) h (fun h => ?_) (fun h => ?_)
    · refine X_iconst (v := 0) dX12_leaves_40 iconst_0 ?_
      exact X_retz rfl rfl dX12_leaves_41 h
    · refine X_iconst (v := 1) dX12_leaves_36 iconst_1 ?_
      refine X_goto (tgt := 41) dX12_leaves_37 (by decide) ?_
      exact X_retz rfl rfl dX12_leaves_41 h
def w_X12_goStep (σ : Sg) (Q : Sg → Prop) : Prop := w_X12_leaves (σ.1 60 30) (σ.1 60 31) σ (fun r2 σ1 => bd (fun (σ3 : Sg) => w_X12_leaves (σ3.1 60 30) (σ3.1 60 31) σ3 (fun r5 σ4 => if r5 = 0 then (w_X12_alongX (σ4.1 60 31) σ4 (fun r7 σ6 => w_X12_alongY (σ6.1 60 31) σ6 (fun r9 σ8 => bd (sI σ8 60 30 ((σ4.1 60 30) + (r7 + ((16 : Int32) * r9)))) fun σ10 => bd (sI σ10 60 32 ((σ10.1 60 32) + (1 : Int32))) fun σ11 => Q σ11))) else (Q σ4))) fun J27 => if r2 = 0 then (J27 σ1) else (bd (sI σ1 60 31 (((σ1.1 60 31) + (4 : Int32)) - ((σ1.1 60 31) + (4 : Int32)) / (8 : Int32) * (8 : Int32))) fun σ12 => J27 σ12))
set_option maxRecDepth 100000 in
set_option maxHeartbeats 4000000 in
theorem s_X12_goStep (sx : Nat × (Nat → Int32)) (σ : Sg) (Q : Sg → Prop) (h : w_X12_goStep σ Q) : Ct mX12_goStep 2 false (0, 0) sx G0 [.ref 60] σ (qV Q) := by
  refine Ct.of (L := [some (.ref 60)]) (by decide) (Nat.le_of_ble_eq_true rfl) rfl ?_
  unfold w_X12_goStep at h
  refine X_aload_n dX12_goStep_0 rfl rfl ?_
  refine X_get (v := .int (σ.1 60 30)) ck_X12 f_X12_262 g_60 rfl (fun _ => rfl) dX12_goStep_1 ?_
  refine X_aload_n dX12_goStep_4 rfl rfl ?_
  refine X_get (v := .int (σ.1 60 31)) ck_X12 f_X12_265 g_60 rfl (fun _ => rfl) dX12_goStep_5 ?_
  refine X_callSi [.int (σ.1 60 30), .int (σ.1 60 31)] [] c_X12_leaves t_X12_leaves lk_X12_268 dX12_goStep_8 rfl (by decide) (Nat.le_of_ble_eq_true rfl) rfl (s_X12_leaves sx (σ.1 60 30) (σ.1 60 31)  σ _ h) (fun r2 σ1 h => ?_)
  refine bd_j h (fun J27 e27 h => ?_)
  have j27 : ∀ (σ3 : Sg) , J27  σ3 → Ex mX12_goStep 2 false (0, 0) sx G0 27 [some (.ref 60)] [] σ3 (qV Q) := by
    intro  σ3  h
    subst e27
    replace h := h
    refine X_aload_n dX12_goStep_27 rfl rfl ?_
    refine X_get (v := .int (σ3.1 60 30)) ck_X12 f_X12_262 g_60 rfl (fun _ => rfl) dX12_goStep_28 ?_
    refine X_aload_n dX12_goStep_31 rfl rfl ?_
    refine X_get (v := .int (σ3.1 60 31)) ck_X12 f_X12_265 g_60 rfl (fun _ => rfl) dX12_goStep_32 ?_
    refine X_callSi [.int (σ3.1 60 30), .int (σ3.1 60 31)] [] c_X12_leaves t_X12_leaves lk_X12_268 dX12_goStep_35 rfl (by decide) (Nat.le_of_ble_eq_true rfl) rfl (s_X12_leaves sx (σ3.1 60 30) (σ3.1 60 31)  σ3 _ h) (fun r5 σ4 h => ?_)
    refine X_if_eq (tgt := 42) dX12_goStep_38 (by decide) h (fun h => ?_) (fun h => ?_)
    · refine X_aload_n dX12_goStep_42 rfl rfl ?_
      refine X_dup dX12_goStep_43 rfl ?_
      refine X_get (v := .int (σ4.1 60 30)) ck_X12 f_X12_262 g_60 rfl (fun _ => rfl) dX12_goStep_44 ?_
      refine X_aload_n dX12_goStep_47 rfl rfl ?_
      refine X_get (v := .int (σ4.1 60 31)) ck_X12 f_X12_265 g_60 rfl (fun _ => rfl) dX12_goStep_48 ?_
      refine X_callSi [.int (σ4.1 60 31)] [.int (σ4.1 60 30), .ref 60] c_X12_alongX t_X12_alongX lk_X12_256 dX12_goStep_51 rfl (by decide) (Nat.le_of_ble_eq_true rfl) rfl (s_X12_alongX sx (σ4.1 60 31)  σ4 _ h) (fun r7 σ6 h => ?_)
      refine X_bipush (v := 16) dX12_goStep_54 bipush_16 ?_
      refine X_aload_n dX12_goStep_56 rfl rfl ?_
      refine X_get (v := .int (σ6.1 60 31)) ck_X12 f_X12_265 g_60 rfl (fun _ => rfl) dX12_goStep_57 ?_
      refine X_callSi [.int (σ6.1 60 31)] [.int (16 : Int32), .int r7, .int (σ4.1 60 30), .ref 60] c_X12_alongY t_X12_alongY lk_X12_259 dX12_goStep_60 rfl (by decide) (Nat.le_of_ble_eq_true rfl) rfl (s_X12_alongY sx (σ6.1 60 31)  σ6 _ h) (fun r9 σ8 h => ?_)
      refine X_imul dX12_goStep_63 ?_
      refine X_iadd dX12_goStep_64 ?_
      refine X_iadd dX12_goStep_65 ?_
      refine X_putI ck_X12 f_X12_262 rfl g_60 rfl rfl rfl dX12_goStep_66 h (fun σ10 h => ?_)
      refine X_aload_n dX12_goStep_69 rfl rfl ?_
      refine X_dup dX12_goStep_70 rfl ?_
      refine X_get (v := .int (σ10.1 60 32)) ck_X12 f_X12_271 g_60 rfl (fun _ => rfl) dX12_goStep_71 ?_
      refine X_iconst (v := 1) dX12_goStep_74 iconst_1 ?_
      refine X_iadd dX12_goStep_75 ?_
      refine X_putI ck_X12 f_X12_271 rfl g_60 rfl rfl rfl dX12_goStep_76 h (fun σ11 h => ?_)
      exact X_retv rfl dX12_goStep_79 h
    · exact X_retv rfl dX12_goStep_41 h
  refine X_if_eq (tgt := 27) dX12_goStep_11 (by decide) h (fun h => ?_) (fun h => ?_)
  · exact j27 _  h
  · refine X_aload_n dX12_goStep_14 rfl rfl ?_
    refine X_aload_n dX12_goStep_15 rfl rfl ?_
    refine X_get (v := .int (σ1.1 60 31)) ck_X12 f_X12_265 g_60 rfl (fun _ => rfl) dX12_goStep_16 ?_
    refine X_iconst (v := 4) dX12_goStep_19 iconst_4 ?_
    refine X_iadd dX12_goStep_20 ?_
    refine X_bipush (v := 8) dX12_goStep_21 bipush_8 ?_
    refine X_irem dX12_goStep_23 (by decide) ?_
    refine X_putI ck_X12 f_X12_265 rfl g_60 rfl rfl rfl dX12_goStep_24 h (fun σ12 h => ?_)
    exact j27 _  h
def w_X12_shoeAt (a0 : Int32) (b0 : Int32) (σ : Sg) (Q : Int32 → Sg → Prop) : Prop := if a0 ≤ b0 then (Q (0 : Int32) σ) else (Q (a0 - b0) σ)
set_option maxRecDepth 100000 in
set_option maxHeartbeats 4000000 in
theorem s_X12_shoeAt (sx : Nat × (Nat → Int32)) (a0 : Int32) (b0 : Int32) (σ : Sg) (Q : Int32 → Sg → Prop) (h : w_X12_shoeAt a0 b0 σ Q) : Ct mX12_shoeAt 0 false (0, 0) sx G0 [.int a0, .int b0] σ (qI Q) := by
  refine Ct.of (L := [some (.int a0), some (.int b0)]) (by decide) (Nat.le_of_ble_eq_true rfl) rfl ?_
  unfold w_X12_shoeAt at h
  refine X_iload_n dX12_shoeAt_0 rfl rfl ?_
  refine X_iload_n dX12_shoeAt_1 rfl rfl ?_
  refine X_icmp_le (tgt := 11) dX12_shoeAt_2 (by decide) h (fun h => ?_) (fun h => ?_)
  · refine X_iconst (v := 0) dX12_shoeAt_11 iconst_0 ?_
    exact X_reti rfl dX12_shoeAt_12 h
  · refine X_iload_n dX12_shoeAt_5 rfl rfl ?_
    refine X_iload_n dX12_shoeAt_6 rfl rfl ?_
    refine X_isub dX12_shoeAt_7 ?_
    refine X_goto (tgt := 12) dX12_shoeAt_8 (by decide) ?_
    exact X_reti rfl dX12_shoeAt_12 h
def w_X12_hourAt (a0 : Int32) (σ : Sg) (Q : Int32 → Sg → Prop) : Prop := if ((σ.1 67 (Int32.toNatClampNeg (2 : Int32))) + a0) ≤ (99 : Int32) then (Q ((σ.1 67 (Int32.toNatClampNeg (2 : Int32))) + a0) σ) else (Q (99 : Int32) σ)
set_option maxRecDepth 100000 in
set_option maxHeartbeats 4000000 in
theorem s_X12_hourAt (sx : Nat × (Nat → Int32)) (a0 : Int32) (σ : Sg) (Q : Int32 → Sg → Prop) (h : w_X12_hourAt a0 σ Q) : Ct mX12_hourAt 0 false (0, 0) sx G0 [.ref 60, .int a0] σ (qI Q) := by
  refine Ct.of (L := [some (.ref 60), some (.int a0)]) (by decide) (Nat.le_of_ble_eq_true rfl) rfl ?_
  unfold w_X12_hourAt at h
  refine X_aload_n dX12_hourAt_0 rfl rfl ?_
  refine X_get (v := .ref 67) ck_X12 f_X12_30 g_60 rfl (fun _ => rfl) dX12_hourAt_1 ?_
  refine X_iconst (v := 2) dX12_hourAt_4 iconst_2 ?_
  refine X_iald g_67 dX12_hourAt_5 ⟨(by unfold vp_in; decide), h⟩ (fun h => ?_)
  refine X_iload_n dX12_hourAt_6 rfl rfl ?_
  refine X_iadd dX12_hourAt_7 ?_
  refine X_bipush (v := 99) dX12_hourAt_8 bipush_99 ?_
  refine X_icmp_le (tgt := 18) dX12_hourAt_10 (by decide) h (fun h => ?_) (fun h => ?_)
  · refine X_aload_n dX12_hourAt_18 rfl rfl ?_
    refine X_get (v := .ref 67) ck_X12 f_X12_30 g_60 rfl (fun _ => rfl) dX12_hourAt_19 ?_
    refine X_iconst (v := 2) dX12_hourAt_22 iconst_2 ?_
    refine X_iald g_67 dX12_hourAt_23 ⟨(by unfold vp_in; decide), h⟩ (fun h => ?_)
    refine X_iload_n dX12_hourAt_24 rfl rfl ?_
    refine X_iadd dX12_hourAt_25 ?_
    exact X_reti rfl dX12_hourAt_26 h
  · refine X_bipush (v := 99) dX12_hourAt_13 bipush_99 ?_
    refine X_goto (tgt := 26) dX12_hourAt_15 (by decide) ?_
    exact X_reti rfl dX12_hourAt_26 h
def w_X12_goHour_l44 (a0 : Int32) (Q : Sg → Prop) : Nat → Int32 → Sg → Prop
  | 0, _, _ => False
  | n44 + 1, x8, σ9 => vp_in a0 6 ∧ if (σ9.1 63 (Int32.toNatClampNeg a0)) ≤ x8 then (Q σ9) else (w_X12_goStep  σ9 (fun  σ10 => w_X12_goHour_l44 a0 Q n44 (x8 + 1) σ10))
def w_X12_goHour (a0 : Int32) (b0 : Int32) (c0 : Int32) (σ : Sg) (Q : Sg → Prop) : Prop := vp_in a0 6 ∧ w_X12_shoeAt (σ.1 64 (Int32.toNatClampNeg a0)) b0 σ (fun r2 σ1 => w_X12_hourAt b0 σ1 (fun r4 σ3 => w_X12_turnBy a0 (σ.1 60 31) r2 r4 σ3 (fun r6 σ5 => bd (sI σ5 60 31 (((((σ.1 60 31) + r6) + c0) + (8 : Int32)) - ((((σ.1 60 31) + r6) + c0) + (8 : Int32)) / (8 : Int32) * (8 : Int32))) fun σ7 => ∃ n, w_X12_goHour_l44 a0 Q n (0 : Int32) σ7)))
set_option maxRecDepth 100000 in
set_option maxHeartbeats 4000000 in
theorem s_X12_goHour (sx : Nat × (Nat → Int32)) (a0 : Int32) (b0 : Int32) (c0 : Int32) (σ : Sg) (Q : Sg → Prop) (h : w_X12_goHour a0 b0 c0 σ Q) : Ct mX12_goHour 4 false (0, 0) sx G0 [.ref 60, .int a0, .int b0, .int c0] σ (qV Q) := by
  refine Ct.of (L := [some (.ref 60), some (.int a0), some (.int b0), some (.int c0), none]) (by decide) (Nat.le_of_ble_eq_true rfl) rfl ?_
  unfold w_X12_goHour at h
  refine X_aload_n dX12_goHour_0 rfl rfl ?_
  refine X_aload_n dX12_goHour_1 rfl rfl ?_
  refine X_get (v := .int (σ.1 60 31)) ck_X12 f_X12_265 g_60 rfl (fun _ => rfl) dX12_goHour_2 ?_
  refine X_aload_n dX12_goHour_5 rfl rfl ?_
  refine X_iload_n dX12_goHour_6 rfl rfl ?_
  refine X_aload_n dX12_goHour_7 rfl rfl ?_
  refine X_get (v := .int (σ.1 60 31)) ck_X12 f_X12_265 g_60 rfl (fun _ => rfl) dX12_goHour_8 ?_
  refine X_aload_n dX12_goHour_11 rfl rfl ?_
  refine X_get (v := .ref 64) ck_X12 f_X12_21 g_60 rfl (fun _ => rfl) dX12_goHour_12 ?_
  refine X_iload_n dX12_goHour_15 rfl rfl ?_
  refine X_iald g_64 dX12_goHour_16 h (fun h => ?_)
  refine X_iload_n dX12_goHour_17 rfl rfl ?_
  refine X_callSi [.int (σ.1 64 (Int32.toNatClampNeg a0)), .int b0] [.int (σ.1 60 31), .int a0, .ref 60, .int (σ.1 60 31), .ref 60] c_X12_shoeAt t_X12_shoeAt lk_X12_274 dX12_goHour_18 rfl (by decide) (Nat.le_of_ble_eq_true rfl) rfl (s_X12_shoeAt sx (σ.1 64 (Int32.toNatClampNeg a0)) b0  σ _ h) (fun r2 σ1 h => ?_)
  refine X_aload_n dX12_goHour_21 rfl rfl ?_
  refine X_iload_n dX12_goHour_22 rfl rfl ?_
  refine X_callVi [.int b0] [.int r2, .int (σ.1 60 31), .int a0, .ref 60, .int (σ.1 60 31), .ref 60] c_X12_hourAt v_X12_hourAt lk_X12_277 dX12_goHour_23 g_60 rfl rfl rfl (by decide) (Nat.le_of_ble_eq_true rfl) rfl (s_X12_hourAt sx b0  σ1 _ h) (fun r4 σ3 h => ?_)
  refine X_callVi [.int a0, .int (σ.1 60 31), .int r2, .int r4] [.int (σ.1 60 31), .ref 60] c_X12_turnBy v_X12_turnBy lk_X12_252 dX12_goHour_26 g_60 rfl rfl rfl (by decide) (Nat.le_of_ble_eq_true rfl) rfl (s_X12_turnBy sx a0 (σ.1 60 31) r2 r4  σ3 _ h) (fun r6 σ5 h => ?_)
  refine X_iadd dX12_goHour_29 ?_
  refine X_iload_n dX12_goHour_30 rfl rfl ?_
  refine X_iadd dX12_goHour_31 ?_
  refine X_bipush (v := 8) dX12_goHour_32 bipush_8 ?_
  refine X_iadd dX12_goHour_34 ?_
  refine X_bipush (v := 8) dX12_goHour_35 bipush_8 ?_
  refine X_irem dX12_goHour_37 (by decide) ?_
  refine X_putI ck_X12 f_X12_265 rfl g_60 rfl rfl rfl dX12_goHour_38 h (fun σ7 h => ?_)
  refine X_iconst (v := 0) dX12_goHour_41 iconst_0 ?_
  refine X_istore (L' := [some (.ref 60), some (.int a0), some (.int b0), some (.int c0), some (.int (0 : Int32))]) dX12_goHour_42 (by decide) rfl ?_
  obtain ⟨n44, h⟩ := h
  have key44 : ∀ (n : Nat) (x8 : Int32) (σ9 : Sg) , w_X12_goHour_l44 a0 Q n x8 σ9 → Ex mX12_goHour 4 false (0, 0) sx G0 44 [some (.ref 60), some (.int a0), none, none, some (.int x8)] [] σ9 (qV Q) := by
    intro n44
    induction n44 with
    | zero => intro _ _  h; exact h.elim
    | succ n44 ih44 =>
      intro x8 σ9  h
      unfold w_X12_goHour_l44 at h
      refine X_iload dX12_goHour_44 rfl ?_
      refine X_aload_n dX12_goHour_46 rfl rfl ?_
      refine X_get (v := .ref 63) ck_X12 f_X12_18 g_60 rfl (fun _ => rfl) dX12_goHour_47 ?_
      refine X_iload_n dX12_goHour_50 rfl rfl ?_
      refine X_iald g_63 dX12_goHour_51 h (fun h => ?_)
      refine X_icmp_ge (tgt := 65) dX12_goHour_52 (by decide) h (fun h => ?_) (fun h => ?_)
      · exact X_retv rfl dX12_goHour_65 h
      · refine X_aload_n dX12_goHour_55 rfl rfl ?_
        refine X_callVv [] [] c_X12_goStep v_X12_goStep lk_X12_280 dX12_goHour_56 g_60 rfl rfl rfl (by decide) (Nat.le_of_ble_eq_true rfl) rfl (s_X12_goStep sx   σ9 _ h) (fun  σ10 h => ?_)
        refine X_iinc (v := (x8 + 1)) (L' := [some (.ref 60), some (.int a0), none, none, some (.int (x8 + 1))]) dX12_goHour_59 rfl rfl (by decide) rfl ?_
        refine X_goto (tgt := 44) dX12_goHour_62 (by decide) ?_
        exact ih44 _ _  h
  refine X_drop (L' := [some (.ref 60), some (.int a0), none, none, some (.int (0 : Int32))]) ⟨rfl, ⟨rfl, ⟨rfl, trivial⟩⟩⟩ ?_
  exact key44 _ _ _  h
def w_X12_layNow (a0 : Int32) (σ : Sg) (Q : Sg → Prop) : Prop := vp_in a0 6 ∧ bd (sI σ 60 30 (σ.1 61 (Int32.toNatClampNeg a0))) fun σ1 => vp_in a0 6 ∧ bd (sI σ1 60 31 (σ1.1 62 (Int32.toNatClampNeg a0))) fun σ2 => Q σ2
set_option maxRecDepth 100000 in
set_option maxHeartbeats 4000000 in
theorem s_X12_layNow (sx : Nat × (Nat → Int32)) (a0 : Int32) (σ : Sg) (Q : Sg → Prop) (h : w_X12_layNow a0 σ Q) : Ct mX12_layNow 0 false (0, 0) sx G0 [.ref 60, .int a0] σ (qV Q) := by
  refine Ct.of (L := [some (.ref 60), some (.int a0)]) (by decide) (Nat.le_of_ble_eq_true rfl) rfl ?_
  unfold w_X12_layNow at h
  refine X_aload_n dX12_layNow_0 rfl rfl ?_
  refine X_aload_n dX12_layNow_1 rfl rfl ?_
  refine X_get (v := .ref 61) ck_X12 f_X12_9 g_60 rfl (fun _ => rfl) dX12_layNow_2 ?_
  refine X_iload_n dX12_layNow_5 rfl rfl ?_
  refine X_iald g_61 dX12_layNow_6 h (fun h => ?_)
  refine X_putI ck_X12 f_X12_262 rfl g_60 rfl rfl rfl dX12_layNow_7 h (fun σ1 h => ?_)
  refine X_aload_n dX12_layNow_10 rfl rfl ?_
  refine X_aload_n dX12_layNow_11 rfl rfl ?_
  refine X_get (v := .ref 62) ck_X12 f_X12_15 g_60 rfl (fun _ => rfl) dX12_layNow_12 ?_
  refine X_iload_n dX12_layNow_15 rfl rfl ?_
  refine X_iald g_62 dX12_layNow_16 h (fun h => ?_)
  refine X_putI ck_X12 f_X12_265 rfl g_60 rfl rfl rfl dX12_layNow_17 h (fun σ2 h => ?_)
  exact X_retv rfl dX12_layNow_20 h
def w_X12_goTo_l7 (a0 : Int32) (b0 : Int32) (Q : Sg → Prop) : Nat → Int32 → Sg → Prop
  | 0, _, _ => False
  | n7 + 1, x2, σ3 => if b0 ≤ x2 then (Q σ3) else (w_X12_goHour a0 x2 (0 : Int32) σ3 (fun  σ4 => w_X12_goTo_l7 a0 b0 Q n7 (x2 + 1) σ4))
def w_X12_goTo (a0 : Int32) (b0 : Int32) (σ : Sg) (Q : Sg → Prop) : Prop := w_X12_layNow a0 σ (fun  σ1 => ∃ n, w_X12_goTo_l7 a0 b0 Q n (0 : Int32) σ1)
set_option maxRecDepth 100000 in
set_option maxHeartbeats 4000000 in
theorem s_X12_goTo (sx : Nat × (Nat → Int32)) (a0 : Int32) (b0 : Int32) (σ : Sg) (Q : Sg → Prop) (h : w_X12_goTo a0 b0 σ Q) : Ct mX12_goTo 5 false (0, 0) sx G0 [.ref 60, .int a0, .int b0] σ (qV Q) := by
  refine Ct.of (L := [some (.ref 60), some (.int a0), some (.int b0), none]) (by decide) (Nat.le_of_ble_eq_true rfl) rfl ?_
  unfold w_X12_goTo at h
  refine X_aload_n dX12_goTo_0 rfl rfl ?_
  refine X_iload_n dX12_goTo_1 rfl rfl ?_
  refine X_callVv [.int a0] [] c_X12_layNow v_X12_layNow lk_X12_283 dX12_goTo_2 g_60 rfl rfl rfl (by decide) (Nat.le_of_ble_eq_true rfl) rfl (s_X12_layNow sx a0  σ _ h) (fun  σ1 h => ?_)
  refine X_iconst (v := 0) dX12_goTo_5 iconst_0 ?_
  refine X_istore_n (L' := [some (.ref 60), some (.int a0), some (.int b0), some (.int (0 : Int32))]) dX12_goTo_6 rfl (by decide) rfl ?_
  obtain ⟨n7, h⟩ := h
  have key7 : ∀ (n : Nat) (x2 : Int32) (σ3 : Sg) , w_X12_goTo_l7 a0 b0 Q n x2 σ3 → Ex mX12_goTo 5 false (0, 0) sx G0 7 [some (.ref 60), some (.int a0), some (.int b0), some (.int x2)] [] σ3 (qV Q) := by
    intro n7
    induction n7 with
    | zero => intro _ _  h; exact h.elim
    | succ n7 ih7 =>
      intro x2 σ3  h
      unfold w_X12_goTo_l7 at h
      refine X_iload_n dX12_goTo_7 rfl rfl ?_
      refine X_iload_n dX12_goTo_8 rfl rfl ?_
      refine X_icmp_ge (tgt := 25) dX12_goTo_9 (by decide) h (fun h => ?_) (fun h => ?_)
      · exact X_retv rfl dX12_goTo_25 h
      · refine X_aload_n dX12_goTo_12 rfl rfl ?_
        refine X_iload_n dX12_goTo_13 rfl rfl ?_
        refine X_iload_n dX12_goTo_14 rfl rfl ?_
        refine X_iconst (v := 0) dX12_goTo_15 iconst_0 ?_
        refine X_callVv [.int a0, .int x2, .int (0 : Int32)] [] c_X12_goHour v_X12_goHour lk_X12_287 dX12_goTo_16 g_60 rfl rfl rfl (by decide) (Nat.le_of_ble_eq_true rfl) rfl (s_X12_goHour sx a0 x2 (0 : Int32)  σ3 _ h) (fun  σ4 h => ?_)
        refine X_iinc (v := (x2 + 1)) (L' := [some (.ref 60), some (.int a0), some (.int b0), some (.int (x2 + 1))]) dX12_goTo_19 rfl rfl (by decide) rfl ?_
        refine X_goto (tgt := 7) dX12_goTo_22 (by decide) ?_
        exact ih7 _ _  h
  exact key7 _ _ _  h
def w_X12_areHours (a0 : Int32) (σ : Sg) (Q : Int32 → Sg → Prop) : Prop := w_X12_in a0 (0 : Int32) (60 : Int32) σ (fun r2 σ1 => (r2 = 0 ∨ r2 = 1) ∧ Q r2 σ1)
set_option maxRecDepth 100000 in
set_option maxHeartbeats 4000000 in
theorem s_X12_areHours (sx : Nat × (Nat → Int32)) (a0 : Int32) (σ : Sg) (Q : Int32 → Sg → Prop) (h : w_X12_areHours a0 σ Q) : Ct mX12_areHours 1 false (0, 0) sx G0 [.int a0] σ (qI Q) := by
  refine Ct.of (L := [some (.int a0)]) (by decide) (Nat.le_of_ble_eq_true rfl) rfl ?_
  unfold w_X12_areHours at h
  refine X_iload_n dX12_areHours_0 rfl rfl ?_
  refine X_iconst (v := 0) dX12_areHours_1 iconst_0 ?_
  refine X_bipush (v := 60) dX12_areHours_2 bipush_60 ?_
  refine X_callSi [.int a0, .int (0 : Int32), .int (60 : Int32)] [] c_X12_in t_X12_in lk_X12_128 dX12_areHours_4 rfl (by decide) (Nat.le_of_ble_eq_true rfl) rfl (s_X12_in sx a0 (0 : Int32) (60 : Int32)  σ _ h) (fun r2 σ1 h => ?_)
  exact X_retz rfl (nzb h.1) dX12_areHours_7 h.2
def w_X12_later (a0 : Int32) (b0 : Int32) (c0 : Int32) (σ : Sg) (Q : Int32 → Sg → Prop) : Prop := w_X12_isCarriage a0 σ (fun r2 σ1 => if r2 = 0 then (Q (-1 : Int32) σ1) else (w_X12_areHours b0 σ1 (fun r4 σ3 => if r4 = 0 then (Q (-1 : Int32) σ3) else (w_X12_in c0 (0 : Int32) (2 : Int32) σ3 (fun r6 σ5 => if r6 = 0 then (Q (-1 : Int32) σ5) else (w_X12_goTo a0 b0 σ5 (fun  σ7 => if c0 = 0 then (Q (σ7.1 60 30) σ7) else (if c0 = (1 : Int32) then (Q (σ7.1 60 31) σ7) else (vp_in a0 6 ∧ w_X12_shoeAt (σ7.1 64 (Int32.toNatClampNeg a0)) b0 σ7 (fun r9 σ8 => Q r9 σ8))))))))))
set_option maxRecDepth 100000 in
set_option maxHeartbeats 4000000 in
theorem s_X12_later (sx : Nat × (Nat → Int32)) (a0 : Int32) (b0 : Int32) (c0 : Int32) (σ : Sg) (Q : Int32 → Sg → Prop) (h : w_X12_later a0 b0 c0 σ Q) : Ct mX12_later 6 false (0, 0) sx G0 [.ref 60, .int a0, .int b0, .int c0] σ (qI Q) := by
  refine Ct.of (L := [some (.ref 60), some (.int a0), some (.int b0), some (.int c0)]) (by decide) (Nat.le_of_ble_eq_true rfl) rfl ?_
  unfold w_X12_later at h
  refine X_aload_n dX12_later_0 rfl rfl ?_
  refine X_iload_n dX12_later_1 rfl rfl ?_
  refine X_callVi [.int a0] [] c_X12_isCarriage v_X12_isCarriage lk_X12_135 dX12_later_2 g_60 rfl rfl rfl (by decide) (Nat.le_of_ble_eq_true rfl) rfl (s_X12_isCarriage sx a0  σ _ h) (fun r2 σ1 h => ?_)
  refine X_if_eq (tgt := 24) dX12_later_5 (by decide) h (fun h => ?_) (fun h => ?_)
  · refine X_iconst (v := -1) dX12_later_24 iconst_m1 ?_
    exact X_reti rfl dX12_later_25 h
  · refine X_iload_n dX12_later_8 rfl rfl ?_
    refine X_callSi [.int b0] [] c_X12_areHours t_X12_areHours lk_X12_290 dX12_later_9 rfl (by decide) (Nat.le_of_ble_eq_true rfl) rfl (s_X12_areHours sx b0  σ1 _ h) (fun r4 σ3 h => ?_)
    refine X_if_eq (tgt := 24) dX12_later_12 (by decide) h (fun h => ?_) (fun h => ?_)
    · refine X_iconst (v := -1) dX12_later_24 iconst_m1 ?_
      exact X_reti rfl dX12_later_25 h
    · refine X_iload_n dX12_later_15 rfl rfl ?_
      refine X_iconst (v := 0) dX12_later_16 iconst_0 ?_
      refine X_iconst (v := 2) dX12_later_17 iconst_2 ?_
      refine X_callSi [.int c0, .int (0 : Int32), .int (2 : Int32)] [] c_X12_in t_X12_in lk_X12_128 dX12_later_18 rfl (by decide) (Nat.le_of_ble_eq_true rfl) rfl (s_X12_in sx c0 (0 : Int32) (2 : Int32)  σ3 _ h) (fun r6 σ5 h => ?_)
      refine X_if_ne (tgt := 26) dX12_later_21 (by decide) h (fun h => ?_) (fun h => ?_)
      · refine X_aload_n dX12_later_26 rfl rfl ?_
        refine X_iload_n dX12_later_27 rfl rfl ?_
        refine X_iload_n dX12_later_28 rfl rfl ?_
        refine X_callVv [.int a0, .int b0] [] c_X12_goTo v_X12_goTo lk_X12_293 dX12_later_29 g_60 rfl rfl rfl (by decide) (Nat.le_of_ble_eq_true rfl) rfl (s_X12_goTo sx a0 b0  σ5 _ h) (fun  σ7 h => ?_)
        refine X_iload_n dX12_later_32 rfl rfl ?_
        refine X_if_ne (tgt := 43) dX12_later_33 (by decide) h (fun h => ?_) (fun h => ?_)
        · refine X_iload_n dX12_later_43 rfl rfl ?_
          refine X_iconst (v := 1) dX12_later_44 iconst_1 ?_
          refine X_icmp_ne (tgt := 55) dX12_later_45 (by decide) h (fun h => ?_) (fun h => ?_)
          · refine X_aload_n dX12_later_55 rfl rfl ?_
            refine X_get (v := .ref 64) ck_X12 f_X12_21 g_60 rfl (fun _ => rfl) dX12_later_56 ?_
            refine X_iload_n dX12_later_59 rfl rfl ?_
            refine X_iald g_64 dX12_later_60 h (fun h => ?_)
            refine X_iload_n dX12_later_61 rfl rfl ?_
            refine X_callSi [.int (σ7.1 64 (Int32.toNatClampNeg a0)), .int b0] [] c_X12_shoeAt t_X12_shoeAt lk_X12_274 dX12_later_62 rfl (by decide) (Nat.le_of_ble_eq_true rfl) rfl (s_X12_shoeAt sx (σ7.1 64 (Int32.toNatClampNeg a0)) b0  σ7 _ h) (fun r9 σ8 h => ?_)
            exact X_reti rfl dX12_later_65 h
          · refine X_aload_n dX12_later_48 rfl rfl ?_
            refine X_get (v := .int (σ7.1 60 31)) ck_X12 f_X12_265 g_60 rfl (fun _ => rfl) dX12_later_49 ?_
            refine X_goto (tgt := 65) dX12_later_52 (by decide) ?_
            exact X_reti rfl dX12_later_65 h
        · refine X_aload_n dX12_later_36 rfl rfl ?_
          refine X_get (v := .int (σ7.1 60 30)) ck_X12 f_X12_262 g_60 rfl (fun _ => rfl) dX12_later_37 ?_
          refine X_goto (tgt := 65) dX12_later_40 (by decide) ?_
          exact X_reti rfl dX12_later_65 h
      · refine X_iconst (v := -1) dX12_later_24 iconst_m1 ?_
        exact X_reti rfl dX12_later_25 h
def w_X12_layAll_l17 (x1 : Int32) (J51 : Sg → Prop) : Nat → Int32 → Sg → Prop
  | 0, _, _ => False
  | n17 + 1, x5, σ6 => if (60 : Int32) < x5 then (J51 σ6) else (vp_in (((61 : Int32) * x1) + x5) 366 ∧ bd (sI σ6 80 (Int32.toNatClampNeg (((61 : Int32) * x1) + x5)) (σ6.1 60 30)) fun σ7 => w_X12_goHour x1 x5 (0 : Int32) σ7 (fun  σ8 => w_X12_layAll_l17 x1 J51 n17 (x5 + 1) σ8))
def w_X12_layAll_l2 (Q : Sg → Prop) : Nat → Int32 → Sg → Prop
  | 0, _, _ => False
  | n2 + 1, x1, σ2 => if (σ2.1 60 1) ≤ x1 then (Q σ2) else (w_X12_layNow x1 σ2 (fun  σ3 => bd (fun (σ4 : Sg) => w_X12_layAll_l2 Q n2 (x1 + 1) σ4) fun J51 => ∃ n, w_X12_layAll_l17 x1 J51 n (0 : Int32) σ3))
def w_X12_layAll (σ : Sg) (Q : Sg → Prop) : Prop := ∃ n, w_X12_layAll_l2 Q n (0 : Int32) σ
set_option maxRecDepth 100000 in
set_option maxHeartbeats 4000000 in
theorem s_X12_layAll (sx : Nat × (Nat → Int32)) (σ : Sg) (Q : Sg → Prop) (h : w_X12_layAll σ Q) : Ct mX12_layAll 5 false (0, 0) sx G0 [.ref 60] σ (qV Q) := by
  refine Ct.of (L := [some (.ref 60), none, none]) (by decide) (Nat.le_of_ble_eq_true rfl) rfl ?_
  unfold w_X12_layAll at h
  refine X_iconst (v := 0) dX12_layAll_0 iconst_0 ?_
  refine X_istore_n (L' := [some (.ref 60), some (.int (0 : Int32)), none]) dX12_layAll_1 rfl (by decide) rfl ?_
  obtain ⟨n2, h⟩ := h
  have key2 : ∀ (n : Nat) (x1 : Int32) (σ2 : Sg) , w_X12_layAll_l2 Q n x1 σ2 → Ex mX12_layAll 5 false (0, 0) sx G0 2 [some (.ref 60), some (.int x1), none] [] σ2 (qV Q) := by
    intro n2
    induction n2 with
    | zero => intro _ _  h; exact h.elim
    | succ n2 ih2 =>
      intro x1 σ2  h
      unfold w_X12_layAll_l2 at h
      refine X_iload_n dX12_layAll_2 rfl rfl ?_
      refine X_aload_n dX12_layAll_3 rfl rfl ?_
      refine X_get (v := .int (σ2.1 60 1)) ck_X12 f_X12_125 g_60 rfl (fun _ => rfl) dX12_layAll_4 ?_
      refine X_icmp_ge (tgt := 57) dX12_layAll_7 (by decide) h (fun h => ?_) (fun h => ?_)
      · exact X_retv rfl dX12_layAll_57 h
      · refine X_aload_n dX12_layAll_10 rfl rfl ?_
        refine X_iload_n dX12_layAll_11 rfl rfl ?_
        refine X_callVv [.int x1] [] c_X12_layNow v_X12_layNow lk_X12_283 dX12_layAll_12 g_60 rfl rfl rfl (by decide) (Nat.le_of_ble_eq_true rfl) rfl (s_X12_layNow sx x1  σ2 _ h) (fun  σ3 h => ?_)
        refine X_iconst (v := 0) dX12_layAll_15 iconst_0 ?_
        refine X_istore_n (L' := [some (.ref 60), some (.int x1), some (.int (0 : Int32))]) dX12_layAll_16 rfl (by decide) rfl ?_
        refine bd_j h (fun J51 e51 h => ?_)
        have j51 : ∀ (σ4 : Sg) , J51  σ4 → Ex mX12_layAll 5 false (0, 0) sx G0 51 [some (.ref 60), some (.int x1), none] [] σ4 (qV Q) := by
          intro  σ4  h
          subst e51
          replace h := h
          refine X_iinc (v := (x1 + 1)) (L' := [some (.ref 60), some (.int (x1 + 1)), none]) dX12_layAll_51 rfl rfl (by decide) rfl ?_
          refine X_goto (tgt := 2) dX12_layAll_54 (by decide) ?_
          exact ih2 _ _  h
        obtain ⟨n17, h⟩ := h
        have key17 : ∀ (n : Nat) (x5 : Int32) (σ6 : Sg) , w_X12_layAll_l17 x1 J51 n x5 σ6 → Ex mX12_layAll 5 false (0, 0) sx G0 17 [some (.ref 60), some (.int x1), some (.int x5)] [] σ6 (qV Q) := by
          intro n17
          induction n17 with
          | zero => intro _ _  h; exact h.elim
          | succ n17 ih17 =>
            intro x5 σ6  h
            unfold w_X12_layAll_l17 at h
            refine X_iload_n dX12_layAll_17 rfl rfl ?_
            refine X_bipush (v := 60) dX12_layAll_18 bipush_60 ?_
            refine X_icmp_gt (tgt := 51) dX12_layAll_20 (by decide) h (fun h => ?_) (fun h => ?_)
            · refine X_drop (L' := [some (.ref 60), some (.int x1), none]) ⟨rfl, ⟨rfl, trivial⟩⟩ ?_
              exact j51 _  h
            · refine X_aload_n dX12_layAll_23 rfl rfl ?_
              refine X_get (v := .ref 80) ck_X12 f_X12_71 g_60 rfl (fun _ => rfl) dX12_layAll_24 ?_
              refine X_bipush (v := 61) dX12_layAll_27 bipush_61 ?_
              refine X_iload_n dX12_layAll_29 rfl rfl ?_
              refine X_imul dX12_layAll_30 ?_
              refine X_iload_n dX12_layAll_31 rfl rfl ?_
              refine X_iadd dX12_layAll_32 ?_
              refine X_aload_n dX12_layAll_33 rfl rfl ?_
              refine X_get (v := .int (σ6.1 60 30)) ck_X12 f_X12_262 g_60 rfl (fun _ => rfl) dX12_layAll_34 ?_
              refine X_iast g_80 dX12_layAll_37 h (fun σ7 h => ?_)
              refine X_aload_n dX12_layAll_38 rfl rfl ?_
              refine X_iload_n dX12_layAll_39 rfl rfl ?_
              refine X_iload_n dX12_layAll_40 rfl rfl ?_
              refine X_iconst (v := 0) dX12_layAll_41 iconst_0 ?_
              refine X_callVv [.int x1, .int x5, .int (0 : Int32)] [] c_X12_goHour v_X12_goHour lk_X12_287 dX12_layAll_42 g_60 rfl rfl rfl (by decide) (Nat.le_of_ble_eq_true rfl) rfl (s_X12_goHour sx x1 x5 (0 : Int32)  σ7 _ h) (fun  σ8 h => ?_)
              refine X_iinc (v := (x5 + 1)) (L' := [some (.ref 60), some (.int x1), some (.int (x5 + 1))]) dX12_layAll_45 rfl rfl (by decide) rfl ?_
              refine X_goto (tgt := 17) dX12_layAll_48 (by decide) ?_
              exact ih17 _ _  h
        exact key17 _ _ _  h
  exact key2 _ _ _  h
def w_X12_nearTo (a0 : Int32) (b0 : Int32) (σ : Sg) (Q : Int32 → Sg → Prop) : Prop := w_X12_apart a0 b0 σ (fun r2 σ1 => if (σ1.1 67 (Int32.toNatClampNeg (0 : Int32))) < r2 then (Q (0 : Int32) σ1) else (Q (1 : Int32) σ1))
set_option maxRecDepth 100000 in
set_option maxHeartbeats 4000000 in
theorem s_X12_nearTo (sx : Nat × (Nat → Int32)) (a0 : Int32) (b0 : Int32) (σ : Sg) (Q : Int32 → Sg → Prop) (h : w_X12_nearTo a0 b0 σ Q) : Ct mX12_nearTo 2 false (0, 0) sx G0 [.ref 60, .int a0, .int b0] σ (qI Q) := by
  refine Ct.of (L := [some (.ref 60), some (.int a0), some (.int b0)]) (by decide) (Nat.le_of_ble_eq_true rfl) rfl ?_
  unfold w_X12_nearTo at h
  refine X_iload_n dX12_nearTo_0 rfl rfl ?_
  refine X_iload_n dX12_nearTo_1 rfl rfl ?_
  refine X_callSi [.int a0, .int b0] [] c_X12_apart t_X12_apart lk_X12_296 dX12_nearTo_2 rfl (by decide) (Nat.le_of_ble_eq_true rfl) rfl (s_X12_apart sx a0 b0  σ _ h) (fun r2 σ1 h => ?_)
  refine X_aload_n dX12_nearTo_5 rfl rfl ?_
  refine X_get (v := .ref 67) ck_X12 f_X12_30 g_60 rfl (fun _ => rfl) dX12_nearTo_6 ?_
  refine X_iconst (v := 0) dX12_nearTo_9 iconst_0 ?_
  refine X_iald g_67 dX12_nearTo_10 ⟨(by unfold vp_in; decide), h⟩ (fun h => ?_)
  refine X_icmp_gt (tgt := 18) dX12_nearTo_11 (by decide) h (fun h => ?_) (fun h => ?_)
  · refine X_iconst (v := 0) dX12_nearTo_18 iconst_0 ?_
    exact X_retz rfl rfl dX12_nearTo_19 h
  · refine X_iconst (v := 1) dX12_nearTo_14 iconst_1 ?_
    refine X_goto (tgt := 19) dX12_nearTo_15 (by decide) ?_
    exact X_retz rfl rfl dX12_nearTo_19 h
def w_X12_nears_l47 (a0 : Int32) (b0 : Int32) (x8 : Int32) (J106 : Int32 → Sg → Prop) : Nat → Int32 → Int32 → Sg → Prop
  | 0, _, _, _ => False
  | n47 + 1, x13, x14, σ15 => if b0 < x14 then (J106 x13 σ15) else (vp_in (((61 : Int32) * (a0 / (10 : Int32))) + x14) 366 ∧ w_X12_apart (σ15.1 80 (Int32.toNatClampNeg (((61 : Int32) * (a0 / (10 : Int32))) + x14))) x8 σ15 (fun r17 σ16 => vp_in (((61 : Int32) * (a0 / (10 : Int32))) + x13) 366 ∧ w_X12_apart (σ16.1 80 (Int32.toNatClampNeg (((61 : Int32) * (a0 / (10 : Int32))) + x13))) x8 σ16 (fun r19 σ18 => bd (fun (x20 : Int32) (σ21 : Sg) => w_X12_nears_l47 a0 b0 x8 J106 n47 x20 (x14 + 1) σ21) fun J100 => if r19 ≤ r17 then (J100 x13 σ18) else (J100 x14 σ18))))
def w_X12_nears (a0 : Int32) (b0 : Int32) (c0 : Int32) (σ : Sg) (Q : Int32 → Sg → Prop) : Prop := w_X12_areNear a0 σ (fun r2 σ1 => if r2 = 0 then (Q (-1 : Int32) σ1) else (w_X12_areHours b0 σ1 (fun r4 σ3 => if r4 = 0 then (Q (-1 : Int32) σ3) else (w_X12_in c0 (0 : Int32) (1 : Int32) σ3 (fun r6 σ5 => if r6 = 0 then (Q (-1 : Int32) σ5) else (w_X12_layAll  σ5 (fun  σ7 => vp_in (a0 - a0 / (10 : Int32) * (10 : Int32)) 8 ∧ bd (σ7.1 65 (Int32.toNatClampNeg (a0 - a0 / (10 : Int32) * (10 : Int32)))) fun x8 => bd (fun (x9 : Int32) (σ10 : Sg) => if c0 = 0 then (vp_in (((61 : Int32) * (a0 / (10 : Int32))) + x9) 366 ∧ w_X12_apart (σ10.1 80 (Int32.toNatClampNeg (((61 : Int32) * (a0 / (10 : Int32))) + x9))) x8 σ10 (fun r12 σ11 => Q r12 σ11)) else (Q x9 σ10)) fun J106 => ∃ n, w_X12_nears_l47 a0 b0 x8 J106 n (0 : Int32) (1 : Int32) σ7)))))))
set_option maxRecDepth 100000 in
set_option maxHeartbeats 4000000 in
theorem s_X12_nears (sx : Nat × (Nat → Int32)) (a0 : Int32) (b0 : Int32) (c0 : Int32) (σ : Sg) (Q : Int32 → Sg → Prop) (h : w_X12_nears a0 b0 c0 σ Q) : Ct mX12_nears 6 false (0, 0) sx G0 [.ref 60, .int a0, .int b0, .int c0] σ (qI Q) := by
  refine Ct.of (L := [some (.ref 60), some (.int a0), some (.int b0), some (.int c0), none, none, none]) (by decide) (Nat.le_of_ble_eq_true rfl) rfl ?_
  unfold w_X12_nears at h
  refine X_aload_n dX12_nears_0 rfl rfl ?_
  refine X_iload_n dX12_nears_1 rfl rfl ?_
  refine X_callVi [.int a0] [] c_X12_areNear v_X12_areNear lk_X12_299 dX12_nears_2 g_60 rfl rfl rfl (by decide) (Nat.le_of_ble_eq_true rfl) rfl (s_X12_areNear sx a0  σ _ h) (fun r2 σ1 h => ?_)
  refine X_if_eq (tgt := 24) dX12_nears_5 (by decide) h (fun h => ?_) (fun h => ?_)
  · refine X_iconst (v := -1) dX12_nears_24 iconst_m1 ?_
    exact X_reti rfl dX12_nears_25 h
  · refine X_iload_n dX12_nears_8 rfl rfl ?_
    refine X_callSi [.int b0] [] c_X12_areHours t_X12_areHours lk_X12_290 dX12_nears_9 rfl (by decide) (Nat.le_of_ble_eq_true rfl) rfl (s_X12_areHours sx b0  σ1 _ h) (fun r4 σ3 h => ?_)
    refine X_if_eq (tgt := 24) dX12_nears_12 (by decide) h (fun h => ?_) (fun h => ?_)
    · refine X_iconst (v := -1) dX12_nears_24 iconst_m1 ?_
      exact X_reti rfl dX12_nears_25 h
    · refine X_iload_n dX12_nears_15 rfl rfl ?_
      refine X_iconst (v := 0) dX12_nears_16 iconst_0 ?_
      refine X_iconst (v := 1) dX12_nears_17 iconst_1 ?_
      refine X_callSi [.int c0, .int (0 : Int32), .int (1 : Int32)] [] c_X12_in t_X12_in lk_X12_128 dX12_nears_18 rfl (by decide) (Nat.le_of_ble_eq_true rfl) rfl (s_X12_in sx c0 (0 : Int32) (1 : Int32)  σ3 _ h) (fun r6 σ5 h => ?_)
      refine X_if_ne (tgt := 26) dX12_nears_21 (by decide) h (fun h => ?_) (fun h => ?_)
      · refine X_aload_n dX12_nears_26 rfl rfl ?_
        refine X_callVv [] [] c_X12_layAll v_X12_layAll lk_X12_302 dX12_nears_27 g_60 rfl rfl rfl (by decide) (Nat.le_of_ble_eq_true rfl) rfl (s_X12_layAll sx   σ5 _ h) (fun  σ7 h => ?_)
        refine X_iconst (v := 0) dX12_nears_30 iconst_0 ?_
        refine X_istore (L' := [some (.ref 60), some (.int a0), some (.int b0), some (.int c0), some (.int (0 : Int32)), none, none]) dX12_nears_31 (by decide) rfl ?_
        refine X_aload_n dX12_nears_33 rfl rfl ?_
        refine X_get (v := .ref 65) ck_X12 f_X12_24 g_60 rfl (fun _ => rfl) dX12_nears_34 ?_
        refine X_iload_n dX12_nears_37 rfl rfl ?_
        refine X_bipush (v := 10) dX12_nears_38 bipush_10 ?_
        refine X_irem dX12_nears_40 (by decide) ?_
        refine X_iald g_65 dX12_nears_41 h (fun h => ?_)
        refine X_topI h (fun x8 h => ?_)
        refine X_istore (L' := [some (.ref 60), some (.int a0), some (.int b0), some (.int c0), some (.int (0 : Int32)), some (.int x8), none]) dX12_nears_42 (by decide) rfl ?_
        refine X_iconst (v := 1) dX12_nears_44 iconst_1 ?_
        refine X_istore (L' := [some (.ref 60), some (.int a0), some (.int b0), some (.int c0), some (.int (0 : Int32)), some (.int x8), some (.int (1 : Int32))]) dX12_nears_45 (by decide) rfl ?_
        refine bd_j h (fun J106 e106 h => ?_)
        have j106 : ∀ (x9 : Int32) (σ10 : Sg) , J106 x9 σ10 → Ex mX12_nears 6 false (0, 0) sx G0 106 [some (.ref 60), some (.int a0), none, some (.int c0), some (.int x9), some (.int x8), none] [] σ10 (qI Q) := by
          intro x9 σ10  h
          subst e106
          replace h := h
          refine X_iload_n dX12_nears_106 rfl rfl ?_
          refine X_if_ne (tgt := 133) dX12_nears_107 (by decide) h (fun h => ?_) (fun h => ?_)
          · refine X_iload dX12_nears_133 rfl ?_
            exact X_reti rfl dX12_nears_135 h
          · refine X_aload_n dX12_nears_110 rfl rfl ?_
            refine X_get (v := .ref 80) ck_X12 f_X12_71 g_60 rfl (fun _ => rfl) dX12_nears_111 ?_
            refine X_bipush (v := 61) dX12_nears_114 bipush_61 ?_
            refine X_iload_n dX12_nears_116 rfl rfl ?_
            refine X_bipush (v := 10) dX12_nears_117 bipush_10 ?_
            refine X_idiv dX12_nears_119 (by decide) ?_
            refine X_imul dX12_nears_120 ?_
            refine X_iload dX12_nears_121 rfl ?_
            refine X_iadd dX12_nears_123 ?_
            refine X_iald g_80 dX12_nears_124 h (fun h => ?_)
            refine X_iload dX12_nears_125 rfl ?_
            refine X_callSi [.int (σ10.1 80 (Int32.toNatClampNeg (((61 : Int32) * (a0 / (10 : Int32))) + x9))), .int x8] [] c_X12_apart t_X12_apart lk_X12_296 dX12_nears_127 rfl (by decide) (Nat.le_of_ble_eq_true rfl) rfl (s_X12_apart sx (σ10.1 80 (Int32.toNatClampNeg (((61 : Int32) * (a0 / (10 : Int32))) + x9))) x8  σ10 _ h) (fun r12 σ11 h => ?_)
            refine X_goto (tgt := 135) dX12_nears_130 (by decide) ?_
            exact X_reti rfl dX12_nears_135 h
        obtain ⟨n47, h⟩ := h
        have key47 : ∀ (n : Nat) (x13 : Int32) (x14 : Int32) (σ15 : Sg) , w_X12_nears_l47 a0 b0 x8 J106 n x13 x14 σ15 → Ex mX12_nears 6 false (0, 0) sx G0 47 [some (.ref 60), some (.int a0), some (.int b0), some (.int c0), some (.int x13), some (.int x8), some (.int x14)] [] σ15 (qI Q) := by
          intro n47
          induction n47 with
          | zero => intro _ _ _  h; exact h.elim
          | succ n47 ih47 =>
            intro x13 x14 σ15  h
            unfold w_X12_nears_l47 at h
            refine X_iload dX12_nears_47 rfl ?_
            refine X_iload_n dX12_nears_49 rfl rfl ?_
            refine X_icmp_gt (tgt := 106) dX12_nears_50 (by decide) h (fun h => ?_) (fun h => ?_)
            · refine X_drop (L' := [some (.ref 60), some (.int a0), none, some (.int c0), some (.int x13), some (.int x8), none]) ⟨rfl, ⟨rfl, ⟨rfl, ⟨rfl, ⟨rfl, trivial⟩⟩⟩⟩⟩ ?_
              exact j106 _ _  h
            · refine X_aload_n dX12_nears_53 rfl rfl ?_
              refine X_get (v := .ref 80) ck_X12 f_X12_71 g_60 rfl (fun _ => rfl) dX12_nears_54 ?_
              refine X_bipush (v := 61) dX12_nears_57 bipush_61 ?_
              refine X_iload_n dX12_nears_59 rfl rfl ?_
              refine X_bipush (v := 10) dX12_nears_60 bipush_10 ?_
              refine X_idiv dX12_nears_62 (by decide) ?_
              refine X_imul dX12_nears_63 ?_
              refine X_iload dX12_nears_64 rfl ?_
              refine X_iadd dX12_nears_66 ?_
              refine X_iald g_80 dX12_nears_67 h (fun h => ?_)
              refine X_iload dX12_nears_68 rfl ?_
              refine X_callSi [.int (σ15.1 80 (Int32.toNatClampNeg (((61 : Int32) * (a0 / (10 : Int32))) + x14))), .int x8] [] c_X12_apart t_X12_apart lk_X12_296 dX12_nears_70 rfl (by decide) (Nat.le_of_ble_eq_true rfl) rfl (s_X12_apart sx (σ15.1 80 (Int32.toNatClampNeg (((61 : Int32) * (a0 / (10 : Int32))) + x14))) x8  σ15 _ h) (fun r17 σ16 h => ?_)
              refine X_aload_n dX12_nears_73 rfl rfl ?_
              refine X_get (v := .ref 80) ck_X12 f_X12_71 g_60 rfl (fun _ => rfl) dX12_nears_74 ?_
              refine X_bipush (v := 61) dX12_nears_77 bipush_61 ?_
              refine X_iload_n dX12_nears_79 rfl rfl ?_
              refine X_bipush (v := 10) dX12_nears_80 bipush_10 ?_
              refine X_idiv dX12_nears_82 (by decide) ?_
              refine X_imul dX12_nears_83 ?_
              refine X_iload dX12_nears_84 rfl ?_
              refine X_iadd dX12_nears_86 ?_
              refine X_iald g_80 dX12_nears_87 h (fun h => ?_)
              refine X_iload dX12_nears_88 rfl ?_
              refine X_callSi [.int (σ16.1 80 (Int32.toNatClampNeg (((61 : Int32) * (a0 / (10 : Int32))) + x13))), .int x8] [.int r17] c_X12_apart t_X12_apart lk_X12_296 dX12_nears_90 rfl (by decide) (Nat.le_of_ble_eq_true rfl) rfl (s_X12_apart sx (σ16.1 80 (Int32.toNatClampNeg (((61 : Int32) * (a0 / (10 : Int32))) + x13))) x8  σ16 _ h) (fun r19 σ18 h => ?_)
              refine bd_j h (fun J100 e100 h => ?_)
              have j100 : ∀ (x20 : Int32) (σ21 : Sg) , J100 x20 σ21 → Ex mX12_nears 6 false (0, 0) sx G0 100 [some (.ref 60), some (.int a0), some (.int b0), some (.int c0), some (.int x20), some (.int x8), some (.int x14)] [] σ21 (qI Q) := by
                intro x20 σ21  h
                subst e100
                replace h := h
                refine X_iinc (v := (x14 + 1)) (L' := [some (.ref 60), some (.int a0), some (.int b0), some (.int c0), some (.int x20), some (.int x8), some (.int (x14 + 1))]) dX12_nears_100 rfl rfl (by decide) rfl ?_
                refine X_goto (tgt := 47) dX12_nears_103 (by decide) ?_
                exact ih47 _ _ _  h
              refine X_icmp_ge (tgt := 100) dX12_nears_93 (by decide) h (fun h => ?_) (fun h => ?_)
              · exact j100 _ _  h
              · refine X_iload dX12_nears_96 rfl ?_
                refine X_istore (L' := [some (.ref 60), some (.int a0), some (.int b0), some (.int c0), some (.int x14), some (.int x8), some (.int x14)]) dX12_nears_98 (by decide) rfl ?_
                exact j100 _ _  h
        exact key47 _ _ _ _  h
      · refine X_iconst (v := -1) dX12_nears_24 iconst_m1 ?_
        exact X_reti rfl dX12_nears_25 h
def w_X12_passedBy_l17 (a0 : Int32) (b0 : Int32) (x2 : Int32) (J62 : Int32 → Sg → Prop) : Nat → Int32 → Int32 → Sg → Prop
  | 0, _, _, _ => False
  | n17 + 1, x6, x7, σ8 => if b0 < x7 then (J62 x6 σ8) else (vp_in (((61 : Int32) * a0) + x7) 366 ∧ vp_in x2 8 ∧ w_X12_nearTo (σ8.1 80 (Int32.toNatClampNeg (((61 : Int32) * a0) + x7))) (σ8.1 65 (Int32.toNatClampNeg x2)) σ8 (fun r10 σ9 => bd (fun (x11 : Int32) (σ12 : Sg) => w_X12_passedBy_l17 a0 b0 x2 J62 n17 x11 (x7 + 1) σ12) fun J56 => if r10 = 0 then (J56 x6 σ9) else (bd (x6 ||| ((1 : Int32) <<< (x2 &&& 31))) fun x13 => J56 x13 σ9)))
def w_X12_passedBy_l5 (a0 : Int32) (b0 : Int32) (Q : Int32 → Sg → Prop) : Nat → Int32 → Int32 → Sg → Prop
  | 0, _, _, _ => False
  | n5 + 1, x1, x2, σ3 => if (σ3.1 60 6) ≤ x2 then (Q x1 σ3) else (bd (fun (x4 : Int32) (σ5 : Sg) => w_X12_passedBy_l5 a0 b0 Q n5 x4 (x2 + 1) σ5) fun J62 => ∃ n, w_X12_passedBy_l17 a0 b0 x2 J62 n x1 (0 : Int32) σ3)
def w_X12_passedBy (a0 : Int32) (b0 : Int32) (σ : Sg) (Q : Int32 → Sg → Prop) : Prop := ∃ n, w_X12_passedBy_l5 a0 b0 Q n (0 : Int32) (0 : Int32) σ
set_option maxRecDepth 100000 in
set_option maxHeartbeats 4000000 in
theorem s_X12_passedBy (sx : Nat × (Nat → Int32)) (a0 : Int32) (b0 : Int32) (σ : Sg) (Q : Int32 → Sg → Prop) (h : w_X12_passedBy a0 b0 σ Q) : Ct mX12_passedBy 3 false (0, 0) sx G0 [.ref 60, .int a0, .int b0] σ (qI Q) := by
  refine Ct.of (L := [some (.ref 60), some (.int a0), some (.int b0), none, none, none]) (by decide) (Nat.le_of_ble_eq_true rfl) rfl ?_
  unfold w_X12_passedBy at h
  refine X_iconst (v := 0) dX12_passedBy_0 iconst_0 ?_
  refine X_istore_n (L' := [some (.ref 60), some (.int a0), some (.int b0), some (.int (0 : Int32)), none, none]) dX12_passedBy_1 rfl (by decide) rfl ?_
  refine X_iconst (v := 0) dX12_passedBy_2 iconst_0 ?_
  refine X_istore (L' := [some (.ref 60), some (.int a0), some (.int b0), some (.int (0 : Int32)), some (.int (0 : Int32)), none]) dX12_passedBy_3 (by decide) rfl ?_
  obtain ⟨n5, h⟩ := h
  have key5 : ∀ (n : Nat) (x1 : Int32) (x2 : Int32) (σ3 : Sg) , w_X12_passedBy_l5 a0 b0 Q n x1 x2 σ3 → Ex mX12_passedBy 3 false (0, 0) sx G0 5 [some (.ref 60), some (.int a0), some (.int b0), some (.int x1), some (.int x2), none] [] σ3 (qI Q) := by
    intro n5
    induction n5 with
    | zero => intro _ _ _  h; exact h.elim
    | succ n5 ih5 =>
      intro x1 x2 σ3  h
      unfold w_X12_passedBy_l5 at h
      refine X_iload dX12_passedBy_5 rfl ?_
      refine X_aload_n dX12_passedBy_7 rfl rfl ?_
      refine X_get (v := .int (σ3.1 60 6)) ck_X12 f_X12_132 g_60 rfl (fun _ => rfl) dX12_passedBy_8 ?_
      refine X_icmp_ge (tgt := 68) dX12_passedBy_11 (by decide) h (fun h => ?_) (fun h => ?_)
      · refine X_iload_n dX12_passedBy_68 rfl rfl ?_
        exact X_reti rfl dX12_passedBy_69 h
      · refine X_iconst (v := 0) dX12_passedBy_14 iconst_0 ?_
        refine X_istore (L' := [some (.ref 60), some (.int a0), some (.int b0), some (.int x1), some (.int x2), some (.int (0 : Int32))]) dX12_passedBy_15 (by decide) rfl ?_
        refine bd_j h (fun J62 e62 h => ?_)
        have j62 : ∀ (x4 : Int32) (σ5 : Sg) , J62 x4 σ5 → Ex mX12_passedBy 3 false (0, 0) sx G0 62 [some (.ref 60), some (.int a0), some (.int b0), some (.int x4), some (.int x2), none] [] σ5 (qI Q) := by
          intro x4 σ5  h
          subst e62
          replace h := h
          refine X_iinc (v := (x2 + 1)) (L' := [some (.ref 60), some (.int a0), some (.int b0), some (.int x4), some (.int (x2 + 1)), none]) dX12_passedBy_62 rfl rfl (by decide) rfl ?_
          refine X_goto (tgt := 5) dX12_passedBy_65 (by decide) ?_
          exact ih5 _ _ _  h
        obtain ⟨n17, h⟩ := h
        have key17 : ∀ (n : Nat) (x6 : Int32) (x7 : Int32) (σ8 : Sg) , w_X12_passedBy_l17 a0 b0 x2 J62 n x6 x7 σ8 → Ex mX12_passedBy 3 false (0, 0) sx G0 17 [some (.ref 60), some (.int a0), some (.int b0), some (.int x6), some (.int x2), some (.int x7)] [] σ8 (qI Q) := by
          intro n17
          induction n17 with
          | zero => intro _ _ _  h; exact h.elim
          | succ n17 ih17 =>
            intro x6 x7 σ8  h
            unfold w_X12_passedBy_l17 at h
            refine X_iload dX12_passedBy_17 rfl ?_
            refine X_iload_n dX12_passedBy_19 rfl rfl ?_
            refine X_icmp_gt (tgt := 62) dX12_passedBy_20 (by decide) h (fun h => ?_) (fun h => ?_)
            · refine X_drop (L' := [some (.ref 60), some (.int a0), some (.int b0), some (.int x6), some (.int x2), none]) ⟨rfl, ⟨rfl, ⟨rfl, ⟨rfl, ⟨rfl, trivial⟩⟩⟩⟩⟩ ?_
              exact j62 _ _  h
            · refine X_aload_n dX12_passedBy_23 rfl rfl ?_
              refine X_aload_n dX12_passedBy_24 rfl rfl ?_
              refine X_get (v := .ref 80) ck_X12 f_X12_71 g_60 rfl (fun _ => rfl) dX12_passedBy_25 ?_
              refine X_bipush (v := 61) dX12_passedBy_28 bipush_61 ?_
              refine X_iload_n dX12_passedBy_30 rfl rfl ?_
              refine X_imul dX12_passedBy_31 ?_
              refine X_iload dX12_passedBy_32 rfl ?_
              refine X_iadd dX12_passedBy_34 ?_
              refine X_iald g_80 dX12_passedBy_35 h (fun h => ?_)
              refine X_aload_n dX12_passedBy_36 rfl rfl ?_
              refine X_get (v := .ref 65) ck_X12 f_X12_24 g_60 rfl (fun _ => rfl) dX12_passedBy_37 ?_
              refine X_iload dX12_passedBy_40 rfl ?_
              refine X_iald g_65 dX12_passedBy_42 h (fun h => ?_)
              refine X_callVi [.int (σ8.1 80 (Int32.toNatClampNeg (((61 : Int32) * a0) + x7))), .int (σ8.1 65 (Int32.toNatClampNeg x2))] [] c_X12_nearTo v_X12_nearTo lk_X12_305 dX12_passedBy_43 g_60 rfl rfl rfl (by decide) (Nat.le_of_ble_eq_true rfl) rfl (s_X12_nearTo sx (σ8.1 80 (Int32.toNatClampNeg (((61 : Int32) * a0) + x7))) (σ8.1 65 (Int32.toNatClampNeg x2))  σ8 _ h) (fun r10 σ9 h => ?_)
              refine bd_j h (fun J56 e56 h => ?_)
              have j56 : ∀ (x11 : Int32) (σ12 : Sg) , J56 x11 σ12 → Ex mX12_passedBy 3 false (0, 0) sx G0 56 [some (.ref 60), some (.int a0), some (.int b0), some (.int x11), some (.int x2), some (.int x7)] [] σ12 (qI Q) := by
                intro x11 σ12  h
                subst e56
                replace h := h
                refine X_iinc (v := (x7 + 1)) (L' := [some (.ref 60), some (.int a0), some (.int b0), some (.int x11), some (.int x2), some (.int (x7 + 1))]) dX12_passedBy_56 rfl rfl (by decide) rfl ?_
                refine X_goto (tgt := 17) dX12_passedBy_59 (by decide) ?_
                exact ih17 _ _ _  h
              refine X_if_eq (tgt := 56) dX12_passedBy_46 (by decide) h (fun h => ?_) (fun h => ?_)
              · exact j56 _ _  h
              · refine X_iload_n dX12_passedBy_49 rfl rfl ?_
                refine X_iconst (v := 1) dX12_passedBy_50 iconst_1 ?_
                refine X_iload dX12_passedBy_51 rfl ?_
                refine X_ishl dX12_passedBy_53 ?_
                refine X_ior dX12_passedBy_54 ?_
                refine X_topI h (fun x13 h => ?_)
                refine X_istore_n (L' := [some (.ref 60), some (.int a0), some (.int b0), some (.int x13), some (.int x2), some (.int x7)]) dX12_passedBy_55 rfl (by decide) rfl ?_
                exact j56 _ _  h
        exact key17 _ _ _ _  h
  exact key5 _ _ _ _  h
def w_X12_passes_l51 (Q : Int32 → Sg → Prop) (r9 : Int32) : Nat → Int32 → Int32 → Sg → Prop
  | 0, _, _, _ => False
  | n51 + 1, x10, x11, σ12 => if (σ12.1 60 6) ≤ x11 then (Q x10 σ12) else (w_X12_has r9 x11 σ12 (fun r14 σ13 => bd (fun (x15 : Int32) (σ16 : Sg) => w_X12_passes_l51 Q r9 n51 x15 (x11 + 1) σ16) fun J82 => if r14 = 0 then (J82 x10 σ13) else (vp_in x11 8 ∧ bd (x10 + (σ13.1 66 (Int32.toNatClampNeg x11))) fun x17 => J82 x17 σ13)))
def w_X12_passes (a0 : Int32) (b0 : Int32) (c0 : Int32) (σ : Sg) (Q : Int32 → Sg → Prop) : Prop := w_X12_isCarriage a0 σ (fun r2 σ1 => if r2 = 0 then (Q (-1 : Int32) σ1) else (w_X12_areHours b0 σ1 (fun r4 σ3 => if r4 = 0 then (Q (-1 : Int32) σ3) else (w_X12_in c0 (0 : Int32) (1 : Int32) σ3 (fun r6 σ5 => if r6 = 0 then (Q (-1 : Int32) σ5) else (w_X12_layAll  σ5 (fun  σ7 => w_X12_passedBy a0 b0 σ7 (fun r9 σ8 => if c0 = 0 then (Q r9 σ8) else (∃ n, w_X12_passes_l51 Q r9 n (0 : Int32) (0 : Int32) σ8)))))))))
set_option maxRecDepth 100000 in
set_option maxHeartbeats 4000000 in
theorem s_X12_passes (sx : Nat × (Nat → Int32)) (a0 : Int32) (b0 : Int32) (c0 : Int32) (σ : Sg) (Q : Int32 → Sg → Prop) (h : w_X12_passes a0 b0 c0 σ Q) : Ct mX12_passes 6 false (0, 0) sx G0 [.ref 60, .int a0, .int b0, .int c0] σ (qI Q) := by
  refine Ct.of (L := [some (.ref 60), some (.int a0), some (.int b0), some (.int c0), none, none, none]) (by decide) (Nat.le_of_ble_eq_true rfl) rfl ?_
  unfold w_X12_passes at h
  refine X_aload_n dX12_passes_0 rfl rfl ?_
  refine X_iload_n dX12_passes_1 rfl rfl ?_
  refine X_callVi [.int a0] [] c_X12_isCarriage v_X12_isCarriage lk_X12_135 dX12_passes_2 g_60 rfl rfl rfl (by decide) (Nat.le_of_ble_eq_true rfl) rfl (s_X12_isCarriage sx a0  σ _ h) (fun r2 σ1 h => ?_)
  refine X_if_eq (tgt := 24) dX12_passes_5 (by decide) h (fun h => ?_) (fun h => ?_)
  · refine X_iconst (v := -1) dX12_passes_24 iconst_m1 ?_
    exact X_reti rfl dX12_passes_25 h
  · refine X_iload_n dX12_passes_8 rfl rfl ?_
    refine X_callSi [.int b0] [] c_X12_areHours t_X12_areHours lk_X12_290 dX12_passes_9 rfl (by decide) (Nat.le_of_ble_eq_true rfl) rfl (s_X12_areHours sx b0  σ1 _ h) (fun r4 σ3 h => ?_)
    refine X_if_eq (tgt := 24) dX12_passes_12 (by decide) h (fun h => ?_) (fun h => ?_)
    · refine X_iconst (v := -1) dX12_passes_24 iconst_m1 ?_
      exact X_reti rfl dX12_passes_25 h
    · refine X_iload_n dX12_passes_15 rfl rfl ?_
      refine X_iconst (v := 0) dX12_passes_16 iconst_0 ?_
      refine X_iconst (v := 1) dX12_passes_17 iconst_1 ?_
      refine X_callSi [.int c0, .int (0 : Int32), .int (1 : Int32)] [] c_X12_in t_X12_in lk_X12_128 dX12_passes_18 rfl (by decide) (Nat.le_of_ble_eq_true rfl) rfl (s_X12_in sx c0 (0 : Int32) (1 : Int32)  σ3 _ h) (fun r6 σ5 h => ?_)
      refine X_if_ne (tgt := 26) dX12_passes_21 (by decide) h (fun h => ?_) (fun h => ?_)
      · refine X_aload_n dX12_passes_26 rfl rfl ?_
        refine X_callVv [] [] c_X12_layAll v_X12_layAll lk_X12_302 dX12_passes_27 g_60 rfl rfl rfl (by decide) (Nat.le_of_ble_eq_true rfl) rfl (s_X12_layAll sx   σ5 _ h) (fun  σ7 h => ?_)
        refine X_aload_n dX12_passes_30 rfl rfl ?_
        refine X_iload_n dX12_passes_31 rfl rfl ?_
        refine X_iload_n dX12_passes_32 rfl rfl ?_
        refine X_callVi [.int a0, .int b0] [] c_X12_passedBy v_X12_passedBy lk_X12_308 dX12_passes_33 g_60 rfl rfl rfl (by decide) (Nat.le_of_ble_eq_true rfl) rfl (s_X12_passedBy sx a0 b0  σ7 _ h) (fun r9 σ8 h => ?_)
        refine X_istore (L' := [some (.ref 60), some (.int a0), some (.int b0), some (.int c0), some (.int r9), none, none]) dX12_passes_36 (by decide) rfl ?_
        refine X_iload_n dX12_passes_38 rfl rfl ?_
        refine X_if_ne (tgt := 45) dX12_passes_39 (by decide) h (fun h => ?_) (fun h => ?_)
        · refine X_iconst (v := 0) dX12_passes_45 iconst_0 ?_
          refine X_istore (L' := [some (.ref 60), some (.int a0), some (.int b0), some (.int c0), some (.int r9), some (.int (0 : Int32)), none]) dX12_passes_46 (by decide) rfl ?_
          refine X_iconst (v := 0) dX12_passes_48 iconst_0 ?_
          refine X_istore (L' := [some (.ref 60), some (.int a0), some (.int b0), some (.int c0), some (.int r9), some (.int (0 : Int32)), some (.int (0 : Int32))]) dX12_passes_49 (by decide) rfl ?_
          obtain ⟨n51, h⟩ := h
          have key51 : ∀ (n : Nat) (x10 : Int32) (x11 : Int32) (σ12 : Sg) , w_X12_passes_l51 Q r9 n x10 x11 σ12 → Ex mX12_passes 6 false (0, 0) sx G0 51 [some (.ref 60), none, none, none, some (.int r9), some (.int x10), some (.int x11)] [] σ12 (qI Q) := by
            intro n51
            induction n51 with
            | zero => intro _ _ _  h; exact h.elim
            | succ n51 ih51 =>
              intro x10 x11 σ12  h
              unfold w_X12_passes_l51 at h
              refine X_iload dX12_passes_51 rfl ?_
              refine X_aload_n dX12_passes_53 rfl rfl ?_
              refine X_get (v := .int (σ12.1 60 6)) ck_X12 f_X12_132 g_60 rfl (fun _ => rfl) dX12_passes_54 ?_
              refine X_icmp_ge (tgt := 88) dX12_passes_57 (by decide) h (fun h => ?_) (fun h => ?_)
              · refine X_iload dX12_passes_88 rfl ?_
                exact X_reti rfl dX12_passes_90 h
              · refine X_iload dX12_passes_60 rfl ?_
                refine X_iload dX12_passes_62 rfl ?_
                refine X_callSi [.int r9, .int x11] [] c_X12_has t_X12_has lk_X12_311 dX12_passes_64 rfl (by decide) (Nat.le_of_ble_eq_true rfl) rfl (s_X12_has sx r9 x11  σ12 _ h) (fun r14 σ13 h => ?_)
                refine bd_j h (fun J82 e82 h => ?_)
                have j82 : ∀ (x15 : Int32) (σ16 : Sg) , J82 x15 σ16 → Ex mX12_passes 6 false (0, 0) sx G0 82 [some (.ref 60), none, none, none, some (.int r9), some (.int x15), some (.int x11)] [] σ16 (qI Q) := by
                  intro x15 σ16  h
                  subst e82
                  replace h := h
                  refine X_iinc (v := (x11 + 1)) (L' := [some (.ref 60), none, none, none, some (.int r9), some (.int x15), some (.int (x11 + 1))]) dX12_passes_82 rfl rfl (by decide) rfl ?_
                  refine X_goto (tgt := 51) dX12_passes_85 (by decide) ?_
                  exact ih51 _ _ _  h
                refine X_if_eq (tgt := 82) dX12_passes_67 (by decide) h (fun h => ?_) (fun h => ?_)
                · exact j82 _ _  h
                · refine X_iload dX12_passes_70 rfl ?_
                  refine X_aload_n dX12_passes_72 rfl rfl ?_
                  refine X_get (v := .ref 66) ck_X12 f_X12_27 g_60 rfl (fun _ => rfl) dX12_passes_73 ?_
                  refine X_iload dX12_passes_76 rfl ?_
                  refine X_iald g_66 dX12_passes_78 h (fun h => ?_)
                  refine X_iadd dX12_passes_79 ?_
                  refine X_topI h (fun x17 h => ?_)
                  refine X_istore (L' := [some (.ref 60), none, none, none, some (.int r9), some (.int x17), some (.int x11)]) dX12_passes_80 (by decide) rfl ?_
                  exact j82 _ _  h
          refine X_drop (L' := [some (.ref 60), none, none, none, some (.int r9), some (.int (0 : Int32)), some (.int (0 : Int32))]) ⟨rfl, ⟨rfl, ⟨rfl, ⟨rfl, trivial⟩⟩⟩⟩ ?_
          exact key51 _ _ _ _  h
        · refine X_iload dX12_passes_42 rfl ?_
          exact X_reti rfl dX12_passes_44 h
      · refine X_iconst (v := -1) dX12_passes_24 iconst_m1 ?_
        exact X_reti rfl dX12_passes_25 h
def w_X12_meetAt (a0 : Int32) (b0 : Int32) (c0 : Int32) (σ : Sg) (Q : Int32 → Sg → Prop) : Prop := vp_in (((61 : Int32) * a0) + c0) 366 ∧ vp_in (((61 : Int32) * b0) + c0) 366 ∧ w_X12_nearTo (σ.1 80 (Int32.toNatClampNeg (((61 : Int32) * a0) + c0))) (σ.1 80 (Int32.toNatClampNeg (((61 : Int32) * b0) + c0))) σ (fun r2 σ1 => (r2 = 0 ∨ r2 = 1) ∧ Q r2 σ1)
set_option maxRecDepth 100000 in
set_option maxHeartbeats 4000000 in
theorem s_X12_meetAt (sx : Nat × (Nat → Int32)) (a0 : Int32) (b0 : Int32) (c0 : Int32) (σ : Sg) (Q : Int32 → Sg → Prop) (h : w_X12_meetAt a0 b0 c0 σ Q) : Ct mX12_meetAt 3 false (0, 0) sx G0 [.ref 60, .int a0, .int b0, .int c0] σ (qI Q) := by
  refine Ct.of (L := [some (.ref 60), some (.int a0), some (.int b0), some (.int c0)]) (by decide) (Nat.le_of_ble_eq_true rfl) rfl ?_
  unfold w_X12_meetAt at h
  refine X_aload_n dX12_meetAt_0 rfl rfl ?_
  refine X_aload_n dX12_meetAt_1 rfl rfl ?_
  refine X_get (v := .ref 80) ck_X12 f_X12_71 g_60 rfl (fun _ => rfl) dX12_meetAt_2 ?_
  refine X_bipush (v := 61) dX12_meetAt_5 bipush_61 ?_
  refine X_iload_n dX12_meetAt_7 rfl rfl ?_
  refine X_imul dX12_meetAt_8 ?_
  refine X_iload_n dX12_meetAt_9 rfl rfl ?_
  refine X_iadd dX12_meetAt_10 ?_
  refine X_iald g_80 dX12_meetAt_11 h (fun h => ?_)
  refine X_aload_n dX12_meetAt_12 rfl rfl ?_
  refine X_get (v := .ref 80) ck_X12 f_X12_71 g_60 rfl (fun _ => rfl) dX12_meetAt_13 ?_
  refine X_bipush (v := 61) dX12_meetAt_16 bipush_61 ?_
  refine X_iload_n dX12_meetAt_18 rfl rfl ?_
  refine X_imul dX12_meetAt_19 ?_
  refine X_iload_n dX12_meetAt_20 rfl rfl ?_
  refine X_iadd dX12_meetAt_21 ?_
  refine X_iald g_80 dX12_meetAt_22 h (fun h => ?_)
  refine X_callVi [.int (σ.1 80 (Int32.toNatClampNeg (((61 : Int32) * a0) + c0))), .int (σ.1 80 (Int32.toNatClampNeg (((61 : Int32) * b0) + c0)))] [] c_X12_nearTo v_X12_nearTo lk_X12_305 dX12_meetAt_23 g_60 rfl rfl rfl (by decide) (Nat.le_of_ble_eq_true rfl) rfl (s_X12_nearTo sx (σ.1 80 (Int32.toNatClampNeg (((61 : Int32) * a0) + c0))) (σ.1 80 (Int32.toNatClampNeg (((61 : Int32) * b0) + c0)))  σ _ h) (fun r2 σ1 h => ?_)
  exact X_retz rfl (nzb h.1) dX12_meetAt_26 h.2
def w_X12_meet_l16 (a0 : Int32) (Q : Int32 → Sg → Prop) : Nat → Int32 → Sg → Prop
  | 0, _, _ => False
  | n16 + 1, x4, σ5 => if (60 : Int32) < x4 then (Q (-2 : Int32) σ5) else (w_X12_meetAt (a0 / (10 : Int32)) (a0 - a0 / (10 : Int32) * (10 : Int32)) x4 σ5 (fun r7 σ6 => if r7 = 0 then (w_X12_meet_l16 a0 Q n16 (x4 + 1) σ6) else (Q x4 σ6)))
def w_X12_meet (a0 : Int32) (σ : Sg) (Q : Int32 → Sg → Prop) : Prop := w_X12_areTwo a0 σ (fun r2 σ1 => if r2 = 0 then (Q (-1 : Int32) σ1) else (w_X12_layAll  σ1 (fun  σ3 => ∃ n, w_X12_meet_l16 a0 Q n (0 : Int32) σ3)))
set_option maxRecDepth 100000 in
set_option maxHeartbeats 4000000 in
theorem s_X12_meet (sx : Nat × (Nat → Int32)) (a0 : Int32) (σ : Sg) (Q : Int32 → Sg → Prop) (h : w_X12_meet a0 σ Q) : Ct mX12_meet 6 false (0, 0) sx G0 [.ref 60, .int a0] σ (qI Q) := by
  refine Ct.of (L := [some (.ref 60), some (.int a0), none]) (by decide) (Nat.le_of_ble_eq_true rfl) rfl ?_
  unfold w_X12_meet at h
  refine X_aload_n dX12_meet_0 rfl rfl ?_
  refine X_iload_n dX12_meet_1 rfl rfl ?_
  refine X_callVi [.int a0] [] c_X12_areTwo v_X12_areTwo lk_X12_314 dX12_meet_2 g_60 rfl rfl rfl (by decide) (Nat.le_of_ble_eq_true rfl) rfl (s_X12_areTwo sx a0  σ _ h) (fun r2 σ1 h => ?_)
  refine X_if_ne (tgt := 10) dX12_meet_5 (by decide) h (fun h => ?_) (fun h => ?_)
  · refine X_aload_n dX12_meet_10 rfl rfl ?_
    refine X_callVv [] [] c_X12_layAll v_X12_layAll lk_X12_302 dX12_meet_11 g_60 rfl rfl rfl (by decide) (Nat.le_of_ble_eq_true rfl) rfl (s_X12_layAll sx   σ1 _ h) (fun  σ3 h => ?_)
    refine X_iconst (v := 0) dX12_meet_14 iconst_0 ?_
    refine X_istore_n (L' := [some (.ref 60), some (.int a0), some (.int (0 : Int32))]) dX12_meet_15 rfl (by decide) rfl ?_
    obtain ⟨n16, h⟩ := h
    have key16 : ∀ (n : Nat) (x4 : Int32) (σ5 : Sg) , w_X12_meet_l16 a0 Q n x4 σ5 → Ex mX12_meet 6 false (0, 0) sx G0 16 [some (.ref 60), some (.int a0), some (.int x4)] [] σ5 (qI Q) := by
      intro n16
      induction n16 with
      | zero => intro _ _  h; exact h.elim
      | succ n16 ih16 =>
        intro x4 σ5  h
        unfold w_X12_meet_l16 at h
        refine X_iload_n dX12_meet_16 rfl rfl ?_
        refine X_bipush (v := 60) dX12_meet_17 bipush_60 ?_
        refine X_icmp_gt (tgt := 46) dX12_meet_19 (by decide) h (fun h => ?_) (fun h => ?_)
        · refine X_bipush (v := -2) dX12_meet_46 bipush_m2 ?_
          exact X_reti rfl dX12_meet_48 h
        · refine X_aload_n dX12_meet_22 rfl rfl ?_
          refine X_iload_n dX12_meet_23 rfl rfl ?_
          refine X_bipush (v := 10) dX12_meet_24 bipush_10 ?_
          refine X_idiv dX12_meet_26 (by decide) ?_
          refine X_iload_n dX12_meet_27 rfl rfl ?_
          refine X_bipush (v := 10) dX12_meet_28 bipush_10 ?_
          refine X_irem dX12_meet_30 (by decide) ?_
          refine X_iload_n dX12_meet_31 rfl rfl ?_
          refine X_callVi [.int (a0 / (10 : Int32)), .int (a0 - a0 / (10 : Int32) * (10 : Int32)), .int x4] [] c_X12_meetAt v_X12_meetAt lk_X12_317 dX12_meet_32 g_60 rfl rfl rfl (by decide) (Nat.le_of_ble_eq_true rfl) rfl (s_X12_meetAt sx (a0 / (10 : Int32)) (a0 - a0 / (10 : Int32) * (10 : Int32)) x4  σ5 _ h) (fun r7 σ6 h => ?_)
          refine X_if_eq (tgt := 40) dX12_meet_35 (by decide) h (fun h => ?_) (fun h => ?_)
          · refine X_iinc (v := (x4 + 1)) (L' := [some (.ref 60), some (.int a0), some (.int (x4 + 1))]) dX12_meet_40 rfl rfl (by decide) rfl ?_
            refine X_goto (tgt := 16) dX12_meet_43 (by decide) ?_
            exact ih16 _ _  h
          · refine X_iload_n dX12_meet_38 rfl rfl ?_
            exact X_reti rfl dX12_meet_39 h
    exact key16 _ _ _  h
  · refine X_iconst (v := -1) dX12_meet_8 iconst_m1 ?_
    exact X_reti rfl dX12_meet_9 h
def w_X12_often_l26 (a0 : Int32) (b0 : Int32) (Q : Int32 → Sg → Prop) : Nat → Int32 → Int32 → Sg → Prop
  | 0, _, _, _ => False
  | n26 + 1, x6, x7, σ8 => if b0 < x7 then (Q x6 σ8) else (w_X12_meetAt (a0 / (10 : Int32)) (a0 - a0 / (10 : Int32) * (10 : Int32)) x7 σ8 (fun r10 σ9 => bd (fun (x11 : Int32) (σ12 : Sg) => w_X12_often_l26 a0 b0 Q n26 x11 (x7 + 1) σ12) fun J52 => if r10 = 0 then (J52 x6 σ9) else (J52 (x6 + 1) σ9)))
def w_X12_often (a0 : Int32) (b0 : Int32) (σ : Sg) (Q : Int32 → Sg → Prop) : Prop := w_X12_areTwo a0 σ (fun r2 σ1 => if r2 = 0 then (Q (-1 : Int32) σ1) else (w_X12_areHours b0 σ1 (fun r4 σ3 => if r4 = 0 then (Q (-1 : Int32) σ3) else (w_X12_layAll  σ3 (fun  σ5 => ∃ n, w_X12_often_l26 a0 b0 Q n (0 : Int32) (0 : Int32) σ5)))))
set_option maxRecDepth 100000 in
set_option maxHeartbeats 4000000 in
theorem s_X12_often (sx : Nat × (Nat → Int32)) (a0 : Int32) (b0 : Int32) (σ : Sg) (Q : Int32 → Sg → Prop) (h : w_X12_often a0 b0 σ Q) : Ct mX12_often 6 false (0, 0) sx G0 [.ref 60, .int a0, .int b0] σ (qI Q) := by
  refine Ct.of (L := [some (.ref 60), some (.int a0), some (.int b0), none, none]) (by decide) (Nat.le_of_ble_eq_true rfl) rfl ?_
  unfold w_X12_often at h
  refine X_aload_n dX12_often_0 rfl rfl ?_
  refine X_iload_n dX12_often_1 rfl rfl ?_
  refine X_callVi [.int a0] [] c_X12_areTwo v_X12_areTwo lk_X12_314 dX12_often_2 g_60 rfl rfl rfl (by decide) (Nat.le_of_ble_eq_true rfl) rfl (s_X12_areTwo sx a0  σ _ h) (fun r2 σ1 h => ?_)
  refine X_if_eq (tgt := 15) dX12_often_5 (by decide) h (fun h => ?_) (fun h => ?_)
  · refine X_iconst (v := -1) dX12_often_15 iconst_m1 ?_
    exact X_reti rfl dX12_often_16 h
  · refine X_iload_n dX12_often_8 rfl rfl ?_
    refine X_callSi [.int b0] [] c_X12_areHours t_X12_areHours lk_X12_290 dX12_often_9 rfl (by decide) (Nat.le_of_ble_eq_true rfl) rfl (s_X12_areHours sx b0  σ1 _ h) (fun r4 σ3 h => ?_)
    refine X_if_ne (tgt := 17) dX12_often_12 (by decide) h (fun h => ?_) (fun h => ?_)
    · refine X_aload_n dX12_often_17 rfl rfl ?_
      refine X_callVv [] [] c_X12_layAll v_X12_layAll lk_X12_302 dX12_often_18 g_60 rfl rfl rfl (by decide) (Nat.le_of_ble_eq_true rfl) rfl (s_X12_layAll sx   σ3 _ h) (fun  σ5 h => ?_)
      refine X_iconst (v := 0) dX12_often_21 iconst_0 ?_
      refine X_istore_n (L' := [some (.ref 60), some (.int a0), some (.int b0), some (.int (0 : Int32)), none]) dX12_often_22 rfl (by decide) rfl ?_
      refine X_iconst (v := 0) dX12_often_23 iconst_0 ?_
      refine X_istore (L' := [some (.ref 60), some (.int a0), some (.int b0), some (.int (0 : Int32)), some (.int (0 : Int32))]) dX12_often_24 (by decide) rfl ?_
      obtain ⟨n26, h⟩ := h
      have key26 : ∀ (n : Nat) (x6 : Int32) (x7 : Int32) (σ8 : Sg) , w_X12_often_l26 a0 b0 Q n x6 x7 σ8 → Ex mX12_often 6 false (0, 0) sx G0 26 [some (.ref 60), some (.int a0), some (.int b0), some (.int x6), some (.int x7)] [] σ8 (qI Q) := by
        intro n26
        induction n26 with
        | zero => intro _ _ _  h; exact h.elim
        | succ n26 ih26 =>
          intro x6 x7 σ8  h
          unfold w_X12_often_l26 at h
          refine X_iload dX12_often_26 rfl ?_
          refine X_iload_n dX12_often_28 rfl rfl ?_
          refine X_icmp_gt (tgt := 58) dX12_often_29 (by decide) h (fun h => ?_) (fun h => ?_)
          · refine X_iload_n dX12_often_58 rfl rfl ?_
            exact X_reti rfl dX12_often_59 h
          · refine X_aload_n dX12_often_32 rfl rfl ?_
            refine X_iload_n dX12_often_33 rfl rfl ?_
            refine X_bipush (v := 10) dX12_often_34 bipush_10 ?_
            refine X_idiv dX12_often_36 (by decide) ?_
            refine X_iload_n dX12_often_37 rfl rfl ?_
            refine X_bipush (v := 10) dX12_often_38 bipush_10 ?_
            refine X_irem dX12_often_40 (by decide) ?_
            refine X_iload dX12_often_41 rfl ?_
            refine X_callVi [.int (a0 / (10 : Int32)), .int (a0 - a0 / (10 : Int32) * (10 : Int32)), .int x7] [] c_X12_meetAt v_X12_meetAt lk_X12_317 dX12_often_43 g_60 rfl rfl rfl (by decide) (Nat.le_of_ble_eq_true rfl) rfl (s_X12_meetAt sx (a0 / (10 : Int32)) (a0 - a0 / (10 : Int32) * (10 : Int32)) x7  σ8 _ h) (fun r10 σ9 h => ?_)
            refine bd_j h (fun J52 e52 h => ?_)
            have j52 : ∀ (x11 : Int32) (σ12 : Sg) , J52 x11 σ12 → Ex mX12_often 6 false (0, 0) sx G0 52 [some (.ref 60), some (.int a0), some (.int b0), some (.int x11), some (.int x7)] [] σ12 (qI Q) := by
              intro x11 σ12  h
              subst e52
              replace h := h
              refine X_iinc (v := (x7 + 1)) (L' := [some (.ref 60), some (.int a0), some (.int b0), some (.int x11), some (.int (x7 + 1))]) dX12_often_52 rfl rfl (by decide) rfl ?_
              refine X_goto (tgt := 26) dX12_often_55 (by decide) ?_
              exact ih26 _ _ _  h
            refine X_if_eq (tgt := 52) dX12_often_46 (by decide) h (fun h => ?_) (fun h => ?_)
            · exact j52 _ _  h
            · refine X_iinc (v := (x6 + 1)) (L' := [some (.ref 60), some (.int a0), some (.int b0), some (.int (x6 + 1)), some (.int x7)]) dX12_often_49 rfl rfl (by decide) rfl ?_
              exact j52 _ _  h
      exact key26 _ _ _ _  h
    · refine X_iconst (v := -1) dX12_often_15 iconst_m1 ?_
      exact X_reti rfl dX12_often_16 h
def w_X12_whoNear_l5 (a0 : Int32) (b0 : Int32) (Q : Int32 → Sg → Prop) : Nat → Int32 → Int32 → Sg → Prop
  | 0, _, _, _ => False
  | n5 + 1, x1, x2, σ3 => if (σ3.1 60 1) ≤ x2 then (Q x1 σ3) else (vp_in (((61 : Int32) * x2) + b0) 366 ∧ w_X12_nearTo (σ3.1 80 (Int32.toNatClampNeg (((61 : Int32) * x2) + b0))) a0 σ3 (fun r5 σ4 => bd (fun (x6 : Int32) (σ7 : Sg) => w_X12_whoNear_l5 a0 b0 Q n5 x6 (x2 + 1) σ7) fun J41 => if r5 = 0 then (J41 x1 σ4) else (bd (x1 ||| ((1 : Int32) <<< (x2 &&& 31))) fun x8 => J41 x8 σ4)))
def w_X12_whoNear (a0 : Int32) (b0 : Int32) (σ : Sg) (Q : Int32 → Sg → Prop) : Prop := ∃ n, w_X12_whoNear_l5 a0 b0 Q n (0 : Int32) (0 : Int32) σ
set_option maxRecDepth 100000 in
set_option maxHeartbeats 4000000 in
theorem s_X12_whoNear (sx : Nat × (Nat → Int32)) (a0 : Int32) (b0 : Int32) (σ : Sg) (Q : Int32 → Sg → Prop) (h : w_X12_whoNear a0 b0 σ Q) : Ct mX12_whoNear 3 false (0, 0) sx G0 [.ref 60, .int a0, .int b0] σ (qI Q) := by
  refine Ct.of (L := [some (.ref 60), some (.int a0), some (.int b0), none, none]) (by decide) (Nat.le_of_ble_eq_true rfl) rfl ?_
  unfold w_X12_whoNear at h
  refine X_iconst (v := 0) dX12_whoNear_0 iconst_0 ?_
  refine X_istore_n (L' := [some (.ref 60), some (.int a0), some (.int b0), some (.int (0 : Int32)), none]) dX12_whoNear_1 rfl (by decide) rfl ?_
  refine X_iconst (v := 0) dX12_whoNear_2 iconst_0 ?_
  refine X_istore (L' := [some (.ref 60), some (.int a0), some (.int b0), some (.int (0 : Int32)), some (.int (0 : Int32))]) dX12_whoNear_3 (by decide) rfl ?_
  obtain ⟨n5, h⟩ := h
  have key5 : ∀ (n : Nat) (x1 : Int32) (x2 : Int32) (σ3 : Sg) , w_X12_whoNear_l5 a0 b0 Q n x1 x2 σ3 → Ex mX12_whoNear 3 false (0, 0) sx G0 5 [some (.ref 60), some (.int a0), some (.int b0), some (.int x1), some (.int x2)] [] σ3 (qI Q) := by
    intro n5
    induction n5 with
    | zero => intro _ _ _  h; exact h.elim
    | succ n5 ih5 =>
      intro x1 x2 σ3  h
      unfold w_X12_whoNear_l5 at h
      refine X_iload dX12_whoNear_5 rfl ?_
      refine X_aload_n dX12_whoNear_7 rfl rfl ?_
      refine X_get (v := .int (σ3.1 60 1)) ck_X12 f_X12_125 g_60 rfl (fun _ => rfl) dX12_whoNear_8 ?_
      refine X_icmp_ge (tgt := 47) dX12_whoNear_11 (by decide) h (fun h => ?_) (fun h => ?_)
      · refine X_iload_n dX12_whoNear_47 rfl rfl ?_
        exact X_reti rfl dX12_whoNear_48 h
      · refine X_aload_n dX12_whoNear_14 rfl rfl ?_
        refine X_aload_n dX12_whoNear_15 rfl rfl ?_
        refine X_get (v := .ref 80) ck_X12 f_X12_71 g_60 rfl (fun _ => rfl) dX12_whoNear_16 ?_
        refine X_bipush (v := 61) dX12_whoNear_19 bipush_61 ?_
        refine X_iload dX12_whoNear_21 rfl ?_
        refine X_imul dX12_whoNear_23 ?_
        refine X_iload_n dX12_whoNear_24 rfl rfl ?_
        refine X_iadd dX12_whoNear_25 ?_
        refine X_iald g_80 dX12_whoNear_26 h (fun h => ?_)
        refine X_iload_n dX12_whoNear_27 rfl rfl ?_
        refine X_callVi [.int (σ3.1 80 (Int32.toNatClampNeg (((61 : Int32) * x2) + b0))), .int a0] [] c_X12_nearTo v_X12_nearTo lk_X12_305 dX12_whoNear_28 g_60 rfl rfl rfl (by decide) (Nat.le_of_ble_eq_true rfl) rfl (s_X12_nearTo sx (σ3.1 80 (Int32.toNatClampNeg (((61 : Int32) * x2) + b0))) a0  σ3 _ h) (fun r5 σ4 h => ?_)
        refine bd_j h (fun J41 e41 h => ?_)
        have j41 : ∀ (x6 : Int32) (σ7 : Sg) , J41 x6 σ7 → Ex mX12_whoNear 3 false (0, 0) sx G0 41 [some (.ref 60), some (.int a0), some (.int b0), some (.int x6), some (.int x2)] [] σ7 (qI Q) := by
          intro x6 σ7  h
          subst e41
          replace h := h
          refine X_iinc (v := (x2 + 1)) (L' := [some (.ref 60), some (.int a0), some (.int b0), some (.int x6), some (.int (x2 + 1))]) dX12_whoNear_41 rfl rfl (by decide) rfl ?_
          refine X_goto (tgt := 5) dX12_whoNear_44 (by decide) ?_
          exact ih5 _ _ _  h
        refine X_if_eq (tgt := 41) dX12_whoNear_31 (by decide) h (fun h => ?_) (fun h => ?_)
        · exact j41 _ _  h
        · refine X_iload_n dX12_whoNear_34 rfl rfl ?_
          refine X_iconst (v := 1) dX12_whoNear_35 iconst_1 ?_
          refine X_iload dX12_whoNear_36 rfl ?_
          refine X_ishl dX12_whoNear_38 ?_
          refine X_ior dX12_whoNear_39 ?_
          refine X_topI h (fun x8 h => ?_)
          refine X_istore_n (L' := [some (.ref 60), some (.int a0), some (.int b0), some (.int x8), some (.int x2)]) dX12_whoNear_40 rfl (by decide) rfl ?_
          exact j41 _ _  h
  exact key5 _ _ _ _  h
def w_X12_who (a0 : Int32) (b0 : Int32) (σ : Sg) (Q : Int32 → Sg → Prop) : Prop := w_X12_isCell a0 σ (fun r2 σ1 => if r2 = 0 then (Q (-1 : Int32) σ1) else (w_X12_areHours b0 σ1 (fun r4 σ3 => if r4 = 0 then (Q (-1 : Int32) σ3) else (w_X12_layAll  σ3 (fun  σ5 => w_X12_whoNear a0 b0 σ5 (fun r7 σ6 => Q r7 σ6))))))
set_option maxRecDepth 100000 in
set_option maxHeartbeats 4000000 in
theorem s_X12_who (sx : Nat × (Nat → Int32)) (a0 : Int32) (b0 : Int32) (σ : Sg) (Q : Int32 → Sg → Prop) (h : w_X12_who a0 b0 σ Q) : Ct mX12_who 6 false (0, 0) sx G0 [.ref 60, .int a0, .int b0] σ (qI Q) := by
  refine Ct.of (L := [some (.ref 60), some (.int a0), some (.int b0)]) (by decide) (Nat.le_of_ble_eq_true rfl) rfl ?_
  unfold w_X12_who at h
  refine X_iload_n dX12_who_0 rfl rfl ?_
  refine X_callSi [.int a0] [] c_X12_isCell t_X12_isCell lk_X12_142 dX12_who_1 rfl (by decide) (Nat.le_of_ble_eq_true rfl) rfl (s_X12_isCell sx a0  σ _ h) (fun r2 σ1 h => ?_)
  refine X_if_eq (tgt := 14) dX12_who_4 (by decide) h (fun h => ?_) (fun h => ?_)
  · refine X_iconst (v := -1) dX12_who_14 iconst_m1 ?_
    exact X_reti rfl dX12_who_15 h
  · refine X_iload_n dX12_who_7 rfl rfl ?_
    refine X_callSi [.int b0] [] c_X12_areHours t_X12_areHours lk_X12_290 dX12_who_8 rfl (by decide) (Nat.le_of_ble_eq_true rfl) rfl (s_X12_areHours sx b0  σ1 _ h) (fun r4 σ3 h => ?_)
    refine X_if_ne (tgt := 16) dX12_who_11 (by decide) h (fun h => ?_) (fun h => ?_)
    · refine X_aload_n dX12_who_16 rfl rfl ?_
      refine X_callVv [] [] c_X12_layAll v_X12_layAll lk_X12_302 dX12_who_17 g_60 rfl rfl rfl (by decide) (Nat.le_of_ble_eq_true rfl) rfl (s_X12_layAll sx   σ3 _ h) (fun  σ5 h => ?_)
      refine X_aload_n dX12_who_20 rfl rfl ?_
      refine X_iload_n dX12_who_21 rfl rfl ?_
      refine X_iload_n dX12_who_22 rfl rfl ?_
      refine X_callVi [.int a0, .int b0] [] c_X12_whoNear v_X12_whoNear lk_X12_320 dX12_who_23 g_60 rfl rfl rfl (by decide) (Nat.le_of_ble_eq_true rfl) rfl (s_X12_whoNear sx a0 b0  σ5 _ h) (fun r7 σ6 h => ?_)
      exact X_reti rfl dX12_who_26 h
    · refine X_iconst (v := -1) dX12_who_14 iconst_m1 ?_
      exact X_reti rfl dX12_who_15 h
def w_X12_changed_l42 (b0 : Int32) (x7 : Int32) (J76 : Int32 → Sg → Prop) : Nat → Int32 → Int32 → Sg → Prop
  | 0, _, _, _ => False
  | n42 + 1, x13, x14, σ15 => if (σ15.1 60 1) ≤ x14 then (J76 x13 σ15) else (w_X12_meetAt x7 x14 b0 σ15 (fun r17 σ16 => bd (fun (x18 : Int32) (σ19 : Sg) => w_X12_changed_l42 b0 x7 J76 n42 x18 (x14 + 1) σ19) fun J70 => if r17 = 0 then (J70 x13 σ16) else (bd (x13 ||| ((1 : Int32) <<< (x14 &&& 31))) fun x20 => J70 x20 σ16)))
def w_X12_changed_l17 (b0 : Int32) (x1 : Int32) (J82 : Int32 → Sg → Prop) : Nat → Int32 → Int32 → Sg → Prop
  | 0, _, _, _ => False
  | n17 + 1, x6, x7, σ8 => if (σ8.1 60 1) ≤ x7 then (J82 x6 σ8) else (w_X12_has x1 x7 σ8 (fun r10 σ9 => bd (fun (x11 : Int32) (σ12 : Sg) => w_X12_changed_l17 b0 x1 J82 n17 x11 (x7 + 1) σ12) fun J76 => if r10 = 0 then (J76 x6 σ9) else (∃ n, w_X12_changed_l42 b0 x7 J76 n x6 (0 : Int32) σ9)))
def w_X12_changed_l5 (b0 : Int32) (Q : Int32 → Sg → Prop) : Nat → Int32 → Int32 → Sg → Prop
  | 0, _, _, _ => False
  | n5 + 1, x1, x2, σ3 => if x1 = x2 then (Q x1 σ3) else (bd (fun (x4 : Int32) (σ5 : Sg) => w_X12_changed_l5 b0 Q n5 x4 x1 σ5) fun J82 => ∃ n, w_X12_changed_l17 b0 x1 J82 n x1 (0 : Int32) σ3)
def w_X12_changed (a0 : Int32) (b0 : Int32) (σ : Sg) (Q : Int32 → Sg → Prop) : Prop := ∃ n, w_X12_changed_l5 b0 Q n a0 (0 : Int32) σ
set_option maxRecDepth 100000 in
set_option maxHeartbeats 4000000 in
theorem s_X12_changed (sx : Nat × (Nat → Int32)) (a0 : Int32) (b0 : Int32) (σ : Sg) (Q : Int32 → Sg → Prop) (h : w_X12_changed a0 b0 σ Q) : Ct mX12_changed 4 false (0, 0) sx G0 [.ref 60, .int a0, .int b0] σ (qI Q) := by
  refine Ct.of (L := [some (.ref 60), some (.int a0), some (.int b0), none, none, none, none]) (by decide) (Nat.le_of_ble_eq_true rfl) rfl ?_
  unfold w_X12_changed at h
  refine X_iload_n dX12_changed_0 rfl rfl ?_
  refine X_istore_n (L' := [some (.ref 60), some (.int a0), some (.int b0), some (.int a0), none, none, none]) dX12_changed_1 rfl (by decide) rfl ?_
  refine X_iconst (v := 0) dX12_changed_2 iconst_0 ?_
  refine X_istore (L' := [some (.ref 60), some (.int a0), some (.int b0), some (.int a0), some (.int (0 : Int32)), none, none]) dX12_changed_3 (by decide) rfl ?_
  obtain ⟨n5, h⟩ := h
  have key5 : ∀ (n : Nat) (x1 : Int32) (x2 : Int32) (σ3 : Sg) , w_X12_changed_l5 b0 Q n x1 x2 σ3 → Ex mX12_changed 4 false (0, 0) sx G0 5 [some (.ref 60), none, some (.int b0), some (.int x1), some (.int x2), none, none] [] σ3 (qI Q) := by
    intro n5
    induction n5 with
    | zero => intro _ _ _  h; exact h.elim
    | succ n5 ih5 =>
      intro x1 x2 σ3  h
      unfold w_X12_changed_l5 at h
      refine X_iload_n dX12_changed_5 rfl rfl ?_
      refine X_iload dX12_changed_6 rfl ?_
      refine X_icmp_eq (tgt := 85) dX12_changed_8 (by decide) h (fun h => ?_) (fun h => ?_)
      · refine X_iload_n dX12_changed_85 rfl rfl ?_
        exact X_reti rfl dX12_changed_86 h
      · refine X_iload_n dX12_changed_11 rfl rfl ?_
        refine X_istore (L' := [some (.ref 60), none, some (.int b0), some (.int x1), some (.int x1), none, none]) dX12_changed_12 (by decide) rfl ?_
        refine X_iconst (v := 0) dX12_changed_14 iconst_0 ?_
        refine X_istore (L' := [some (.ref 60), none, some (.int b0), some (.int x1), some (.int x1), some (.int (0 : Int32)), none]) dX12_changed_15 (by decide) rfl ?_
        refine bd_j h (fun J82 e82 h => ?_)
        have j82 : ∀ (x4 : Int32) (σ5 : Sg) , J82 x4 σ5 → Ex mX12_changed 4 false (0, 0) sx G0 82 [some (.ref 60), none, some (.int b0), some (.int x4), some (.int x1), none, none] [] σ5 (qI Q) := by
          intro x4 σ5  h
          subst e82
          replace h := h
          refine X_goto (tgt := 5) dX12_changed_82 (by decide) ?_
          exact ih5 _ _ _  h
        obtain ⟨n17, h⟩ := h
        have key17 : ∀ (n : Nat) (x6 : Int32) (x7 : Int32) (σ8 : Sg) , w_X12_changed_l17 b0 x1 J82 n x6 x7 σ8 → Ex mX12_changed 4 false (0, 0) sx G0 17 [some (.ref 60), none, some (.int b0), some (.int x6), some (.int x1), some (.int x7), none] [] σ8 (qI Q) := by
          intro n17
          induction n17 with
          | zero => intro _ _ _  h; exact h.elim
          | succ n17 ih17 =>
            intro x6 x7 σ8  h
            unfold w_X12_changed_l17 at h
            refine X_iload dX12_changed_17 rfl ?_
            refine X_aload_n dX12_changed_19 rfl rfl ?_
            refine X_get (v := .int (σ8.1 60 1)) ck_X12 f_X12_125 g_60 rfl (fun _ => rfl) dX12_changed_20 ?_
            refine X_icmp_ge (tgt := 82) dX12_changed_23 (by decide) h (fun h => ?_) (fun h => ?_)
            · refine X_drop (L' := [some (.ref 60), none, some (.int b0), some (.int x6), some (.int x1), none, none]) ⟨rfl, ⟨rfl, ⟨rfl, ⟨rfl, trivial⟩⟩⟩⟩ ?_
              exact j82 _ _  h
            · refine X_iload dX12_changed_26 rfl ?_
              refine X_iload dX12_changed_28 rfl ?_
              refine X_callSi [.int x1, .int x7] [] c_X12_has t_X12_has lk_X12_311 dX12_changed_30 rfl (by decide) (Nat.le_of_ble_eq_true rfl) rfl (s_X12_has sx x1 x7  σ8 _ h) (fun r10 σ9 h => ?_)
              refine bd_j h (fun J76 e76 h => ?_)
              have j76 : ∀ (x11 : Int32) (σ12 : Sg) , J76 x11 σ12 → Ex mX12_changed 4 false (0, 0) sx G0 76 [some (.ref 60), none, some (.int b0), some (.int x11), some (.int x1), some (.int x7), none] [] σ12 (qI Q) := by
                intro x11 σ12  h
                subst e76
                replace h := h
                refine X_iinc (v := (x7 + 1)) (L' := [some (.ref 60), none, some (.int b0), some (.int x11), some (.int x1), some (.int (x7 + 1)), none]) dX12_changed_76 rfl rfl (by decide) rfl ?_
                refine X_goto (tgt := 17) dX12_changed_79 (by decide) ?_
                exact ih17 _ _ _  h
              refine X_if_ne (tgt := 39) dX12_changed_33 (by decide) h (fun h => ?_) (fun h => ?_)
              · refine X_iconst (v := 0) dX12_changed_39 iconst_0 ?_
                refine X_istore (L' := [some (.ref 60), none, some (.int b0), some (.int x6), some (.int x1), some (.int x7), some (.int (0 : Int32))]) dX12_changed_40 (by decide) rfl ?_
                obtain ⟨n42, h⟩ := h
                have key42 : ∀ (n : Nat) (x13 : Int32) (x14 : Int32) (σ15 : Sg) , w_X12_changed_l42 b0 x7 J76 n x13 x14 σ15 → Ex mX12_changed 4 false (0, 0) sx G0 42 [some (.ref 60), none, some (.int b0), some (.int x13), some (.int x1), some (.int x7), some (.int x14)] [] σ15 (qI Q) := by
                  intro n42
                  induction n42 with
                  | zero => intro _ _ _  h; exact h.elim
                  | succ n42 ih42 =>
                    intro x13 x14 σ15  h
                    unfold w_X12_changed_l42 at h
                    refine X_iload dX12_changed_42 rfl ?_
                    refine X_aload_n dX12_changed_44 rfl rfl ?_
                    refine X_get (v := .int (σ15.1 60 1)) ck_X12 f_X12_125 g_60 rfl (fun _ => rfl) dX12_changed_45 ?_
                    refine X_icmp_ge (tgt := 76) dX12_changed_48 (by decide) h (fun h => ?_) (fun h => ?_)
                    · refine X_drop (L' := [some (.ref 60), none, some (.int b0), some (.int x13), some (.int x1), some (.int x7), none]) ⟨rfl, ⟨rfl, ⟨rfl, ⟨rfl, ⟨rfl, trivial⟩⟩⟩⟩⟩ ?_
                      exact j76 _ _  h
                    · refine X_aload_n dX12_changed_51 rfl rfl ?_
                      refine X_iload dX12_changed_52 rfl ?_
                      refine X_iload dX12_changed_54 rfl ?_
                      refine X_iload_n dX12_changed_56 rfl rfl ?_
                      refine X_callVi [.int x7, .int x14, .int b0] [] c_X12_meetAt v_X12_meetAt lk_X12_317 dX12_changed_57 g_60 rfl rfl rfl (by decide) (Nat.le_of_ble_eq_true rfl) rfl (s_X12_meetAt sx x7 x14 b0  σ15 _ h) (fun r17 σ16 h => ?_)
                      refine bd_j h (fun J70 e70 h => ?_)
                      have j70 : ∀ (x18 : Int32) (σ19 : Sg) , J70 x18 σ19 → Ex mX12_changed 4 false (0, 0) sx G0 70 [some (.ref 60), none, some (.int b0), some (.int x18), some (.int x1), some (.int x7), some (.int x14)] [] σ19 (qI Q) := by
                        intro x18 σ19  h
                        subst e70
                        replace h := h
                        refine X_iinc (v := (x14 + 1)) (L' := [some (.ref 60), none, some (.int b0), some (.int x18), some (.int x1), some (.int x7), some (.int (x14 + 1))]) dX12_changed_70 rfl rfl (by decide) rfl ?_
                        refine X_goto (tgt := 42) dX12_changed_73 (by decide) ?_
                        exact ih42 _ _ _  h
                      refine X_if_eq (tgt := 70) dX12_changed_60 (by decide) h (fun h => ?_) (fun h => ?_)
                      · exact j70 _ _  h
                      · refine X_iload_n dX12_changed_63 rfl rfl ?_
                        refine X_iconst (v := 1) dX12_changed_64 iconst_1 ?_
                        refine X_iload dX12_changed_65 rfl ?_
                        refine X_ishl dX12_changed_67 ?_
                        refine X_ior dX12_changed_68 ?_
                        refine X_topI h (fun x20 h => ?_)
                        refine X_istore_n (L' := [some (.ref 60), none, some (.int b0), some (.int x20), some (.int x1), some (.int x7), some (.int x14)]) dX12_changed_69 rfl (by decide) rfl ?_
                        exact j70 _ _  h
                exact key42 _ _ _ _  h
              · refine X_goto (tgt := 76) dX12_changed_36 (by decide) ?_
                exact j76 _ _  h
        exact key17 _ _ _ _  h
  refine X_drop (L' := [some (.ref 60), none, some (.int b0), some (.int a0), some (.int (0 : Int32)), none, none]) ⟨rfl, ⟨rfl, ⟨rfl, ⟨rfl, trivial⟩⟩⟩⟩ ?_
  exact key5 _ _ _ _  h
def w_X12_soonest_l57 (a0 : Int32) (Q : Int32 → Sg → Prop) (J108 : Int32 → Int32 → Sg → Prop) : Nat → Int32 → Int32 → Sg → Prop
  | 0, _, _, _ => False
  | n57 + 1, x11, x12, σ13 => if (60 : Int32) < x12 then (Q (-2 : Int32) σ13) else (vp_in (a0 / (10 : Int32)) 8 ∧ w_X12_whoNear (σ13.1 65 (Int32.toNatClampNeg (a0 / (10 : Int32)))) x12 σ13 (fun r15 σ14 => w_X12_changed (x11 ||| r15) x12 σ14 (fun r17 σ16 => vp_in (a0 - a0 / (10 : Int32) * (10 : Int32)) 8 ∧ w_X12_whoNear (σ16.1 65 (Int32.toNatClampNeg (a0 - a0 / (10 : Int32) * (10 : Int32)))) x12 σ16 (fun r19 σ18 => if (r17 &&& r19) = 0 then (w_X12_soonest_l57 a0 Q J108 n57 r17 (x12 + 1) σ18) else (J108 r17 x12 σ18)))))
def w_X12_soonest (a0 : Int32) (b0 : Int32) (σ : Sg) (Q : Int32 → Sg → Prop) : Prop := if a0 < 0 then (Q (-1 : Int32) σ) else (w_X12_isPlace (a0 / (10 : Int32)) σ (fun r2 σ1 => if r2 = 0 then (Q (-1 : Int32) σ1) else (w_X12_isPlace (a0 - a0 / (10 : Int32) * (10 : Int32)) σ1 (fun r4 σ3 => if r4 = 0 then (Q (-1 : Int32) σ3) else (if (a0 / (10 : Int32)) = (a0 - a0 / (10 : Int32) * (10 : Int32)) then (Q (-1 : Int32) σ3) else (w_X12_in b0 (0 : Int32) (1 : Int32) σ3 (fun r6 σ5 => if r6 = 0 then (Q (-1 : Int32) σ5) else (w_X12_layAll  σ5 (fun  σ7 => bd (fun (x8 : Int32) (x9 : Int32) (σ10 : Sg) => if b0 = 0 then (Q x9 σ10) else (Q x8 σ10)) fun J108 => ∃ n, w_X12_soonest_l57 a0 Q J108 n (0 : Int32) (0 : Int32) σ7)))))))))
set_option maxRecDepth 100000 in
set_option maxHeartbeats 4000000 in
theorem s_X12_soonest (sx : Nat × (Nat → Int32)) (a0 : Int32) (b0 : Int32) (σ : Sg) (Q : Int32 → Sg → Prop) (h : w_X12_soonest a0 b0 σ Q) : Ct mX12_soonest 6 false (0, 0) sx G0 [.ref 60, .int a0, .int b0] σ (qI Q) := by
  refine Ct.of (L := [some (.ref 60), some (.int a0), some (.int b0), none, none]) (by decide) (Nat.le_of_ble_eq_true rfl) rfl ?_
  unfold w_X12_soonest at h
  refine X_iload_n dX12_soonest_0 rfl rfl ?_
  refine X_if_lt (tgt := 46) dX12_soonest_1 (by decide) h (fun h => ?_) (fun h => ?_)
  · refine X_iconst (v := -1) dX12_soonest_46 iconst_m1 ?_
    exact X_reti rfl dX12_soonest_47 h
  · refine X_aload_n dX12_soonest_4 rfl rfl ?_
    refine X_iload_n dX12_soonest_5 rfl rfl ?_
    refine X_bipush (v := 10) dX12_soonest_6 bipush_10 ?_
    refine X_idiv dX12_soonest_8 (by decide) ?_
    refine X_callVi [.int (a0 / (10 : Int32))] [] c_X12_isPlace v_X12_isPlace lk_X12_139 dX12_soonest_9 g_60 rfl rfl rfl (by decide) (Nat.le_of_ble_eq_true rfl) rfl (s_X12_isPlace sx (a0 / (10 : Int32))  σ _ h) (fun r2 σ1 h => ?_)
    refine X_if_eq (tgt := 46) dX12_soonest_12 (by decide) h (fun h => ?_) (fun h => ?_)
    · refine X_iconst (v := -1) dX12_soonest_46 iconst_m1 ?_
      exact X_reti rfl dX12_soonest_47 h
    · refine X_aload_n dX12_soonest_15 rfl rfl ?_
      refine X_iload_n dX12_soonest_16 rfl rfl ?_
      refine X_bipush (v := 10) dX12_soonest_17 bipush_10 ?_
      refine X_irem dX12_soonest_19 (by decide) ?_
      refine X_callVi [.int (a0 - a0 / (10 : Int32) * (10 : Int32))] [] c_X12_isPlace v_X12_isPlace lk_X12_139 dX12_soonest_20 g_60 rfl rfl rfl (by decide) (Nat.le_of_ble_eq_true rfl) rfl (s_X12_isPlace sx (a0 - a0 / (10 : Int32) * (10 : Int32))  σ1 _ h) (fun r4 σ3 h => ?_)
      refine X_if_eq (tgt := 46) dX12_soonest_23 (by decide) h (fun h => ?_) (fun h => ?_)
      · refine X_iconst (v := -1) dX12_soonest_46 iconst_m1 ?_
        exact X_reti rfl dX12_soonest_47 h
      · refine X_iload_n dX12_soonest_26 rfl rfl ?_
        refine X_bipush (v := 10) dX12_soonest_27 bipush_10 ?_
        refine X_idiv dX12_soonest_29 (by decide) ?_
        refine X_iload_n dX12_soonest_30 rfl rfl ?_
        refine X_bipush (v := 10) dX12_soonest_31 bipush_10 ?_
        refine X_irem dX12_soonest_33 (by decide) ?_
        refine X_icmp_eq (tgt := 46) dX12_soonest_34 (by decide) h (fun h => ?_) (fun h => ?_)
        · refine X_iconst (v := -1) dX12_soonest_46 iconst_m1 ?_
          exact X_reti rfl dX12_soonest_47 h
        · refine X_iload_n dX12_soonest_37 rfl rfl ?_
          refine X_iconst (v := 0) dX12_soonest_38 iconst_0 ?_
          refine X_iconst (v := 1) dX12_soonest_39 iconst_1 ?_
          refine X_callSi [.int b0, .int (0 : Int32), .int (1 : Int32)] [] c_X12_in t_X12_in lk_X12_128 dX12_soonest_40 rfl (by decide) (Nat.le_of_ble_eq_true rfl) rfl (s_X12_in sx b0 (0 : Int32) (1 : Int32)  σ3 _ h) (fun r6 σ5 h => ?_)
          refine X_if_ne (tgt := 48) dX12_soonest_43 (by decide) h (fun h => ?_) (fun h => ?_)
          · refine X_aload_n dX12_soonest_48 rfl rfl ?_
            refine X_callVv [] [] c_X12_layAll v_X12_layAll lk_X12_302 dX12_soonest_49 g_60 rfl rfl rfl (by decide) (Nat.le_of_ble_eq_true rfl) rfl (s_X12_layAll sx   σ5 _ h) (fun  σ7 h => ?_)
            refine X_iconst (v := 0) dX12_soonest_52 iconst_0 ?_
            refine X_istore_n (L' := [some (.ref 60), some (.int a0), some (.int b0), some (.int (0 : Int32)), none]) dX12_soonest_53 rfl (by decide) rfl ?_
            refine X_iconst (v := 0) dX12_soonest_54 iconst_0 ?_
            refine X_istore (L' := [some (.ref 60), some (.int a0), some (.int b0), some (.int (0 : Int32)), some (.int (0 : Int32))]) dX12_soonest_55 (by decide) rfl ?_
            refine bd_j h (fun J108 e108 h => ?_)
            have j108 : ∀ (x8 : Int32) (x9 : Int32) (σ10 : Sg) , J108 x8 x9 σ10 → Ex mX12_soonest 6 false (0, 0) sx G0 108 [none, none, some (.int b0), some (.int x8), some (.int x9)] [] σ10 (qI Q) := by
              intro x8 x9 σ10  h
              subst e108
              replace h := h
              refine X_iload_n dX12_soonest_108 rfl rfl ?_
              refine X_if_ne (tgt := 117) dX12_soonest_109 (by decide) h (fun h => ?_) (fun h => ?_)
              · refine X_iload_n dX12_soonest_117 rfl rfl ?_
                exact X_reti rfl dX12_soonest_118 h
              · refine X_iload dX12_soonest_112 rfl ?_
                refine X_goto (tgt := 118) dX12_soonest_114 (by decide) ?_
                exact X_reti rfl dX12_soonest_118 h
            obtain ⟨n57, h⟩ := h
            have key57 : ∀ (n : Nat) (x11 : Int32) (x12 : Int32) (σ13 : Sg) , w_X12_soonest_l57 a0 Q J108 n x11 x12 σ13 → Ex mX12_soonest 6 false (0, 0) sx G0 57 [some (.ref 60), some (.int a0), some (.int b0), some (.int x11), some (.int x12)] [] σ13 (qI Q) := by
              intro n57
              induction n57 with
              | zero => intro _ _ _  h; exact h.elim
              | succ n57 ih57 =>
                intro x11 x12 σ13  h
                unfold w_X12_soonest_l57 at h
                refine X_iload dX12_soonest_57 rfl ?_
                refine X_bipush (v := 60) dX12_soonest_59 bipush_60 ?_
                refine X_icmp_gt (tgt := 125) dX12_soonest_61 (by decide) h (fun h => ?_) (fun h => ?_)
                · refine X_bipush (v := -2) dX12_soonest_125 bipush_m2 ?_
                  exact X_reti rfl dX12_soonest_127 h
                · refine X_aload_n dX12_soonest_64 rfl rfl ?_
                  refine X_iload_n dX12_soonest_65 rfl rfl ?_
                  refine X_aload_n dX12_soonest_66 rfl rfl ?_
                  refine X_aload_n dX12_soonest_67 rfl rfl ?_
                  refine X_get (v := .ref 65) ck_X12 f_X12_24 g_60 rfl (fun _ => rfl) dX12_soonest_68 ?_
                  refine X_iload_n dX12_soonest_71 rfl rfl ?_
                  refine X_bipush (v := 10) dX12_soonest_72 bipush_10 ?_
                  refine X_idiv dX12_soonest_74 (by decide) ?_
                  refine X_iald g_65 dX12_soonest_75 h (fun h => ?_)
                  refine X_iload dX12_soonest_76 rfl ?_
                  refine X_callVi [.int (σ13.1 65 (Int32.toNatClampNeg (a0 / (10 : Int32)))), .int x12] [.int x11, .ref 60] c_X12_whoNear v_X12_whoNear lk_X12_320 dX12_soonest_78 g_60 rfl rfl rfl (by decide) (Nat.le_of_ble_eq_true rfl) rfl (s_X12_whoNear sx (σ13.1 65 (Int32.toNatClampNeg (a0 / (10 : Int32)))) x12  σ13 _ h) (fun r15 σ14 h => ?_)
                  refine X_ior dX12_soonest_81 ?_
                  refine X_iload dX12_soonest_82 rfl ?_
                  refine X_callVi [.int (x11 ||| r15), .int x12] [] c_X12_changed v_X12_changed lk_X12_323 dX12_soonest_84 g_60 rfl rfl rfl (by decide) (Nat.le_of_ble_eq_true rfl) rfl (s_X12_changed sx (x11 ||| r15) x12  σ14 _ h) (fun r17 σ16 h => ?_)
                  refine X_istore_n (L' := [some (.ref 60), some (.int a0), some (.int b0), some (.int r17), some (.int x12)]) dX12_soonest_87 rfl (by decide) rfl ?_
                  refine X_iload_n dX12_soonest_88 rfl rfl ?_
                  refine X_aload_n dX12_soonest_89 rfl rfl ?_
                  refine X_aload_n dX12_soonest_90 rfl rfl ?_
                  refine X_get (v := .ref 65) ck_X12 f_X12_24 g_60 rfl (fun _ => rfl) dX12_soonest_91 ?_
                  refine X_iload_n dX12_soonest_94 rfl rfl ?_
                  refine X_bipush (v := 10) dX12_soonest_95 bipush_10 ?_
                  refine X_irem dX12_soonest_97 (by decide) ?_
                  refine X_iald g_65 dX12_soonest_98 h (fun h => ?_)
                  refine X_iload dX12_soonest_99 rfl ?_
                  refine X_callVi [.int (σ16.1 65 (Int32.toNatClampNeg (a0 - a0 / (10 : Int32) * (10 : Int32)))), .int x12] [.int r17] c_X12_whoNear v_X12_whoNear lk_X12_320 dX12_soonest_101 g_60 rfl rfl rfl (by decide) (Nat.le_of_ble_eq_true rfl) rfl (s_X12_whoNear sx (σ16.1 65 (Int32.toNatClampNeg (a0 - a0 / (10 : Int32) * (10 : Int32)))) x12  σ16 _ h) (fun r19 σ18 h => ?_)
                  refine X_iand dX12_soonest_104 ?_
                  refine X_if_eq (tgt := 119) dX12_soonest_105 (by decide) h (fun h => ?_) (fun h => ?_)
                  · refine X_iinc (v := (x12 + 1)) (L' := [some (.ref 60), some (.int a0), some (.int b0), some (.int r17), some (.int (x12 + 1))]) dX12_soonest_119 rfl rfl (by decide) rfl ?_
                    refine X_goto (tgt := 57) dX12_soonest_122 (by decide) ?_
                    exact ih57 _ _ _  h
                  · refine X_drop (L' := [none, none, some (.int b0), some (.int r17), some (.int x12)]) ⟨rfl, ⟨rfl, ⟨rfl, trivial⟩⟩⟩ ?_
                    exact j108 _ _ _  h
            exact key57 _ _ _ _  h
          · refine X_iconst (v := -1) dX12_soonest_46 iconst_m1 ?_
            exact X_reti rfl dX12_soonest_47 h
def w_X12_buy_l72 (b0 : Int32) (x13 : Int32) (J103 : Int32 → Sg → Prop) : Nat → Int32 → Int32 → Sg → Prop
  | 0, _, _, _ => False
  | n72 + 1, x27, x28, σ29 => if (σ29.1 60 1) ≤ x28 then (J103 x27 σ29) else (w_X12_passedBy x28 b0 σ29 (fun r31 σ30 => bd (fun (x32 : Int32) (σ33 : Sg) => w_X12_buy_l72 b0 x13 J103 n72 x32 (x28 + 1) σ33) fun J97 => if (r31 &&& x13) = 0 then (J97 x27 σ30) else (J97 (x27 + 1) σ30)))
def w_X12_buy_l43 (a0 : Int32) (b0 : Int32) (J147 : Int32 → Int32 → Sg → Prop) : Nat → Int32 → Int32 → Int32 → Sg → Prop
  | 0, _, _, _, _ => False
  | n43 + 1, x11, x12, x13, σ14 => if ((1 : Int32) <<< ((σ14.1 60 6) &&& 31)) ≤ x13 then (J147 x11 x12 σ14) else (w_X12_bitsOf x13 σ14 (fun r16 σ15 => bd (fun (x17 : Int32) (x18 : Int32) (σ19 : Sg) => w_X12_buy_l43 a0 b0 J147 n43 x17 x18 (x13 + 1) σ19) fun J141 => if r16 ≤ a0 then (bd (fun (x20 : Int32) (σ21 : Sg) => if x20 < x12 then (J141 x11 x12 σ21) else (bd (fun (σ22 : Sg) => J141 x13 x20 σ22) fun J133 => if x20 = x12 then (w_X12_bitsOf x13 σ21 (fun r24 σ23 => w_X12_bitsOf x11 σ23 (fun r26 σ25 => if r24 < r26 then (J133 σ25) else (J141 x11 x12 σ25)))) else (J133 σ21))) fun J103 => ∃ n, w_X12_buy_l72 b0 x13 J103 n (0 : Int32) (0 : Int32) σ15) else (J141 x11 x12 σ15)))
def w_X12_buy (a0 : Int32) (b0 : Int32) (c0 : Int32) (σ : Sg) (Q : Int32 → Sg → Prop) : Prop := w_X12_in a0 (1 : Int32) (3 : Int32) σ (fun r2 σ1 => if r2 = 0 then (Q (-1 : Int32) σ1) else (w_X12_in b0 (0 : Int32) (30 : Int32) σ1 (fun r4 σ3 => if r4 = 0 then (Q (-1 : Int32) σ3) else (w_X12_in c0 (0 : Int32) (1 : Int32) σ3 (fun r6 σ5 => if r6 = 0 then (Q (-1 : Int32) σ5) else (w_X12_layAll  σ5 (fun  σ7 => bd (fun (x8 : Int32) (x9 : Int32) (σ10 : Sg) => if c0 = 0 then (Q x9 σ10) else (Q x8 σ10)) fun J147 => ∃ n, w_X12_buy_l43 a0 b0 J147 n (0 : Int32) (0 : Int32) (1 : Int32) σ7)))))))
set_option maxRecDepth 100000 in
set_option maxHeartbeats 4000000 in
theorem s_X12_buy (sx : Nat × (Nat → Int32)) (a0 : Int32) (b0 : Int32) (c0 : Int32) (σ : Sg) (Q : Int32 → Sg → Prop) (h : w_X12_buy a0 b0 c0 σ Q) : Ct mX12_buy 6 false (0, 0) sx G0 [.ref 60, .int a0, .int b0, .int c0] σ (qI Q) := by
  refine Ct.of (L := [some (.ref 60), some (.int a0), some (.int b0), some (.int c0), none, none, none, none, none]) (by decide) (Nat.le_of_ble_eq_true rfl) rfl ?_
  unfold w_X12_buy at h
  refine X_iload_n dX12_buy_0 rfl rfl ?_
  refine X_iconst (v := 1) dX12_buy_1 iconst_1 ?_
  refine X_iconst (v := 3) dX12_buy_2 iconst_3 ?_
  refine X_callSi [.int a0, .int (1 : Int32), .int (3 : Int32)] [] c_X12_in t_X12_in lk_X12_128 dX12_buy_3 rfl (by decide) (Nat.le_of_ble_eq_true rfl) rfl (s_X12_in sx a0 (1 : Int32) (3 : Int32)  σ _ h) (fun r2 σ1 h => ?_)
  refine X_if_eq (tgt := 28) dX12_buy_6 (by decide) h (fun h => ?_) (fun h => ?_)
  · refine X_iconst (v := -1) dX12_buy_28 iconst_m1 ?_
    exact X_reti rfl dX12_buy_29 h
  · refine X_iload_n dX12_buy_9 rfl rfl ?_
    refine X_iconst (v := 0) dX12_buy_10 iconst_0 ?_
    refine X_bipush (v := 30) dX12_buy_11 bipush_30 ?_
    refine X_callSi [.int b0, .int (0 : Int32), .int (30 : Int32)] [] c_X12_in t_X12_in lk_X12_128 dX12_buy_13 rfl (by decide) (Nat.le_of_ble_eq_true rfl) rfl (s_X12_in sx b0 (0 : Int32) (30 : Int32)  σ1 _ h) (fun r4 σ3 h => ?_)
    refine X_if_eq (tgt := 28) dX12_buy_16 (by decide) h (fun h => ?_) (fun h => ?_)
    · refine X_iconst (v := -1) dX12_buy_28 iconst_m1 ?_
      exact X_reti rfl dX12_buy_29 h
    · refine X_iload_n dX12_buy_19 rfl rfl ?_
      refine X_iconst (v := 0) dX12_buy_20 iconst_0 ?_
      refine X_iconst (v := 1) dX12_buy_21 iconst_1 ?_
      refine X_callSi [.int c0, .int (0 : Int32), .int (1 : Int32)] [] c_X12_in t_X12_in lk_X12_128 dX12_buy_22 rfl (by decide) (Nat.le_of_ble_eq_true rfl) rfl (s_X12_in sx c0 (0 : Int32) (1 : Int32)  σ3 _ h) (fun r6 σ5 h => ?_)
      refine X_if_ne (tgt := 30) dX12_buy_25 (by decide) h (fun h => ?_) (fun h => ?_)
      · refine X_aload_n dX12_buy_30 rfl rfl ?_
        refine X_callVv [] [] c_X12_layAll v_X12_layAll lk_X12_302 dX12_buy_31 g_60 rfl rfl rfl (by decide) (Nat.le_of_ble_eq_true rfl) rfl (s_X12_layAll sx   σ5 _ h) (fun  σ7 h => ?_)
        refine X_iconst (v := 0) dX12_buy_34 iconst_0 ?_
        refine X_istore (L' := [some (.ref 60), some (.int a0), some (.int b0), some (.int c0), some (.int (0 : Int32)), none, none, none, none]) dX12_buy_35 (by decide) rfl ?_
        refine X_iconst (v := 0) dX12_buy_37 iconst_0 ?_
        refine X_istore (L' := [some (.ref 60), some (.int a0), some (.int b0), some (.int c0), some (.int (0 : Int32)), some (.int (0 : Int32)), none, none, none]) dX12_buy_38 (by decide) rfl ?_
        refine X_iconst (v := 1) dX12_buy_40 iconst_1 ?_
        refine X_istore (L' := [some (.ref 60), some (.int a0), some (.int b0), some (.int c0), some (.int (0 : Int32)), some (.int (0 : Int32)), some (.int (1 : Int32)), none, none]) dX12_buy_41 (by decide) rfl ?_
        refine bd_j h (fun J147 e147 h => ?_)
        have j147 : ∀ (x8 : Int32) (x9 : Int32) (σ10 : Sg) , J147 x8 x9 σ10 → Ex mX12_buy 6 false (0, 0) sx G0 147 [none, none, none, some (.int c0), some (.int x8), some (.int x9), none, none, none] [] σ10 (qI Q) := by
          intro x8 x9 σ10  h
          subst e147
          replace h := h
          refine X_iload_n dX12_buy_147 rfl rfl ?_
          refine X_if_ne (tgt := 156) dX12_buy_148 (by decide) h (fun h => ?_) (fun h => ?_)
          · refine X_iload dX12_buy_156 rfl ?_
            exact X_reti rfl dX12_buy_158 h
          · refine X_iload dX12_buy_151 rfl ?_
            refine X_goto (tgt := 158) dX12_buy_153 (by decide) ?_
            exact X_reti rfl dX12_buy_158 h
        obtain ⟨n43, h⟩ := h
        have key43 : ∀ (n : Nat) (x11 : Int32) (x12 : Int32) (x13 : Int32) (σ14 : Sg) , w_X12_buy_l43 a0 b0 J147 n x11 x12 x13 σ14 → Ex mX12_buy 6 false (0, 0) sx G0 43 [some (.ref 60), some (.int a0), some (.int b0), some (.int c0), some (.int x11), some (.int x12), some (.int x13), none, none] [] σ14 (qI Q) := by
          intro n43
          induction n43 with
          | zero => intro _ _ _ _  h; exact h.elim
          | succ n43 ih43 =>
            intro x11 x12 x13 σ14  h
            unfold w_X12_buy_l43 at h
            refine X_iload dX12_buy_43 rfl ?_
            refine X_iconst (v := 1) dX12_buy_45 iconst_1 ?_
            refine X_aload_n dX12_buy_46 rfl rfl ?_
            refine X_get (v := .int (σ14.1 60 6)) ck_X12 f_X12_132 g_60 rfl (fun _ => rfl) dX12_buy_47 ?_
            refine X_ishl dX12_buy_50 ?_
            refine X_icmp_ge (tgt := 147) dX12_buy_51 (by decide) h (fun h => ?_) (fun h => ?_)
            · refine X_drop (L' := [none, none, none, some (.int c0), some (.int x11), some (.int x12), none, none, none]) ⟨rfl, ⟨rfl, ⟨rfl, trivial⟩⟩⟩ ?_
              exact j147 _ _ _  h
            · refine X_iload dX12_buy_54 rfl ?_
              refine X_callSi [.int x13] [] c_X12_bitsOf t_X12_bitsOf lk_X12_326 dX12_buy_56 rfl (by decide) (Nat.le_of_ble_eq_true rfl) rfl (s_X12_bitsOf sx x13  σ14 _ h) (fun r16 σ15 h => ?_)
              refine X_iload_n dX12_buy_59 rfl rfl ?_
              refine bd_j h (fun J141 e141 h => ?_)
              have j141 : ∀ (x17 : Int32) (x18 : Int32) (σ19 : Sg) , J141 x17 x18 σ19 → Ex mX12_buy 6 false (0, 0) sx G0 141 [some (.ref 60), some (.int a0), some (.int b0), some (.int c0), some (.int x17), some (.int x18), some (.int x13), none, none] [] σ19 (qI Q) := by
                intro x17 x18 σ19  h
                subst e141
                replace h := h
                refine X_iinc (v := (x13 + 1)) (L' := [some (.ref 60), some (.int a0), some (.int b0), some (.int c0), some (.int x17), some (.int x18), some (.int (x13 + 1)), none, none]) dX12_buy_141 rfl rfl (by decide) rfl ?_
                refine X_goto (tgt := 43) dX12_buy_144 (by decide) ?_
                exact ih43 _ _ _ _  h
              refine X_icmp_le (tgt := 66) dX12_buy_60 (by decide) h (fun h => ?_) (fun h => ?_)
              · refine X_iconst (v := 0) dX12_buy_66 iconst_0 ?_
                refine X_istore (L' := [some (.ref 60), some (.int a0), some (.int b0), some (.int c0), some (.int x11), some (.int x12), some (.int x13), some (.int (0 : Int32)), none]) dX12_buy_67 (by decide) rfl ?_
                refine X_iconst (v := 0) dX12_buy_69 iconst_0 ?_
                refine X_istore (L' := [some (.ref 60), some (.int a0), some (.int b0), some (.int c0), some (.int x11), some (.int x12), some (.int x13), some (.int (0 : Int32)), some (.int (0 : Int32))]) dX12_buy_70 (by decide) rfl ?_
                refine bd_j h (fun J103 e103 h => ?_)
                have j103 : ∀ (x20 : Int32) (σ21 : Sg) , J103 x20 σ21 → Ex mX12_buy 6 false (0, 0) sx G0 103 [some (.ref 60), some (.int a0), some (.int b0), some (.int c0), some (.int x11), some (.int x12), some (.int x13), some (.int x20), none] [] σ21 (qI Q) := by
                  intro x20 σ21  h
                  subst e103
                  replace h := h
                  refine X_iload dX12_buy_103 rfl ?_
                  refine X_iload dX12_buy_105 rfl ?_
                  refine X_icmp_lt (tgt := 141) dX12_buy_107 (by decide) h (fun h => ?_) (fun h => ?_)
                  · refine X_drop (L' := [some (.ref 60), some (.int a0), some (.int b0), some (.int c0), some (.int x11), some (.int x12), some (.int x13), none, none]) ⟨rfl, ⟨rfl, ⟨rfl, ⟨rfl, ⟨rfl, ⟨rfl, ⟨rfl, trivial⟩⟩⟩⟩⟩⟩⟩ ?_
                    exact j141 _ _ _  h
                  · refine X_iload dX12_buy_110 rfl ?_
                    refine X_iload dX12_buy_112 rfl ?_
                    refine bd_j h (fun J133 e133 h => ?_)
                    have j133 : ∀ (σ22 : Sg) , J133  σ22 → Ex mX12_buy 6 false (0, 0) sx G0 133 [some (.ref 60), some (.int a0), some (.int b0), some (.int c0), none, none, some (.int x13), some (.int x20), none] [] σ22 (qI Q) := by
                      intro  σ22  h
                      subst e133
                      replace h := h
                      refine X_iload dX12_buy_133 rfl ?_
                      refine X_istore (L' := [some (.ref 60), some (.int a0), some (.int b0), some (.int c0), some (.int x13), none, some (.int x13), some (.int x20), none]) dX12_buy_135 (by decide) rfl ?_
                      refine X_iload dX12_buy_137 rfl ?_
                      refine X_istore (L' := [some (.ref 60), some (.int a0), some (.int b0), some (.int c0), some (.int x13), some (.int x20), some (.int x13), some (.int x20), none]) dX12_buy_139 (by decide) rfl ?_
                      refine X_drop (L' := [some (.ref 60), some (.int a0), some (.int b0), some (.int c0), some (.int x13), some (.int x20), some (.int x13), none, none]) ⟨rfl, ⟨rfl, ⟨rfl, ⟨rfl, ⟨rfl, ⟨rfl, ⟨rfl, trivial⟩⟩⟩⟩⟩⟩⟩ ?_
                      exact j141 _ _ _  h
                    refine X_icmp_ne (tgt := 133) dX12_buy_114 (by decide) h (fun h => ?_) (fun h => ?_)
                    · refine X_drop (L' := [some (.ref 60), some (.int a0), some (.int b0), some (.int c0), none, none, some (.int x13), some (.int x20), none]) ⟨rfl, ⟨rfl, ⟨rfl, ⟨rfl, ⟨rfl, ⟨rfl, trivial⟩⟩⟩⟩⟩⟩ ?_
                      exact j133 _  h
                    · refine X_iload dX12_buy_117 rfl ?_
                      refine X_callSi [.int x13] [] c_X12_bitsOf t_X12_bitsOf lk_X12_326 dX12_buy_119 rfl (by decide) (Nat.le_of_ble_eq_true rfl) rfl (s_X12_bitsOf sx x13  σ21 _ h) (fun r24 σ23 h => ?_)
                      refine X_iload dX12_buy_122 rfl ?_
                      refine X_callSi [.int x11] [.int r24] c_X12_bitsOf t_X12_bitsOf lk_X12_326 dX12_buy_124 rfl (by decide) (Nat.le_of_ble_eq_true rfl) rfl (s_X12_bitsOf sx x11  σ23 _ h) (fun r26 σ25 h => ?_)
                      refine X_icmp_lt (tgt := 133) dX12_buy_127 (by decide) h (fun h => ?_) (fun h => ?_)
                      · refine X_drop (L' := [some (.ref 60), some (.int a0), some (.int b0), some (.int c0), none, none, some (.int x13), some (.int x20), none]) ⟨rfl, ⟨rfl, ⟨rfl, ⟨rfl, ⟨rfl, ⟨rfl, trivial⟩⟩⟩⟩⟩⟩ ?_
                        exact j133 _  h
                      · refine X_goto (tgt := 141) dX12_buy_130 (by decide) ?_
                        refine X_drop (L' := [some (.ref 60), some (.int a0), some (.int b0), some (.int c0), some (.int x11), some (.int x12), some (.int x13), none, none]) ⟨rfl, ⟨rfl, ⟨rfl, ⟨rfl, ⟨rfl, ⟨rfl, ⟨rfl, trivial⟩⟩⟩⟩⟩⟩⟩ ?_
                        exact j141 _ _ _  h
                obtain ⟨n72, h⟩ := h
                have key72 : ∀ (n : Nat) (x27 : Int32) (x28 : Int32) (σ29 : Sg) , w_X12_buy_l72 b0 x13 J103 n x27 x28 σ29 → Ex mX12_buy 6 false (0, 0) sx G0 72 [some (.ref 60), some (.int a0), some (.int b0), some (.int c0), some (.int x11), some (.int x12), some (.int x13), some (.int x27), some (.int x28)] [] σ29 (qI Q) := by
                  intro n72
                  induction n72 with
                  | zero => intro _ _ _  h; exact h.elim
                  | succ n72 ih72 =>
                    intro x27 x28 σ29  h
                    unfold w_X12_buy_l72 at h
                    refine X_iload dX12_buy_72 rfl ?_
                    refine X_aload_n dX12_buy_74 rfl rfl ?_
                    refine X_get (v := .int (σ29.1 60 1)) ck_X12 f_X12_125 g_60 rfl (fun _ => rfl) dX12_buy_75 ?_
                    refine X_icmp_ge (tgt := 103) dX12_buy_78 (by decide) h (fun h => ?_) (fun h => ?_)
                    · refine X_drop (L' := [some (.ref 60), some (.int a0), some (.int b0), some (.int c0), some (.int x11), some (.int x12), some (.int x13), some (.int x27), none]) ⟨rfl, ⟨rfl, ⟨rfl, ⟨rfl, ⟨rfl, ⟨rfl, ⟨rfl, ⟨rfl, trivial⟩⟩⟩⟩⟩⟩⟩⟩ ?_
                      exact j103 _ _  h
                    · refine X_aload_n dX12_buy_81 rfl rfl ?_
                      refine X_iload dX12_buy_82 rfl ?_
                      refine X_iload_n dX12_buy_84 rfl rfl ?_
                      refine X_callVi [.int x28, .int b0] [] c_X12_passedBy v_X12_passedBy lk_X12_308 dX12_buy_85 g_60 rfl rfl rfl (by decide) (Nat.le_of_ble_eq_true rfl) rfl (s_X12_passedBy sx x28 b0  σ29 _ h) (fun r31 σ30 h => ?_)
                      refine X_iload dX12_buy_88 rfl ?_
                      refine X_iand dX12_buy_90 ?_
                      refine bd_j h (fun J97 e97 h => ?_)
                      have j97 : ∀ (x32 : Int32) (σ33 : Sg) , J97 x32 σ33 → Ex mX12_buy 6 false (0, 0) sx G0 97 [some (.ref 60), some (.int a0), some (.int b0), some (.int c0), some (.int x11), some (.int x12), some (.int x13), some (.int x32), some (.int x28)] [] σ33 (qI Q) := by
                        intro x32 σ33  h
                        subst e97
                        replace h := h
                        refine X_iinc (v := (x28 + 1)) (L' := [some (.ref 60), some (.int a0), some (.int b0), some (.int c0), some (.int x11), some (.int x12), some (.int x13), some (.int x32), some (.int (x28 + 1))]) dX12_buy_97 rfl rfl (by decide) rfl ?_
                        refine X_goto (tgt := 72) dX12_buy_100 (by decide) ?_
                        exact ih72 _ _ _  h
                      refine X_if_eq (tgt := 97) dX12_buy_91 (by decide) h (fun h => ?_) (fun h => ?_)
                      · exact j97 _ _  h
                      · refine X_iinc (v := (x27 + 1)) (L' := [some (.ref 60), some (.int a0), some (.int b0), some (.int c0), some (.int x11), some (.int x12), some (.int x13), some (.int (x27 + 1)), some (.int x28)]) dX12_buy_94 rfl rfl (by decide) rfl ?_
                        exact j97 _ _  h
                exact key72 _ _ _ _  h
              · refine X_goto (tgt := 141) dX12_buy_63 (by decide) ?_
                exact j141 _ _ _  h
        exact key43 _ _ _ _ _  h
      · refine X_iconst (v := -1) dX12_buy_28 iconst_m1 ?_
        exact X_reti rfl dX12_buy_29 h
def w_X12_rowFault (a0 : Int32) (σ : Sg) (Q : Int32 → Sg → Prop) : Prop := vp_in a0 6 ∧ if (σ.1 91 (Int32.toNatClampNeg a0)) = (-1 : Int32) then (Q (-11 : Int32) σ) else (vp_in a0 6 ∧ if (σ.1 91 (Int32.toNatClampNeg a0)) = (-2 : Int32) then (Q (0 : Int32) σ) else (Q (-12 : Int32) σ))
set_option maxRecDepth 100000 in
set_option maxHeartbeats 4000000 in
theorem s_X12_rowFault (sx : Nat × (Nat → Int32)) (a0 : Int32) (σ : Sg) (Q : Int32 → Sg → Prop) (h : w_X12_rowFault a0 σ Q) : Ct mX12_rowFault 0 false (0, 0) sx G0 [.ref 60, .int a0] σ (qI Q) := by
  refine Ct.of (L := [some (.ref 60), some (.int a0)]) (by decide) (Nat.le_of_ble_eq_true rfl) rfl ?_
  unfold w_X12_rowFault at h
  refine X_aload_n dX12_rowFault_0 rfl rfl ?_
  refine X_get (v := .ref 91) ck_X12 f_X12_104 g_60 rfl (fun _ => rfl) dX12_rowFault_1 ?_
  refine X_iload_n dX12_rowFault_4 rfl rfl ?_
  refine X_iald g_91 dX12_rowFault_5 h (fun h => ?_)
  refine X_iconst (v := -1) dX12_rowFault_6 iconst_m1 ?_
  refine X_icmp_ne (tgt := 15) dX12_rowFault_7 (by decide) h (fun h => ?_) (fun h => ?_)
  · refine X_aload_n dX12_rowFault_15 rfl rfl ?_
    refine X_get (v := .ref 91) ck_X12 f_X12_104 g_60 rfl (fun _ => rfl) dX12_rowFault_16 ?_
    refine X_iload_n dX12_rowFault_19 rfl rfl ?_
    refine X_iald g_91 dX12_rowFault_20 h (fun h => ?_)
    refine X_bipush (v := -2) dX12_rowFault_21 bipush_m2 ?_
    refine X_icmp_ne (tgt := 30) dX12_rowFault_23 (by decide) h (fun h => ?_) (fun h => ?_)
    · refine X_bipush (v := -12) dX12_rowFault_30 bipush_m12 ?_
      exact X_reti rfl dX12_rowFault_32 h
    · refine X_iconst (v := 0) dX12_rowFault_26 iconst_0 ?_
      refine X_goto (tgt := 32) dX12_rowFault_27 (by decide) ?_
      exact X_reti rfl dX12_rowFault_32 h
  · refine X_bipush (v := -11) dX12_rowFault_10 bipush_m11 ?_
    refine X_goto (tgt := 32) dX12_rowFault_12 (by decide) ?_
    exact X_reti rfl dX12_rowFault_32 h
def w_X12_at (a0 : Int32) (b0 : Int32) (σ : Sg) (Q : Int32 → Sg → Prop) : Prop := vp_in (((60 : Int32) * a0) + b0) 360 ∧ Q (Int64.toInt32 (σ.2 93 (Int32.toNatClampNeg (((60 : Int32) * a0) + b0)))) σ
set_option maxRecDepth 100000 in
set_option maxHeartbeats 4000000 in
theorem s_X12_at (sx : Nat × (Nat → Int32)) (a0 : Int32) (b0 : Int32) (σ : Sg) (Q : Int32 → Sg → Prop) (h : w_X12_at a0 b0 σ Q) : Ct mX12_at 0 false (0, 0) sx G0 [.ref 60, .int a0, .int b0] σ (qI Q) := by
  refine Ct.of (L := [some (.ref 60), some (.int a0), some (.int b0)]) (by decide) (Nat.le_of_ble_eq_true rfl) rfl ?_
  unfold w_X12_at at h
  refine X_aload_n dX12_at_0 rfl rfl ?_
  refine X_get (v := .ref 93) ck_X12 f_X12_110 g_60 rfl (fun _ => rfl) dX12_at_1 ?_
  refine X_bipush (v := 60) dX12_at_4 bipush_60 ?_
  refine X_iload_n dX12_at_6 rfl rfl ?_
  refine X_imul dX12_at_7 ?_
  refine X_iload_n dX12_at_8 rfl rfl ?_
  refine X_iadd dX12_at_9 ?_
  refine X_lald g_93 dX12_at_10 h (fun h => ?_)
  refine X_l2i dX12_at_11 ?_
  exact X_reti rfl dX12_at_12 h
def w_X12_wrongTwo_l38 (a0 : Int32) (Q : Int32 → Sg → Prop) : Nat → Int32 → Sg → Prop
  | 0, _, _ => False
  | n38 + 1, x3, σ4 => if (20 : Int32) ≤ x3 then (Q (-2 : Int32) σ4) else (vp_in a0 6 ∧ if (σ4.1 92 (Int32.toNatClampNeg a0)) ≤ ((2 : Int32) * x3) then (Q (-2 : Int32) σ4) else (vp_in a0 6 ∧ if (σ4.1 92 (Int32.toNatClampNeg a0)) ≤ (((2 : Int32) * x3) + (1 : Int32)) then (Q x3 σ4) else (w_X12_at a0 ((2 : Int32) * x3) σ4 (fun r6 σ5 => w_X12_areHours r6 σ5 (fun r8 σ7 => if r8 = 0 then (Q x3 σ7) else (w_X12_at a0 (((2 : Int32) * x3) + (1 : Int32)) σ7 (fun r10 σ9 => w_X12_isPlace r10 σ9 (fun r12 σ11 => if r12 = 0 then (Q x3 σ11) else (w_X12_at a0 ((2 : Int32) * x3) σ11 (fun r14 σ13 => vp_in r14 366 ∧ w_X12_at a0 (((2 : Int32) * x3) + (1 : Int32)) σ13 (fun r16 σ15 => vp_in r16 8 ∧ w_X12_nearTo (σ13.1 80 (Int32.toNatClampNeg r14)) (σ15.1 65 (Int32.toNatClampNeg r16)) σ15 (fun r18 σ17 => if r18 = 0 then (Q x3 σ17) else (w_X12_wrongTwo_l38 a0 Q n38 (x3 + 1) σ17)))))))))))))
def w_X12_wrongTwo_l7 (b0 : Int32) (J36 : Sg → Prop) : Nat → Int32 → Sg → Prop
  | 0, _, _ => False
  | n7 + 1, x19, σ20 => if (60 : Int32) < x19 then (J36 σ20) else (vp_in x19 366 ∧ bd (sI σ20 80 (Int32.toNatClampNeg x19) (σ20.1 60 30)) fun σ21 => w_X12_goHour b0 x19 (0 : Int32) σ21 (fun  σ22 => w_X12_wrongTwo_l7 b0 J36 n7 (x19 + 1) σ22))
def w_X12_wrongTwo (a0 : Int32) (b0 : Int32) (σ : Sg) (Q : Int32 → Sg → Prop) : Prop := w_X12_layNow b0 σ (fun  σ1 => bd (fun (σ2 : Sg) => ∃ n, w_X12_wrongTwo_l38 a0 Q n (0 : Int32) σ2) fun J36 => ∃ n, w_X12_wrongTwo_l7 b0 J36 n (0 : Int32) σ1)
set_option maxRecDepth 100000 in
set_option maxHeartbeats 4000000 in
theorem s_X12_wrongTwo (sx : Nat × (Nat → Int32)) (a0 : Int32) (b0 : Int32) (σ : Sg) (Q : Int32 → Sg → Prop) (h : w_X12_wrongTwo a0 b0 σ Q) : Ct mX12_wrongTwo 5 false (0, 0) sx G0 [.ref 60, .int a0, .int b0] σ (qI Q) := by
  refine Ct.of (L := [some (.ref 60), some (.int a0), some (.int b0), none]) (by decide) (Nat.le_of_ble_eq_true rfl) rfl ?_
  unfold w_X12_wrongTwo at h
  refine X_aload_n dX12_wrongTwo_0 rfl rfl ?_
  refine X_iload_n dX12_wrongTwo_1 rfl rfl ?_
  refine X_callVv [.int b0] [] c_X12_layNow v_X12_layNow lk_X12_283 dX12_wrongTwo_2 g_60 rfl rfl rfl (by decide) (Nat.le_of_ble_eq_true rfl) rfl (s_X12_layNow sx b0  σ _ h) (fun  σ1 h => ?_)
  refine X_iconst (v := 0) dX12_wrongTwo_5 iconst_0 ?_
  refine X_istore_n (L' := [some (.ref 60), some (.int a0), some (.int b0), some (.int (0 : Int32))]) dX12_wrongTwo_6 rfl (by decide) rfl ?_
  refine bd_j h (fun J36 e36 h => ?_)
  have j36 : ∀ (σ2 : Sg) , J36  σ2 → Ex mX12_wrongTwo 5 false (0, 0) sx G0 36 [some (.ref 60), some (.int a0), none, none] [] σ2 (qI Q) := by
    intro  σ2  h
    subst e36
    replace h := h
    refine X_iconst (v := 0) dX12_wrongTwo_36 iconst_0 ?_
    refine X_istore_n (L' := [some (.ref 60), some (.int a0), none, some (.int (0 : Int32))]) dX12_wrongTwo_37 rfl (by decide) rfl ?_
    obtain ⟨n38, h⟩ := h
    have key38 : ∀ (n : Nat) (x3 : Int32) (σ4 : Sg) , w_X12_wrongTwo_l38 a0 Q n x3 σ4 → Ex mX12_wrongTwo 5 false (0, 0) sx G0 38 [some (.ref 60), some (.int a0), none, some (.int x3)] [] σ4 (qI Q) := by
      intro n38
      induction n38 with
      | zero => intro _ _  h; exact h.elim
      | succ n38 ih38 =>
        intro x3 σ4  h
        unfold w_X12_wrongTwo_l38 at h
        refine X_iload_n dX12_wrongTwo_38 rfl rfl ?_
        refine X_bipush (v := 20) dX12_wrongTwo_39 bipush_20 ?_
        refine X_icmp_ge (tgt := 146) dX12_wrongTwo_41 (by decide) h (fun h => ?_) (fun h => ?_)
        · refine X_bipush (v := -2) dX12_wrongTwo_146 bipush_m2 ?_
          exact X_reti rfl dX12_wrongTwo_148 h
        · refine X_iconst (v := 2) dX12_wrongTwo_44 iconst_2 ?_
          refine X_iload_n dX12_wrongTwo_45 rfl rfl ?_
          refine X_imul dX12_wrongTwo_46 ?_
          refine X_aload_n dX12_wrongTwo_47 rfl rfl ?_
          refine X_get (v := .ref 92) ck_X12 f_X12_107 g_60 rfl (fun _ => rfl) dX12_wrongTwo_48 ?_
          refine X_iload_n dX12_wrongTwo_51 rfl rfl ?_
          refine X_iald g_92 dX12_wrongTwo_52 h (fun h => ?_)
          refine X_icmp_ge (tgt := 146) dX12_wrongTwo_53 (by decide) h (fun h => ?_) (fun h => ?_)
          · refine X_bipush (v := -2) dX12_wrongTwo_146 bipush_m2 ?_
            exact X_reti rfl dX12_wrongTwo_148 h
          · refine X_iconst (v := 2) dX12_wrongTwo_56 iconst_2 ?_
            refine X_iload_n dX12_wrongTwo_57 rfl rfl ?_
            refine X_imul dX12_wrongTwo_58 ?_
            refine X_iconst (v := 1) dX12_wrongTwo_59 iconst_1 ?_
            refine X_iadd dX12_wrongTwo_60 ?_
            refine X_aload_n dX12_wrongTwo_61 rfl rfl ?_
            refine X_get (v := .ref 92) ck_X12 f_X12_107 g_60 rfl (fun _ => rfl) dX12_wrongTwo_62 ?_
            refine X_iload_n dX12_wrongTwo_65 rfl rfl ?_
            refine X_iald g_92 dX12_wrongTwo_66 h (fun h => ?_)
            refine X_icmp_ge (tgt := 101) dX12_wrongTwo_67 (by decide) h (fun h => ?_) (fun h => ?_)
            · refine X_iload_n dX12_wrongTwo_101 rfl rfl ?_
              exact X_reti rfl dX12_wrongTwo_102 h
            · refine X_aload_n dX12_wrongTwo_70 rfl rfl ?_
              refine X_iload_n dX12_wrongTwo_71 rfl rfl ?_
              refine X_iconst (v := 2) dX12_wrongTwo_72 iconst_2 ?_
              refine X_iload_n dX12_wrongTwo_73 rfl rfl ?_
              refine X_imul dX12_wrongTwo_74 ?_
              refine X_callVi [.int a0, .int ((2 : Int32) * x3)] [] c_X12_at v_X12_at lk_X12_329 dX12_wrongTwo_75 g_60 rfl rfl rfl (by decide) (Nat.le_of_ble_eq_true rfl) rfl (s_X12_at sx a0 ((2 : Int32) * x3)  σ4 _ h) (fun r6 σ5 h => ?_)
              refine X_callSi [.int r6] [] c_X12_areHours t_X12_areHours lk_X12_290 dX12_wrongTwo_78 rfl (by decide) (Nat.le_of_ble_eq_true rfl) rfl (s_X12_areHours sx r6  σ5 _ h) (fun r8 σ7 h => ?_)
              refine X_if_eq (tgt := 101) dX12_wrongTwo_81 (by decide) h (fun h => ?_) (fun h => ?_)
              · refine X_iload_n dX12_wrongTwo_101 rfl rfl ?_
                exact X_reti rfl dX12_wrongTwo_102 h
              · refine X_aload_n dX12_wrongTwo_84 rfl rfl ?_
                refine X_aload_n dX12_wrongTwo_85 rfl rfl ?_
                refine X_iload_n dX12_wrongTwo_86 rfl rfl ?_
                refine X_iconst (v := 2) dX12_wrongTwo_87 iconst_2 ?_
                refine X_iload_n dX12_wrongTwo_88 rfl rfl ?_
                refine X_imul dX12_wrongTwo_89 ?_
                refine X_iconst (v := 1) dX12_wrongTwo_90 iconst_1 ?_
                refine X_iadd dX12_wrongTwo_91 ?_
                refine X_callVi [.int a0, .int (((2 : Int32) * x3) + (1 : Int32))] [.ref 60] c_X12_at v_X12_at lk_X12_329 dX12_wrongTwo_92 g_60 rfl rfl rfl (by decide) (Nat.le_of_ble_eq_true rfl) rfl (s_X12_at sx a0 (((2 : Int32) * x3) + (1 : Int32))  σ7 _ h) (fun r10 σ9 h => ?_)
                refine X_callVi [.int r10] [] c_X12_isPlace v_X12_isPlace lk_X12_139 dX12_wrongTwo_95 g_60 rfl rfl rfl (by decide) (Nat.le_of_ble_eq_true rfl) rfl (s_X12_isPlace sx r10  σ9 _ h) (fun r12 σ11 h => ?_)
                refine X_if_ne (tgt := 103) dX12_wrongTwo_98 (by decide) h (fun h => ?_) (fun h => ?_)
                · refine X_aload_n dX12_wrongTwo_103 rfl rfl ?_
                  refine X_aload_n dX12_wrongTwo_104 rfl rfl ?_
                  refine X_get (v := .ref 80) ck_X12 f_X12_71 g_60 rfl (fun _ => rfl) dX12_wrongTwo_105 ?_
                  refine X_aload_n dX12_wrongTwo_108 rfl rfl ?_
                  refine X_iload_n dX12_wrongTwo_109 rfl rfl ?_
                  refine X_iconst (v := 2) dX12_wrongTwo_110 iconst_2 ?_
                  refine X_iload_n dX12_wrongTwo_111 rfl rfl ?_
                  refine X_imul dX12_wrongTwo_112 ?_
                  refine X_callVi [.int a0, .int ((2 : Int32) * x3)] [.ref 80, .ref 60] c_X12_at v_X12_at lk_X12_329 dX12_wrongTwo_113 g_60 rfl rfl rfl (by decide) (Nat.le_of_ble_eq_true rfl) rfl (s_X12_at sx a0 ((2 : Int32) * x3)  σ11 _ h) (fun r14 σ13 h => ?_)
                  refine X_iald g_80 dX12_wrongTwo_116 h (fun h => ?_)
                  refine X_aload_n dX12_wrongTwo_117 rfl rfl ?_
                  refine X_get (v := .ref 65) ck_X12 f_X12_24 g_60 rfl (fun _ => rfl) dX12_wrongTwo_118 ?_
                  refine X_aload_n dX12_wrongTwo_121 rfl rfl ?_
                  refine X_iload_n dX12_wrongTwo_122 rfl rfl ?_
                  refine X_iconst (v := 2) dX12_wrongTwo_123 iconst_2 ?_
                  refine X_iload_n dX12_wrongTwo_124 rfl rfl ?_
                  refine X_imul dX12_wrongTwo_125 ?_
                  refine X_iconst (v := 1) dX12_wrongTwo_126 iconst_1 ?_
                  refine X_iadd dX12_wrongTwo_127 ?_
                  refine X_callVi [.int a0, .int (((2 : Int32) * x3) + (1 : Int32))] [.ref 65, .int (σ13.1 80 (Int32.toNatClampNeg r14)), .ref 60] c_X12_at v_X12_at lk_X12_329 dX12_wrongTwo_128 g_60 rfl rfl rfl (by decide) (Nat.le_of_ble_eq_true rfl) rfl (s_X12_at sx a0 (((2 : Int32) * x3) + (1 : Int32))  σ13 _ h) (fun r16 σ15 h => ?_)
                  refine X_iald g_65 dX12_wrongTwo_131 h (fun h => ?_)
                  refine X_callVi [.int (σ13.1 80 (Int32.toNatClampNeg r14)), .int (σ15.1 65 (Int32.toNatClampNeg r16))] [] c_X12_nearTo v_X12_nearTo lk_X12_305 dX12_wrongTwo_132 g_60 rfl rfl rfl (by decide) (Nat.le_of_ble_eq_true rfl) rfl (s_X12_nearTo sx (σ13.1 80 (Int32.toNatClampNeg r14)) (σ15.1 65 (Int32.toNatClampNeg r16))  σ15 _ h) (fun r18 σ17 h => ?_)
                  refine X_if_ne (tgt := 140) dX12_wrongTwo_135 (by decide) h (fun h => ?_) (fun h => ?_)
                  · refine X_iinc (v := (x3 + 1)) (L' := [some (.ref 60), some (.int a0), none, some (.int (x3 + 1))]) dX12_wrongTwo_140 rfl rfl (by decide) rfl ?_
                    refine X_goto (tgt := 38) dX12_wrongTwo_143 (by decide) ?_
                    exact ih38 _ _  h
                  · refine X_iload_n dX12_wrongTwo_138 rfl rfl ?_
                    exact X_reti rfl dX12_wrongTwo_139 h
                · refine X_iload_n dX12_wrongTwo_101 rfl rfl ?_
                  exact X_reti rfl dX12_wrongTwo_102 h
    exact key38 _ _ _  h
  obtain ⟨n7, h⟩ := h
  have key7 : ∀ (n : Nat) (x19 : Int32) (σ20 : Sg) , w_X12_wrongTwo_l7 b0 J36 n x19 σ20 → Ex mX12_wrongTwo 5 false (0, 0) sx G0 7 [some (.ref 60), some (.int a0), some (.int b0), some (.int x19)] [] σ20 (qI Q) := by
    intro n7
    induction n7 with
    | zero => intro _ _  h; exact h.elim
    | succ n7 ih7 =>
      intro x19 σ20  h
      unfold w_X12_wrongTwo_l7 at h
      refine X_iload_n dX12_wrongTwo_7 rfl rfl ?_
      refine X_bipush (v := 60) dX12_wrongTwo_8 bipush_60 ?_
      refine X_icmp_gt (tgt := 36) dX12_wrongTwo_10 (by decide) h (fun h => ?_) (fun h => ?_)
      · refine X_drop (L' := [some (.ref 60), some (.int a0), none, none]) ⟨rfl, ⟨rfl, trivial⟩⟩ ?_
        exact j36 _  h
      · refine X_aload_n dX12_wrongTwo_13 rfl rfl ?_
        refine X_get (v := .ref 80) ck_X12 f_X12_71 g_60 rfl (fun _ => rfl) dX12_wrongTwo_14 ?_
        refine X_iload_n dX12_wrongTwo_17 rfl rfl ?_
        refine X_aload_n dX12_wrongTwo_18 rfl rfl ?_
        refine X_get (v := .int (σ20.1 60 30)) ck_X12 f_X12_262 g_60 rfl (fun _ => rfl) dX12_wrongTwo_19 ?_
        refine X_iast g_80 dX12_wrongTwo_22 h (fun σ21 h => ?_)
        refine X_aload_n dX12_wrongTwo_23 rfl rfl ?_
        refine X_iload_n dX12_wrongTwo_24 rfl rfl ?_
        refine X_iload_n dX12_wrongTwo_25 rfl rfl ?_
        refine X_iconst (v := 0) dX12_wrongTwo_26 iconst_0 ?_
        refine X_callVv [.int b0, .int x19, .int (0 : Int32)] [] c_X12_goHour v_X12_goHour lk_X12_287 dX12_wrongTwo_27 g_60 rfl rfl rfl (by decide) (Nat.le_of_ble_eq_true rfl) rfl (s_X12_goHour sx b0 x19 (0 : Int32)  σ21 _ h) (fun  σ22 h => ?_)
        refine X_iinc (v := (x19 + 1)) (L' := [some (.ref 60), some (.int a0), some (.int b0), some (.int (x19 + 1))]) dX12_wrongTwo_30 rfl rfl (by decide) rfl ?_
        refine X_goto (tgt := 7) dX12_wrongTwo_33 (by decide) ?_
        exact ih7 _ _  h
  exact key7 _ _ _  h
def w_X12_judge (a0 : Int32) (b0 : Int32) (σ : Sg) (Q : Int32 → Sg → Prop) : Prop := w_X12_isShelf a0 σ (fun r2 σ1 => if r2 = 0 then (Q (-1 : Int32) σ1) else (w_X12_isCarriage b0 σ1 (fun r4 σ3 => if r4 = 0 then (Q (-1 : Int32) σ3) else (w_X12_rowFault a0 σ3 (fun r6 σ5 => if 0 ≤ r6 then (w_X12_wrongTwo a0 b0 σ5 (fun r8 σ7 => Q r8 σ7)) else (w_X12_rowFault a0 σ5 (fun r10 σ9 => Q r10 σ9)))))))
set_option maxRecDepth 100000 in
set_option maxHeartbeats 4000000 in
theorem s_X12_judge (sx : Nat × (Nat → Int32)) (a0 : Int32) (b0 : Int32) (σ : Sg) (Q : Int32 → Sg → Prop) (h : w_X12_judge a0 b0 σ Q) : Ct mX12_judge 6 false (0, 0) sx G0 [.ref 60, .int a0, .int b0] σ (qI Q) := by
  refine Ct.of (L := [some (.ref 60), some (.int a0), some (.int b0)]) (by decide) (Nat.le_of_ble_eq_true rfl) rfl ?_
  unfold w_X12_judge at h
  refine X_iload_n dX12_judge_0 rfl rfl ?_
  refine X_callSi [.int a0] [] c_X12_isShelf t_X12_isShelf lk_X12_149 dX12_judge_1 rfl (by decide) (Nat.le_of_ble_eq_true rfl) rfl (s_X12_isShelf sx a0  σ _ h) (fun r2 σ1 h => ?_)
  refine X_if_eq (tgt := 15) dX12_judge_4 (by decide) h (fun h => ?_) (fun h => ?_)
  · refine X_iconst (v := -1) dX12_judge_15 iconst_m1 ?_
    exact X_reti rfl dX12_judge_16 h
  · refine X_aload_n dX12_judge_7 rfl rfl ?_
    refine X_iload_n dX12_judge_8 rfl rfl ?_
    refine X_callVi [.int b0] [] c_X12_isCarriage v_X12_isCarriage lk_X12_135 dX12_judge_9 g_60 rfl rfl rfl (by decide) (Nat.le_of_ble_eq_true rfl) rfl (s_X12_isCarriage sx b0  σ1 _ h) (fun r4 σ3 h => ?_)
    refine X_if_ne (tgt := 17) dX12_judge_12 (by decide) h (fun h => ?_) (fun h => ?_)
    · refine X_aload_n dX12_judge_17 rfl rfl ?_
      refine X_iload_n dX12_judge_18 rfl rfl ?_
      refine X_callVi [.int a0] [] c_X12_rowFault v_X12_rowFault lk_X12_332 dX12_judge_19 g_60 rfl rfl rfl (by decide) (Nat.le_of_ble_eq_true rfl) rfl (s_X12_rowFault sx a0  σ3 _ h) (fun r6 σ5 h => ?_)
      refine X_if_ge (tgt := 33) dX12_judge_22 (by decide) h (fun h => ?_) (fun h => ?_)
      · refine X_aload_n dX12_judge_33 rfl rfl ?_
        refine X_iload_n dX12_judge_34 rfl rfl ?_
        refine X_iload_n dX12_judge_35 rfl rfl ?_
        refine X_callVi [.int a0, .int b0] [] c_X12_wrongTwo v_X12_wrongTwo lk_X12_335 dX12_judge_36 g_60 rfl rfl rfl (by decide) (Nat.le_of_ble_eq_true rfl) rfl (s_X12_wrongTwo sx a0 b0  σ5 _ h) (fun r8 σ7 h => ?_)
        exact X_reti rfl dX12_judge_39 h
      · refine X_aload_n dX12_judge_25 rfl rfl ?_
        refine X_iload_n dX12_judge_26 rfl rfl ?_
        refine X_callVi [.int a0] [] c_X12_rowFault v_X12_rowFault lk_X12_332 dX12_judge_27 g_60 rfl rfl rfl (by decide) (Nat.le_of_ble_eq_true rfl) rfl (s_X12_rowFault sx a0  σ5 _ h) (fun r10 σ9 h => ?_)
        refine X_goto (tgt := 39) dX12_judge_30 (by decide) ?_
        exact X_reti rfl dX12_judge_39 h
    · refine X_iconst (v := -1) dX12_judge_15 iconst_m1 ?_
      exact X_reti rfl dX12_judge_16 h
def w_X12_dinedWays_l13 (a0 : Int32) (b0 : Int32) (J52 : Int32 → Sg → Prop) : Nat → Int32 → Int32 → Sg → Prop
  | 0, _, _, _ => False
  | n13 + 1, x5, x6, σ7 => if (8 : Int32) ≤ x6 then (J52 x5 σ7) else (vp_in b0 6 ∧ bd (sI σ7 62 (Int32.toNatClampNeg b0) x6) fun σ8 => w_X12_wrongTwo a0 b0 σ8 (fun r10 σ9 => bd (fun (x11 : Int32) (σ12 : Sg) => w_X12_dinedWays_l13 a0 b0 J52 n13 x11 (x6 + 1) σ12) fun J46 => if 0 ≤ r10 then (J46 x5 σ9) else (bd (x5 ||| ((1 : Int32) <<< (x6 &&& 31))) fun x13 => J46 x13 σ9)))
def w_X12_dinedWays (a0 : Int32) (b0 : Int32) (σ : Sg) (Q : Int32 → Sg → Prop) : Prop := vp_in b0 6 ∧ bd (σ.1 62 (Int32.toNatClampNeg b0)) fun x1 => bd (fun (x2 : Int32) (σ3 : Sg) => vp_in b0 6 ∧ bd (sI σ3 62 (Int32.toNatClampNeg b0) x1) fun σ4 => Q x2 σ4) fun J52 => ∃ n, w_X12_dinedWays_l13 a0 b0 J52 n (0 : Int32) (0 : Int32) σ
set_option maxRecDepth 100000 in
set_option maxHeartbeats 4000000 in
theorem s_X12_dinedWays (sx : Nat × (Nat → Int32)) (a0 : Int32) (b0 : Int32) (σ : Sg) (Q : Int32 → Sg → Prop) (h : w_X12_dinedWays a0 b0 σ Q) : Ct mX12_dinedWays 6 false (0, 0) sx G0 [.ref 60, .int a0, .int b0] σ (qI Q) := by
  refine Ct.of (L := [some (.ref 60), some (.int a0), some (.int b0), none, none, none]) (by decide) (Nat.le_of_ble_eq_true rfl) rfl ?_
  unfold w_X12_dinedWays at h
  refine X_aload_n dX12_dinedWays_0 rfl rfl ?_
  refine X_get (v := .ref 62) ck_X12 f_X12_15 g_60 rfl (fun _ => rfl) dX12_dinedWays_1 ?_
  refine X_iload_n dX12_dinedWays_4 rfl rfl ?_
  refine X_iald g_62 dX12_dinedWays_5 h (fun h => ?_)
  refine X_topI h (fun x1 h => ?_)
  refine X_istore_n (L' := [some (.ref 60), some (.int a0), some (.int b0), some (.int x1), none, none]) dX12_dinedWays_6 rfl (by decide) rfl ?_
  refine X_iconst (v := 0) dX12_dinedWays_7 iconst_0 ?_
  refine X_istore (L' := [some (.ref 60), some (.int a0), some (.int b0), some (.int x1), some (.int (0 : Int32)), none]) dX12_dinedWays_8 (by decide) rfl ?_
  refine X_iconst (v := 0) dX12_dinedWays_10 iconst_0 ?_
  refine X_istore (L' := [some (.ref 60), some (.int a0), some (.int b0), some (.int x1), some (.int (0 : Int32)), some (.int (0 : Int32))]) dX12_dinedWays_11 (by decide) rfl ?_
  refine bd_j h (fun J52 e52 h => ?_)
  have j52 : ∀ (x2 : Int32) (σ3 : Sg) , J52 x2 σ3 → Ex mX12_dinedWays 6 false (0, 0) sx G0 52 [some (.ref 60), none, some (.int b0), some (.int x1), some (.int x2), none] [] σ3 (qI Q) := by
    intro x2 σ3  h
    subst e52
    replace h := h
    refine X_aload_n dX12_dinedWays_52 rfl rfl ?_
    refine X_get (v := .ref 62) ck_X12 f_X12_15 g_60 rfl (fun _ => rfl) dX12_dinedWays_53 ?_
    refine X_iload_n dX12_dinedWays_56 rfl rfl ?_
    refine X_iload_n dX12_dinedWays_57 rfl rfl ?_
    refine X_iast g_62 dX12_dinedWays_58 h (fun σ4 h => ?_)
    refine X_iload dX12_dinedWays_59 rfl ?_
    exact X_reti rfl dX12_dinedWays_61 h
  obtain ⟨n13, h⟩ := h
  have key13 : ∀ (n : Nat) (x5 : Int32) (x6 : Int32) (σ7 : Sg) , w_X12_dinedWays_l13 a0 b0 J52 n x5 x6 σ7 → Ex mX12_dinedWays 6 false (0, 0) sx G0 13 [some (.ref 60), some (.int a0), some (.int b0), some (.int x1), some (.int x5), some (.int x6)] [] σ7 (qI Q) := by
    intro n13
    induction n13 with
    | zero => intro _ _ _  h; exact h.elim
    | succ n13 ih13 =>
      intro x5 x6 σ7  h
      unfold w_X12_dinedWays_l13 at h
      refine X_iload dX12_dinedWays_13 rfl ?_
      refine X_bipush (v := 8) dX12_dinedWays_15 bipush_8 ?_
      refine X_icmp_ge (tgt := 52) dX12_dinedWays_17 (by decide) h (fun h => ?_) (fun h => ?_)
      · refine X_drop (L' := [some (.ref 60), none, some (.int b0), some (.int x1), some (.int x5), none]) ⟨rfl, ⟨rfl, ⟨rfl, ⟨rfl, trivial⟩⟩⟩⟩ ?_
        exact j52 _ _  h
      · refine X_aload_n dX12_dinedWays_20 rfl rfl ?_
        refine X_get (v := .ref 62) ck_X12 f_X12_15 g_60 rfl (fun _ => rfl) dX12_dinedWays_21 ?_
        refine X_iload_n dX12_dinedWays_24 rfl rfl ?_
        refine X_iload dX12_dinedWays_25 rfl ?_
        refine X_iast g_62 dX12_dinedWays_27 h (fun σ8 h => ?_)
        refine X_aload_n dX12_dinedWays_28 rfl rfl ?_
        refine X_iload_n dX12_dinedWays_29 rfl rfl ?_
        refine X_iload_n dX12_dinedWays_30 rfl rfl ?_
        refine X_callVi [.int a0, .int b0] [] c_X12_wrongTwo v_X12_wrongTwo lk_X12_335 dX12_dinedWays_31 g_60 rfl rfl rfl (by decide) (Nat.le_of_ble_eq_true rfl) rfl (s_X12_wrongTwo sx a0 b0  σ8 _ h) (fun r10 σ9 h => ?_)
        refine bd_j h (fun J46 e46 h => ?_)
        have j46 : ∀ (x11 : Int32) (σ12 : Sg) , J46 x11 σ12 → Ex mX12_dinedWays 6 false (0, 0) sx G0 46 [some (.ref 60), some (.int a0), some (.int b0), some (.int x1), some (.int x11), some (.int x6)] [] σ12 (qI Q) := by
          intro x11 σ12  h
          subst e46
          replace h := h
          refine X_iinc (v := (x6 + 1)) (L' := [some (.ref 60), some (.int a0), some (.int b0), some (.int x1), some (.int x11), some (.int (x6 + 1))]) dX12_dinedWays_46 rfl rfl (by decide) rfl ?_
          refine X_goto (tgt := 13) dX12_dinedWays_49 (by decide) ?_
          exact ih13 _ _ _  h
        refine X_if_ge (tgt := 46) dX12_dinedWays_34 (by decide) h (fun h => ?_) (fun h => ?_)
        · exact j46 _ _  h
        · refine X_iload dX12_dinedWays_37 rfl ?_
          refine X_iconst (v := 1) dX12_dinedWays_39 iconst_1 ?_
          refine X_iload dX12_dinedWays_40 rfl ?_
          refine X_ishl dX12_dinedWays_42 ?_
          refine X_ior dX12_dinedWays_43 ?_
          refine X_topI h (fun x13 h => ?_)
          refine X_istore (L' := [some (.ref 60), some (.int a0), some (.int b0), some (.int x1), some (.int x13), some (.int x6)]) dX12_dinedWays_44 (by decide) rfl ?_
          exact j46 _ _  h
  exact key13 _ _ _ _  h
