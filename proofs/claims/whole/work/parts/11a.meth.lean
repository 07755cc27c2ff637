def w_X0_has (a0 : Int32) (σ : Sg) (Q : Int32 → Sg → Prop) : Prop := if a0 < 0 then (Q (0 : Int32) σ) else (if (σ.1 57 1) ≤ a0 then (Q (0 : Int32) σ) else (Q (1 : Int32) σ))
set_option maxRecDepth 100000 in
set_option maxHeartbeats 4000000 in
theorem s_X0_has (sx : Nat × (Nat → Int32)) (a0 : Int32) (σ : Sg) (Q : Int32 → Sg → Prop) (h : w_X0_has a0 σ Q) : Ct mX0_has 0 false (0, 0) sx G0 [.ref 57, .int a0] σ (qI Q) := by
  refine Ct.of (L := [some (.ref 57), some (.int a0)]) (by decide) (Nat.le_of_ble_eq_true rfl) rfl ?_
  unfold w_X0_has at h
  refine X_iload_n dX0_has_0 rfl rfl ?_
  refine X_if_lt (tgt := 16) dX0_has_1 (by decide) h (fun h => ?_) (fun h => ?_)
  · refine X_iconst (v := 0) dX0_has_16 iconst_0 ?_
    exact X_retz rfl rfl dX0_has_17 h
  · refine X_iload_n dX0_has_4 rfl rfl ?_
    refine X_aload_n dX0_has_5 rfl rfl ?_
    refine X_get (v := .int (σ.1 57 1)) ck_X0 f_X0_18 g_57 rfl (fun _ => rfl) dX0_has_6 ?_
    refine X_icmp_ge (tgt := 16) dX0_has_9 (by decide) h (fun h => ?_) (fun h => ?_)
    · refine X_iconst (v := 0) dX0_has_16 iconst_0 ?_
      exact X_retz rfl rfl dX0_has_17 h
    · refine X_iconst (v := 1) dX0_has_12 iconst_1 ?_
      refine X_goto (tgt := 17) dX0_has_13 (by decide) ?_
      exact X_retz rfl rfl dX0_has_17 h
def w_X0_add (a0 : Int32) (σ : Sg) (Q : Int32 → Sg → Prop) : Prop := if (σ.1 57 1) < (50 : Int32) then (vp_in (σ.1 57 1) 50 ∧ bd (sI σ 58 (Int32.toNatClampNeg (σ.1 57 1)) a0) fun σ1 => bd (sI σ1 57 1 ((σ1.1 57 1) + (1 : Int32))) fun σ2 => Q ((σ2.1 57 1) - (1 : Int32)) σ2) else (Q (-3 : Int32) σ)
set_option maxRecDepth 100000 in
set_option maxHeartbeats 4000000 in
theorem s_X0_add (sx : Nat × (Nat → Int32)) (a0 : Int32) (σ : Sg) (Q : Int32 → Sg → Prop) (h : w_X0_add a0 σ Q) : Ct mX0_add 0 false (0, 0) sx G0 [.ref 57, .int a0] σ (qI Q) := by
  refine Ct.of (L := [some (.ref 57), some (.int a0)]) (by decide) (Nat.le_of_ble_eq_true rfl) rfl ?_
  unfold w_X0_add at h
  refine X_aload_n dX0_add_0 rfl rfl ?_
  refine X_get (v := .int (σ.1 57 1)) ck_X0 f_X0_18 g_57 rfl (fun _ => rfl) dX0_add_1 ?_
  refine X_bipush (v := 50) dX0_add_4 bipush_50 ?_
  refine X_icmp_lt (tgt := 12) dX0_add_6 (by decide) h (fun h => ?_) (fun h => ?_)
  · refine X_aload_n dX0_add_12 rfl rfl ?_
    refine X_get (v := .ref 58) ck_X0 f_X0_11 g_57 rfl (fun _ => rfl) dX0_add_13 ?_
    refine X_aload_n dX0_add_16 rfl rfl ?_
    refine X_get (v := .int (σ.1 57 1)) ck_X0 f_X0_18 g_57 rfl (fun _ => rfl) dX0_add_17 ?_
    refine X_iload_n dX0_add_20 rfl rfl ?_
    refine X_iast g_58 dX0_add_21 h (fun σ1 h => ?_)
    refine X_aload_n dX0_add_22 rfl rfl ?_
    refine X_dup dX0_add_23 rfl ?_
    refine X_get (v := .int (σ1.1 57 1)) ck_X0 f_X0_18 g_57 rfl (fun _ => rfl) dX0_add_24 ?_
    refine X_iconst (v := 1) dX0_add_27 iconst_1 ?_
    refine X_iadd dX0_add_28 ?_
    refine X_putI ck_X0 f_X0_18 rfl g_57 rfl rfl rfl dX0_add_29 h (fun σ2 h => ?_)
    refine X_aload_n dX0_add_32 rfl rfl ?_
    refine X_get (v := .int (σ2.1 57 1)) ck_X0 f_X0_18 g_57 rfl (fun _ => rfl) dX0_add_33 ?_
    refine X_iconst (v := 1) dX0_add_36 iconst_1 ?_
    refine X_isub dX0_add_37 ?_
    exact X_reti rfl dX0_add_38 h
  · refine X_bipush (v := -3) dX0_add_9 bipush_m3 ?_
    exact X_reti rfl dX0_add_11 h
def w_X0_kindOf (a0 : Int32) (σ : Sg) (Q : Int32 → Sg → Prop) : Prop := w_X0_has a0 σ (fun r2 σ1 => if r2 = 0 then (Q (0 : Int32) σ1) else (vp_in a0 50 ∧ Q (σ1.1 58 (Int32.toNatClampNeg a0)) σ1))
set_option maxRecDepth 100000 in
set_option maxHeartbeats 4000000 in
theorem s_X0_kindOf (sx : Nat × (Nat → Int32)) (a0 : Int32) (σ : Sg) (Q : Int32 → Sg → Prop) (h : w_X0_kindOf a0 σ Q) : Ct mX0_kindOf 1 false (0, 0) sx G0 [.ref 57, .int a0] σ (qI Q) := by
  refine Ct.of (L := [some (.ref 57), some (.int a0)]) (by decide) (Nat.le_of_ble_eq_true rfl) rfl ?_
  unfold w_X0_kindOf at h
  refine X_aload_n dX0_kindOf_0 rfl rfl ?_
  refine X_iload_n dX0_kindOf_1 rfl rfl ?_
  refine X_callVi [.int a0] [] c_X0_has v_X0_has lk_X0_22 dX0_kindOf_2 g_57 rfl rfl rfl (by decide) (Nat.le_of_ble_eq_true rfl) rfl (s_X0_has sx a0  σ _ h) (fun r2 σ1 h => ?_)
  refine X_if_eq (tgt := 17) dX0_kindOf_5 (by decide) h (fun h => ?_) (fun h => ?_)
  · refine X_iconst (v := 0) dX0_kindOf_17 iconst_0 ?_
    exact X_reti rfl dX0_kindOf_18 h
  · refine X_aload_n dX0_kindOf_8 rfl rfl ?_
    refine X_get (v := .ref 58) ck_X0 f_X0_11 g_57 rfl (fun _ => rfl) dX0_kindOf_9 ?_
    refine X_iload_n dX0_kindOf_12 rfl rfl ?_
    refine X_iald g_58 dX0_kindOf_13 h (fun h => ?_)
    refine X_goto (tgt := 18) dX0_kindOf_14 (by decide) ?_
    exact X_reti rfl dX0_kindOf_18 h
def w_X11_within (a0 : Int32) (b0 : Int32) (c0 : Int32) (σ : Sg) (Q : Int32 → Sg → Prop) : Prop := if a0 < b0 then (Q (0 : Int32) σ) else (if c0 < a0 then (Q (0 : Int32) σ) else (Q (1 : Int32) σ))
set_option maxRecDepth 100000 in
set_option maxHeartbeats 4000000 in
theorem s_X11_within (sx : Nat × (Nat → Int32)) (a0 : Int32) (b0 : Int32) (c0 : Int32) (σ : Sg) (Q : Int32 → Sg → Prop) (h : w_X11_within a0 b0 c0 σ Q) : Ct mX11_within 0 false (0, 0) sx G0 [.int a0, .int b0, .int c0] σ (qI Q) := by
  refine Ct.of (L := [some (.int a0), some (.int b0), some (.int c0)]) (by decide) (Nat.le_of_ble_eq_true rfl) rfl ?_
  unfold w_X11_within at h
  refine X_iload_n dX11_within_0 rfl rfl ?_
  refine X_iload_n dX11_within_1 rfl rfl ?_
  refine X_icmp_lt (tgt := 14) dX11_within_2 (by decide) h (fun h => ?_) (fun h => ?_)
  · refine X_iconst (v := 0) dX11_within_14 iconst_0 ?_
    exact X_retz rfl rfl dX11_within_15 h
  · refine X_iload_n dX11_within_5 rfl rfl ?_
    refine X_iload_n dX11_within_6 rfl rfl ?_
    refine X_icmp_gt (tgt := 14) dX11_within_7 (by decide) h (fun h => ?_) (fun h => ?_)
    · refine X_iconst (v := 0) dX11_within_14 iconst_0 ?_
      exact X_retz rfl rfl dX11_within_15 h
    · refine X_iconst (v := 1) dX11_within_10 iconst_1 ?_
      refine X_goto (tgt := 15) dX11_within_11 (by decide) ?_
      exact X_retz rfl rfl dX11_within_15 h
def w_X0_isOrUnder_l4 (b0 : Int32) (Q : Int32 → Sg → Prop) : Nat → Int32 → Int32 → Sg → Prop
  | 0, _, _, _ => False
  | n4 + 1, x1, x2, σ3 => if (8 : Int32) ≤ x2 then (Q (0 : Int32) σ3) else (w_X11_within x1 (0 : Int32) (7 : Int32) σ3 (fun r5 σ4 => if r5 = 0 then (Q (0 : Int32) σ4) else (if x1 = b0 then (Q (1 : Int32) σ4) else (vp_in x1 8 ∧ bd ((exC 7) (Int32.toNatClampNeg x1)) fun x6 => w_X0_isOrUnder_l4 b0 Q n4 x6 (x2 + 1) σ4))))
def w_X0_isOrUnder (a0 : Int32) (b0 : Int32) (σ : Sg) (Q : Int32 → Sg → Prop) : Prop := ∃ n, w_X0_isOrUnder_l4 b0 Q n a0 (0 : Int32) σ
set_option maxRecDepth 100000 in
set_option maxHeartbeats 4000000 in
theorem s_X0_isOrUnder (sx : Nat × (Nat → Int32)) (a0 : Int32) (b0 : Int32) (σ : Sg) (Q : Int32 → Sg → Prop) (h : w_X0_isOrUnder a0 b0 σ Q) : Ct mX0_isOrUnder 1 false (0, 0) sx G0 [.int a0, .int b0] σ (qI Q) := by
  refine Ct.of (L := [some (.int a0), some (.int b0), none, none]) (by decide) (Nat.le_of_ble_eq_true rfl) rfl ?_
  unfold w_X0_isOrUnder at h
  refine X_iload_n dX0_isOrUnder_0 rfl rfl ?_
  refine X_istore_n (L' := [some (.int a0), some (.int b0), some (.int a0), none]) dX0_isOrUnder_1 rfl (by decide) rfl ?_
  refine X_iconst (v := 0) dX0_isOrUnder_2 iconst_0 ?_
  refine X_istore_n (L' := [some (.int a0), some (.int b0), some (.int a0), some (.int (0 : Int32))]) dX0_isOrUnder_3 rfl (by decide) rfl ?_
  obtain ⟨n4, h⟩ := h
  have key4 : ∀ (n : Nat) (x1 : Int32) (x2 : Int32) (σ3 : Sg) , w_X0_isOrUnder_l4 b0 Q n x1 x2 σ3 → Ex mX0_isOrUnder 1 false (0, 0) sx G0 4 [none, some (.int b0), some (.int x1), some (.int x2)] [] σ3 (qI Q) := by
    intro n4
    induction n4 with
    | zero => intro _ _ _  h; exact h.elim
    | succ n4 ih4 =>
      intro x1 x2 σ3  h
      unfold w_X0_isOrUnder_l4 at h
      refine X_iload_n dX0_isOrUnder_4 rfl rfl ?_
      refine X_bipush (v := 8) dX0_isOrUnder_5 bipush_8 ?_
      refine X_icmp_ge (tgt := 39) dX0_isOrUnder_7 (by decide) h (fun h => ?_) (fun h => ?_)
      · refine X_iconst (v := 0) dX0_isOrUnder_39 iconst_0 ?_
        exact X_retz rfl rfl dX0_isOrUnder_40 h
      · refine X_iload_n dX0_isOrUnder_10 rfl rfl ?_
        refine X_iconst (v := 0) dX0_isOrUnder_11 iconst_0 ?_
        refine X_bipush (v := 7) dX0_isOrUnder_12 bipush_7 ?_
        refine X_callSNi [.int x1, .int (0 : Int32), .int (7 : Int32)] [] c_X11_within t_X11_within lk_X0_26 dX0_isOrUnder_14 rfl (by decide) (Nat.le_of_ble_eq_true rfl) rfl (s_X11_within sx x1 (0 : Int32) (7 : Int32)  σ3 _ h) (fun r5 σ4 h => ?_)
        refine X_if_eq (tgt := 39) dX0_isOrUnder_17 (by decide) h (fun h => ?_) (fun h => ?_)
        · refine X_iconst (v := 0) dX0_isOrUnder_39 iconst_0 ?_
          exact X_retz rfl rfl dX0_isOrUnder_40 h
        · refine X_iload_n dX0_isOrUnder_20 rfl rfl ?_
          refine X_iload_n dX0_isOrUnder_21 rfl rfl ?_
          refine X_icmp_ne (tgt := 27) dX0_isOrUnder_22 (by decide) h (fun h => ?_) (fun h => ?_)
          · refine X_gets (j := 6) (v := 7) rfl rfl f_X0_30 dX0_isOrUnder_27 ?_
            refine X_iload_n dX0_isOrUnder_30 rfl rfl ?_
            refine X_ialdX (v := 7) (f := (exC 7)) (n := 8) (by decide) rfl rfl dX0_isOrUnder_31 h (fun h => ?_)
            refine X_topI h (fun x6 h => ?_)
            refine X_istore_n (L' := [none, some (.int b0), some (.int x6), some (.int x2)]) dX0_isOrUnder_32 rfl (by decide) rfl ?_
            refine X_iinc (v := (x2 + 1)) (L' := [none, some (.int b0), some (.int x6), some (.int (x2 + 1))]) dX0_isOrUnder_33 rfl rfl (by decide) rfl ?_
            refine X_goto (tgt := 4) dX0_isOrUnder_36 (by decide) ?_
            exact ih4 _ _ _  h
          · refine X_iconst (v := 1) dX0_isOrUnder_25 iconst_1 ?_
            exact X_retz rfl rfl dX0_isOrUnder_26 h
  refine X_drop (L' := [none, some (.int b0), some (.int a0), some (.int (0 : Int32))]) ⟨rfl, ⟨rfl, ⟨rfl, trivial⟩⟩⟩ ?_
  exact key4 _ _ _ _  h
def w_X0_forgetTrace (σ : Sg) (Q : Sg → Prop) : Prop := bd (sI σ 57 3 (0 : Int32)) fun σ1 => Q σ1
set_option maxRecDepth 100000 in
set_option maxHeartbeats 4000000 in
theorem s_X0_forgetTrace (sx : Nat × (Nat → Int32)) (σ : Sg) (Q : Sg → Prop) (h : w_X0_forgetTrace σ Q) : Ct mX0_forgetTrace 0 false (0, 0) sx G0 [.ref 57] σ (qV Q) := by
  refine Ct.of (L := [some (.ref 57)]) (by decide) (Nat.le_of_ble_eq_true rfl) rfl ?_
  unfold w_X0_forgetTrace at h
  refine X_aload_n dX0_forgetTrace_0 rfl rfl ?_
  refine X_iconst (v := 0) dX0_forgetTrace_1 iconst_0 ?_
  refine X_putI ck_X0 f_X0_33 rfl g_57 rfl rfl rfl dX0_forgetTrace_2 h (fun σ1 h => ?_)
  exact X_retv rfl dX0_forgetTrace_5 h
def w_X0_traced (a0 : Int32) (σ : Sg) (Q : Int32 → Sg → Prop) : Prop := if a0 < 0 then (Q (-1 : Int32) σ) else (if (σ.1 57 3) ≤ a0 then (Q (-1 : Int32) σ) else (if (24 : Int32) ≤ a0 then (Q (-1 : Int32) σ) else (vp_in a0 24 ∧ Q (σ.1 59 (Int32.toNatClampNeg a0)) σ)))
set_option maxRecDepth 100000 in
set_option maxHeartbeats 4000000 in
theorem s_X0_traced (sx : Nat × (Nat → Int32)) (a0 : Int32) (σ : Sg) (Q : Int32 → Sg → Prop) (h : w_X0_traced a0 σ Q) : Ct mX0_traced 0 false (0, 0) sx G0 [.ref 57, .int a0] σ (qI Q) := by
  refine Ct.of (L := [some (.ref 57), some (.int a0)]) (by decide) (Nat.le_of_ble_eq_true rfl) rfl ?_
  unfold w_X0_traced at h
  refine X_iload_n dX0_traced_0 rfl rfl ?_
  refine X_if_lt (tgt := 27) dX0_traced_1 (by decide) h (fun h => ?_) (fun h => ?_)
  · refine X_iconst (v := -1) dX0_traced_27 iconst_m1 ?_
    exact X_reti rfl dX0_traced_28 h
  · refine X_iload_n dX0_traced_4 rfl rfl ?_
    refine X_aload_n dX0_traced_5 rfl rfl ?_
    refine X_get (v := .int (σ.1 57 3)) ck_X0 f_X0_33 g_57 rfl (fun _ => rfl) dX0_traced_6 ?_
    refine X_icmp_ge (tgt := 27) dX0_traced_9 (by decide) h (fun h => ?_) (fun h => ?_)
    · refine X_iconst (v := -1) dX0_traced_27 iconst_m1 ?_
      exact X_reti rfl dX0_traced_28 h
    · refine X_iload_n dX0_traced_12 rfl rfl ?_
      refine X_bipush (v := 24) dX0_traced_13 bipush_24 ?_
      refine X_icmp_ge (tgt := 27) dX0_traced_15 (by decide) h (fun h => ?_) (fun h => ?_)
      · refine X_iconst (v := -1) dX0_traced_27 iconst_m1 ?_
        exact X_reti rfl dX0_traced_28 h
      · refine X_aload_n dX0_traced_18 rfl rfl ?_
        refine X_get (v := .ref 59) ck_X0 f_X0_15 g_57 rfl (fun _ => rfl) dX0_traced_19 ?_
        refine X_iload_n dX0_traced_22 rfl rfl ?_
        refine X_iald g_59 dX0_traced_23 h (fun h => ?_)
        refine X_goto (tgt := 28) dX0_traced_24 (by decide) ?_
        exact X_reti rfl dX0_traced_28 h
def w_X0_holderOf_l4 (b0 : Int32) (Q : Int32 → Sg → Prop) : Nat → Int32 → Int32 → Sg → Prop
  | 0, _, _, _ => False
  | n4 + 1, x1, x2, σ3 => if (8 : Int32) ≤ x2 then (Q (-1 : Int32) σ3) else (w_X11_within x1 (0 : Int32) (7 : Int32) σ3 (fun r5 σ4 => if r5 = 0 then (Q (-1 : Int32) σ4) else (vp_in (((4 : Int32) * x1) + b0) 32 ∧ if ((exC 6) (Int32.toNatClampNeg (((4 : Int32) * x1) + b0))) = 0 then (vp_in x1 8 ∧ bd ((exC 7) (Int32.toNatClampNeg x1)) fun x6 => w_X0_holderOf_l4 b0 Q n4 x6 (x2 + 1) σ4) else (Q x1 σ4))))
def w_X0_holderOf (a0 : Int32) (b0 : Int32) (σ : Sg) (Q : Int32 → Sg → Prop) : Prop := ∃ n, w_X0_holderOf_l4 b0 Q n a0 (0 : Int32) σ
set_option maxRecDepth 100000 in
set_option maxHeartbeats 4000000 in
theorem s_X0_holderOf (sx : Nat × (Nat → Int32)) (a0 : Int32) (b0 : Int32) (σ : Sg) (Q : Int32 → Sg → Prop) (h : w_X0_holderOf a0 b0 σ Q) : Ct mX0_holderOf 1 false (0, 0) sx G0 [.int a0, .int b0] σ (qI Q) := by
  refine Ct.of (L := [some (.int a0), some (.int b0), none, none]) (by decide) (Nat.le_of_ble_eq_true rfl) rfl ?_
  unfold w_X0_holderOf at h
  refine X_iload_n dX0_holderOf_0 rfl rfl ?_
  refine X_istore_n (L' := [some (.int a0), some (.int b0), some (.int a0), none]) dX0_holderOf_1 rfl (by decide) rfl ?_
  refine X_iconst (v := 0) dX0_holderOf_2 iconst_0 ?_
  refine X_istore_n (L' := [some (.int a0), some (.int b0), some (.int a0), some (.int (0 : Int32))]) dX0_holderOf_3 rfl (by decide) rfl ?_
  obtain ⟨n4, h⟩ := h
  have key4 : ∀ (n : Nat) (x1 : Int32) (x2 : Int32) (σ3 : Sg) , w_X0_holderOf_l4 b0 Q n x1 x2 σ3 → Ex mX0_holderOf 1 false (0, 0) sx G0 4 [none, some (.int b0), some (.int x1), some (.int x2)] [] σ3 (qI Q) := by
    intro n4
    induction n4 with
    | zero => intro _ _ _  h; exact h.elim
    | succ n4 ih4 =>
      intro x1 x2 σ3  h
      unfold w_X0_holderOf_l4 at h
      refine X_iload_n dX0_holderOf_4 rfl rfl ?_
      refine X_bipush (v := 8) dX0_holderOf_5 bipush_8 ?_
      refine X_icmp_ge (tgt := 46) dX0_holderOf_7 (by decide) h (fun h => ?_) (fun h => ?_)
      · refine X_iconst (v := -1) dX0_holderOf_46 iconst_m1 ?_
        exact X_reti rfl dX0_holderOf_47 h
      · refine X_iload_n dX0_holderOf_10 rfl rfl ?_
        refine X_iconst (v := 0) dX0_holderOf_11 iconst_0 ?_
        refine X_bipush (v := 7) dX0_holderOf_12 bipush_7 ?_
        refine X_callSNi [.int x1, .int (0 : Int32), .int (7 : Int32)] [] c_X11_within t_X11_within lk_X0_26 dX0_holderOf_14 rfl (by decide) (Nat.le_of_ble_eq_true rfl) rfl (s_X11_within sx x1 (0 : Int32) (7 : Int32)  σ3 _ h) (fun r5 σ4 h => ?_)
        refine X_if_eq (tgt := 46) dX0_holderOf_17 (by decide) h (fun h => ?_) (fun h => ?_)
        · refine X_iconst (v := -1) dX0_holderOf_46 iconst_m1 ?_
          exact X_reti rfl dX0_holderOf_47 h
        · refine X_gets (j := 5) (v := 6) rfl rfl f_X0_55 dX0_holderOf_20 ?_
          refine X_iconst (v := 4) dX0_holderOf_23 iconst_4 ?_
          refine X_iload_n dX0_holderOf_24 rfl rfl ?_
          refine X_imul dX0_holderOf_25 ?_
          refine X_iload_n dX0_holderOf_26 rfl rfl ?_
          refine X_iadd dX0_holderOf_27 ?_
          refine X_ialdX (v := 6) (f := (exC 6)) (n := 32) (by decide) rfl rfl dX0_holderOf_28 h (fun h => ?_)
          refine X_if_eq (tgt := 34) dX0_holderOf_29 (by decide) h (fun h => ?_) (fun h => ?_)
          · refine X_gets (j := 6) (v := 7) rfl rfl f_X0_30 dX0_holderOf_34 ?_
            refine X_iload_n dX0_holderOf_37 rfl rfl ?_
            refine X_ialdX (v := 7) (f := (exC 7)) (n := 8) (by decide) rfl rfl dX0_holderOf_38 h (fun h => ?_)
            refine X_topI h (fun x6 h => ?_)
            refine X_istore_n (L' := [none, some (.int b0), some (.int x6), some (.int x2)]) dX0_holderOf_39 rfl (by decide) rfl ?_
            refine X_iinc (v := (x2 + 1)) (L' := [none, some (.int b0), some (.int x6), some (.int (x2 + 1))]) dX0_holderOf_40 rfl rfl (by decide) rfl ?_
            refine X_goto (tgt := 4) dX0_holderOf_43 (by decide) ?_
            exact ih4 _ _ _  h
          · refine X_iload_n dX0_holderOf_32 rfl rfl ?_
            exact X_reti rfl dX0_holderOf_33 h
  refine X_drop (L' := [none, some (.int b0), some (.int a0), some (.int (0 : Int32))]) ⟨rfl, ⟨rfl, ⟨rfl, trivial⟩⟩⟩ ?_
  exact key4 _ _ _ _  h
def w_J7_fill_53178_l5 (a0 : Nat) (na0 : Nat) (b0 : Int32) (Q : Sg → Prop) (x1 : Int32) : Nat → Int32 → Sg → Prop
  | 0, _, _ => False
  | n5 + 1, x2, σ3 => if x1 ≤ x2 then (Q σ3) else (vp_in x2 na0 ∧ bd (sI σ3 a0 (Int32.toNatClampNeg x2) b0) fun σ4 => w_J7_fill_53178_l5 a0 na0 b0 Q x1 n5 (x2 + 1) σ4)
def w_J7_fill_53178 (a0 : Nat) (na0 : Nat) (b0 : Int32) (σ : Sg) (Q : Sg → Prop) : Prop := bd (Int32.ofNat na0) fun x1 => ∃ n, w_J7_fill_53178_l5 a0 na0 b0 Q x1 n (0 : Int32) σ
set_option maxRecDepth 100000 in
set_option maxHeartbeats 4000000 in
theorem s_J7_fill_53178 (sx : Nat × (Nat → Int32)) (a0 : Nat) (na0 : Nat) (b0 : Int32) (ha0 : G0[a0]? = some (.inl (.int, na0, []))) (σ : Sg) (Q : Sg → Prop) (h : w_J7_fill_53178 a0 na0 b0 σ Q) : Ct mJ7_fill_53178 0 false (0, 0) sx G0 [.ref a0, .int b0] σ (qV Q) := by
  refine Ct.of (L := [some (.ref a0), some (.int b0), none, none]) (by decide) (Nat.le_of_ble_eq_true rfl) rfl ?_
  unfold w_J7_fill_53178 at h
  refine X_iconst (v := 0) dJ7_fill_53178_0 iconst_0 ?_
  refine X_istore_n (L' := [some (.ref a0), some (.int b0), some (.int (0 : Int32)), none]) dJ7_fill_53178_1 rfl (by decide) rfl ?_
  refine X_aload_n dJ7_fill_53178_2 rfl rfl ?_
  refine X_alen ha0 rfl dJ7_fill_53178_3 ?_
  refine X_topI h (fun x1 h => ?_)
  refine X_istore_n (L' := [some (.ref a0), some (.int b0), some (.int (0 : Int32)), some (.int x1)]) dJ7_fill_53178_4 rfl (by decide) rfl ?_
  obtain ⟨n5, h⟩ := h
  have key5 : ∀ (n : Nat) (x2 : Int32) (σ3 : Sg) , w_J7_fill_53178_l5 a0 na0 b0 Q x1 n x2 σ3 → Ex mJ7_fill_53178 0 false (0, 0) sx G0 5 [some (.ref a0), some (.int b0), some (.int x2), some (.int x1)] [] σ3 (qV Q) := by
    intro n5
    induction n5 with
    | zero => intro _ _  h; exact h.elim
    | succ n5 ih5 =>
      intro x2 σ3  h
      unfold w_J7_fill_53178_l5 at h
      refine X_iload_n dJ7_fill_53178_5 rfl rfl ?_
      refine X_iload_n dJ7_fill_53178_6 rfl rfl ?_
      refine X_icmp_ge (tgt := 20) dJ7_fill_53178_7 (by decide) h (fun h => ?_) (fun h => ?_)
      · exact X_retv rfl dJ7_fill_53178_20 h
      · refine X_aload_n dJ7_fill_53178_10 rfl rfl ?_
        refine X_iload_n dJ7_fill_53178_11 rfl rfl ?_
        refine X_iload_n dJ7_fill_53178_12 rfl rfl ?_
        refine X_iast ha0 dJ7_fill_53178_13 h (fun σ4 h => ?_)
        refine X_iinc (v := (x2 + 1)) (L' := [some (.ref a0), some (.int b0), some (.int (x2 + 1)), some (.int x1)]) dJ7_fill_53178_14 rfl rfl (by decide) rfl ?_
        refine X_goto (tgt := 5) dJ7_fill_53178_17 (by decide) ?_
        exact ih5 _ _  h
  exact key5 _ _ _  h
def w_X1_shiftOf (a0 : Int32) (σ : Sg) (Q : Int32 → Sg → Prop) : Prop := Q ((2 : Int32) * ((11 : Int32) - a0)) σ
set_option maxRecDepth 100000 in
set_option maxHeartbeats 4000000 in
theorem s_X1_shiftOf (sx : Nat × (Nat → Int32)) (a0 : Int32) (σ : Sg) (Q : Int32 → Sg → Prop) (h : w_X1_shiftOf a0 σ Q) : Ct mX1_shiftOf 0 false (0, 0) sx G0 [.int a0] σ (qI Q) := by
  refine Ct.of (L := [some (.int a0)]) (by decide) (Nat.le_of_ble_eq_true rfl) rfl ?_
  unfold w_X1_shiftOf at h
  refine X_iconst (v := 2) dX1_shiftOf_0 iconst_2 ?_
  refine X_bipush (v := 11) dX1_shiftOf_1 bipush_11 ?_
  refine X_iload_n dX1_shiftOf_3 rfl rfl ?_
  refine X_isub dX1_shiftOf_4 ?_
  refine X_imul dX1_shiftOf_5 ?_
  exact X_reti rfl dX1_shiftOf_6 h
def w_X8_valueAt (a0 : Int32) (σ : Sg) (Q : Int32 → Sg → Prop) : Prop := w_X11_within a0 (1 : Int32) (120 : Int32) σ (fun r2 σ1 => if r2 = 0 then (Q (0 : Int32) σ1) else (vp_in (a0 - (1 : Int32)) 120 ∧ Q (σ1.1 10 (Int32.toNatClampNeg (a0 - (1 : Int32)))) σ1))
set_option maxRecDepth 100000 in
set_option maxHeartbeats 4000000 in
theorem s_X8_valueAt (sx : Nat × (Nat → Int32)) (a0 : Int32) (σ : Sg) (Q : Int32 → Sg → Prop) (h : w_X8_valueAt a0 σ Q) : Ct mX8_valueAt 1 false (0, 0) sx G0 [.ref 8, .int a0] σ (qI Q) := by
  refine Ct.of (L := [some (.ref 8), some (.int a0)]) (by decide) (Nat.le_of_ble_eq_true rfl) rfl ?_
  unfold w_X8_valueAt at h
  refine X_iload_n dX8_valueAt_0 rfl rfl ?_
  refine X_iconst (v := 1) dX8_valueAt_1 iconst_1 ?_
  refine X_bipush (v := 120) dX8_valueAt_2 bipush_120 ?_
  refine X_callSNi [.int a0, .int (1 : Int32), .int (120 : Int32)] [] c_X11_within t_X11_within lk_X8_66 dX8_valueAt_4 rfl (by decide) (Nat.le_of_ble_eq_true rfl) rfl (s_X11_within sx a0 (1 : Int32) (120 : Int32)  σ _ h) (fun r2 σ1 h => ?_)
  refine X_if_eq (tgt := 21) dX8_valueAt_7 (by decide) h (fun h => ?_) (fun h => ?_)
  · refine X_iconst (v := 0) dX8_valueAt_21 iconst_0 ?_
    exact X_reti rfl dX8_valueAt_22 h
  · refine X_aload_n dX8_valueAt_10 rfl rfl ?_
    refine X_get (v := .ref 10) ck_X8 f_X8_15 g_8 rfl (fun _ => rfl) dX8_valueAt_11 ?_
    refine X_iload_n dX8_valueAt_14 rfl rfl ?_
    refine X_iconst (v := 1) dX8_valueAt_15 iconst_1 ?_
    refine X_isub dX8_valueAt_16 ?_
    refine X_iald g_10 dX8_valueAt_17 h (fun h => ?_)
    refine X_goto (tgt := 22) dX8_valueAt_18 (by decide) ?_
    exact X_reti rfl dX8_valueAt_22 h
def w_X8_isName (a0 : Int32) (σ : Sg) (Q : Int32 → Sg → Prop) : Prop := if a0 = (119 : Int32) then (Q (1 : Int32) σ) else (if a0 = (115 : Int32) then (Q (1 : Int32) σ) else (if a0 = (104 : Int32) then (Q (1 : Int32) σ) else (if a0 = (100 : Int32) then (Q (1 : Int32) σ) else (if a0 = (107 : Int32) then (Q (1 : Int32) σ) else (if a0 = (112 : Int32) then (Q (1 : Int32) σ) else (Q (0 : Int32) σ))))))
set_option maxRecDepth 100000 in
set_option maxHeartbeats 4000000 in
theorem s_X8_isName (sx : Nat × (Nat → Int32)) (a0 : Int32) (σ : Sg) (Q : Int32 → Sg → Prop) (h : w_X8_isName a0 σ Q) : Ct mX8_isName 0 false (0, 0) sx G0 [.int a0] σ (qI Q) := by
  refine Ct.of (L := [some (.int a0)]) (by decide) (Nat.le_of_ble_eq_true rfl) rfl ?_
  unfold w_X8_isName at h
  refine X_iload_n dX8_isName_0 rfl rfl ?_
  refine X_bipush (v := 119) dX8_isName_1 bipush_119 ?_
  refine X_icmp_eq (tgt := 36) dX8_isName_3 (by decide) h (fun h => ?_) (fun h => ?_)
  · refine X_iconst (v := 1) dX8_isName_36 iconst_1 ?_
    refine X_goto (tgt := 41) dX8_isName_37 (by decide) ?_
    exact X_retz rfl rfl dX8_isName_41 h
  · refine X_iload_n dX8_isName_6 rfl rfl ?_
    refine X_bipush (v := 115) dX8_isName_7 bipush_115 ?_
    refine X_icmp_eq (tgt := 36) dX8_isName_9 (by decide) h (fun h => ?_) (fun h => ?_)
    · refine X_iconst (v := 1) dX8_isName_36 iconst_1 ?_
      refine X_goto (tgt := 41) dX8_isName_37 (by decide) ?_
      exact X_retz rfl rfl dX8_isName_41 h
    · refine X_iload_n dX8_isName_12 rfl rfl ?_
      refine X_bipush (v := 104) dX8_isName_13 bipush_104 ?_
      refine X_icmp_eq (tgt := 36) dX8_isName_15 (by decide) h (fun h => ?_) (fun h => ?_)
      · refine X_iconst (v := 1) dX8_isName_36 iconst_1 ?_
        refine X_goto (tgt := 41) dX8_isName_37 (by decide) ?_
        exact X_retz rfl rfl dX8_isName_41 h
      · refine X_iload_n dX8_isName_18 rfl rfl ?_
        refine X_bipush (v := 100) dX8_isName_19 bipush_100 ?_
        refine X_icmp_eq (tgt := 36) dX8_isName_21 (by decide) h (fun h => ?_) (fun h => ?_)
        · refine X_iconst (v := 1) dX8_isName_36 iconst_1 ?_
          refine X_goto (tgt := 41) dX8_isName_37 (by decide) ?_
          exact X_retz rfl rfl dX8_isName_41 h
        · refine X_iload_n dX8_isName_24 rfl rfl ?_
          refine X_bipush (v := 107) dX8_isName_25 bipush_107 ?_
          refine X_icmp_eq (tgt := 36) dX8_isName_27 (by decide) h (fun h => ?_) (fun h => ?_)
          · refine X_iconst (v := 1) dX8_isName_36 iconst_1 ?_
            refine X_goto (tgt := 41) dX8_isName_37 (by decide) ?_
            exact X_retz rfl rfl dX8_isName_41 h
          · refine X_iload_n dX8_isName_30 rfl rfl ?_
            refine X_bipush (v := 112) dX8_isName_31 bipush_112 ?_
            refine X_icmp_ne (tgt := 40) dX8_isName_33 (by decide) h (fun h => ?_) (fun h => ?_)
            · refine X_iconst (v := 0) dX8_isName_40 iconst_0 ?_
              exact X_retz rfl rfl dX8_isName_41 h
            · refine X_iconst (v := 1) dX8_isName_36 iconst_1 ?_
              refine X_goto (tgt := 41) dX8_isName_37 (by decide) ?_
              exact X_retz rfl rfl dX8_isName_41 h
def w_X8_joined (a0 : Int32) (b0 : Int32) (c0 : Int32) (σ : Sg) (Q : Int32 → Sg → Prop) : Prop := if a0 = (37 : Int32) then (if c0 = 0 then (Q (0 : Int32) σ) else (¬ c0 = 0 ∧ Q (b0 - b0 / c0 * c0) σ)) else (if a0 = (38 : Int32) then (if b0 = 0 then (Q (0 : Int32) σ) else (if c0 = 0 then (Q (0 : Int32) σ) else (Q (1 : Int32) σ))) else (if a0 = (42 : Int32) then (Q (b0 * c0) σ) else (if a0 = (43 : Int32) then (Q (b0 + c0) σ) else (if a0 = (45 : Int32) then (Q (b0 - c0) σ) else (if a0 = (47 : Int32) then (if c0 = 0 then (Q (0 : Int32) σ) else (¬ c0 = 0 ∧ Q (b0 / c0) σ)) else (if a0 = (60 : Int32) then (if c0 ≤ b0 then (Q (0 : Int32) σ) else (Q (1 : Int32) σ)) else (if a0 = (61 : Int32) then (if b0 = c0 then (Q (1 : Int32) σ) else (Q (0 : Int32) σ)) else (if a0 = (62 : Int32) then (if b0 ≤ c0 then (Q (0 : Int32) σ) else (Q (1 : Int32) σ)) else (if a0 = (124 : Int32) then (if b0 = 0 then (if c0 = 0 then (Q (0 : Int32) σ) else (Q (1 : Int32) σ)) else (Q (1 : Int32) σ)) else (Q (0 : Int32) σ))))))))))
set_option maxRecDepth 100000 in
set_option maxHeartbeats 4000000 in
theorem s_X8_joined (sx : Nat × (Nat → Int32)) (a0 : Int32) (b0 : Int32) (c0 : Int32) (σ : Sg) (Q : Int32 → Sg → Prop) (h : w_X8_joined a0 b0 c0 σ Q) : Ct mX8_joined 0 false (0, 0) sx G0 [.int a0, .int b0, .int c0] σ (qI Q) := by
  refine Ct.of (L := [some (.int a0), some (.int b0), some (.int c0)]) (by decide) (Nat.le_of_ble_eq_true rfl) rfl ?_
  unfold w_X8_joined at h
  refine X_iload_n dX8_joined_0 rfl rfl ?_
  by_cases hc1_37 : a0 = (37 : Int32)
  · replace h := if_t h hc1_37
    refine X_lookup (tgt := 177) dX8_joined_1 (by decide) (by rw [hc1_37] <;> decide) (by decide) ?_
    refine X_iload_n dX8_joined_177 rfl rfl ?_
    refine X_if_ne (tgt := 185) dX8_joined_178 (by decide) h (fun h => ?_) (fun h => ?_)
    · refine X_iload_n dX8_joined_185 rfl rfl ?_
      refine X_iload_n dX8_joined_186 rfl rfl ?_
      obtain ⟨hz, h⟩ := h
      refine X_irem dX8_joined_187 hz ?_
      exact X_reti rfl dX8_joined_188 h
    · refine X_iconst (v := 0) dX8_joined_181 iconst_0 ?_
      refine X_goto (tgt := 188) dX8_joined_182 (by decide) ?_
      exact X_reti rfl dX8_joined_188 h
  replace h := if_f h hc1_37
  by_cases hc1_38 : a0 = (38 : Int32)
  · replace h := if_t h hc1_38
    refine X_lookup (tgt := 106) dX8_joined_1 (by decide) (by rw [hc1_38] <;> decide) (by decide) ?_
    refine X_iload_n dX8_joined_106 rfl rfl ?_
    refine X_if_eq (tgt := 118) dX8_joined_107 (by decide) h (fun h => ?_) (fun h => ?_)
    · refine X_iconst (v := 0) dX8_joined_118 iconst_0 ?_
      exact X_reti rfl dX8_joined_119 h
    · refine X_iload_n dX8_joined_110 rfl rfl ?_
      refine X_if_eq (tgt := 118) dX8_joined_111 (by decide) h (fun h => ?_) (fun h => ?_)
      · refine X_iconst (v := 0) dX8_joined_118 iconst_0 ?_
        exact X_reti rfl dX8_joined_119 h
      · refine X_iconst (v := 1) dX8_joined_114 iconst_1 ?_
        refine X_goto (tgt := 119) dX8_joined_115 (by decide) ?_
        exact X_reti rfl dX8_joined_119 h
  replace h := if_f h hc1_38
  by_cases hc1_42 : a0 = (42 : Int32)
  · replace h := if_t h hc1_42
    refine X_lookup (tgt := 161) dX8_joined_1 (by decide) (by rw [hc1_42] <;> decide) (by decide) ?_
    refine X_iload_n dX8_joined_161 rfl rfl ?_
    refine X_iload_n dX8_joined_162 rfl rfl ?_
    refine X_imul dX8_joined_163 ?_
    exact X_reti rfl dX8_joined_164 h
  replace h := if_f h hc1_42
  by_cases hc1_43 : a0 = (43 : Int32)
  · replace h := if_t h hc1_43
    refine X_lookup (tgt := 153) dX8_joined_1 (by decide) (by rw [hc1_43] <;> decide) (by decide) ?_
    refine X_iload_n dX8_joined_153 rfl rfl ?_
    refine X_iload_n dX8_joined_154 rfl rfl ?_
    refine X_iadd dX8_joined_155 ?_
    exact X_reti rfl dX8_joined_156 h
  replace h := if_f h hc1_43
  by_cases hc1_45 : a0 = (45 : Int32)
  · replace h := if_t h hc1_45
    refine X_lookup (tgt := 157) dX8_joined_1 (by decide) (by rw [hc1_45] <;> decide) (by decide) ?_
    refine X_iload_n dX8_joined_157 rfl rfl ?_
    refine X_iload_n dX8_joined_158 rfl rfl ?_
    refine X_isub dX8_joined_159 ?_
    exact X_reti rfl dX8_joined_160 h
  replace h := if_f h hc1_45
  by_cases hc1_47 : a0 = (47 : Int32)
  · replace h := if_t h hc1_47
    refine X_lookup (tgt := 165) dX8_joined_1 (by decide) (by rw [hc1_47] <;> decide) (by decide) ?_
    refine X_iload_n dX8_joined_165 rfl rfl ?_
    refine X_if_ne (tgt := 173) dX8_joined_166 (by decide) h (fun h => ?_) (fun h => ?_)
    · refine X_iload_n dX8_joined_173 rfl rfl ?_
      refine X_iload_n dX8_joined_174 rfl rfl ?_
      obtain ⟨hz, h⟩ := h
      refine X_idiv dX8_joined_175 hz ?_
      exact X_reti rfl dX8_joined_176 h
    · refine X_iconst (v := 0) dX8_joined_169 iconst_0 ?_
      refine X_goto (tgt := 176) dX8_joined_170 (by decide) ?_
      exact X_reti rfl dX8_joined_176 h
  replace h := if_f h hc1_47
  by_cases hc1_60 : a0 = (60 : Int32)
  · replace h := if_t h hc1_60
    refine X_lookup (tgt := 120) dX8_joined_1 (by decide) (by rw [hc1_60] <;> decide) (by decide) ?_
    refine X_iload_n dX8_joined_120 rfl rfl ?_
    refine X_iload_n dX8_joined_121 rfl rfl ?_
    refine X_icmp_ge (tgt := 129) dX8_joined_122 (by decide) h (fun h => ?_) (fun h => ?_)
    · refine X_iconst (v := 0) dX8_joined_129 iconst_0 ?_
      exact X_reti rfl dX8_joined_130 h
    · refine X_iconst (v := 1) dX8_joined_125 iconst_1 ?_
      refine X_goto (tgt := 130) dX8_joined_126 (by decide) ?_
      exact X_reti rfl dX8_joined_130 h
  replace h := if_f h hc1_60
  by_cases hc1_61 : a0 = (61 : Int32)
  · replace h := if_t h hc1_61
    refine X_lookup (tgt := 131) dX8_joined_1 (by decide) (by rw [hc1_61] <;> decide) (by decide) ?_
    refine X_iload_n dX8_joined_131 rfl rfl ?_
    refine X_iload_n dX8_joined_132 rfl rfl ?_
    refine X_icmp_ne (tgt := 140) dX8_joined_133 (by decide) h (fun h => ?_) (fun h => ?_)
    · refine X_iconst (v := 0) dX8_joined_140 iconst_0 ?_
      exact X_reti rfl dX8_joined_141 h
    · refine X_iconst (v := 1) dX8_joined_136 iconst_1 ?_
      refine X_goto (tgt := 141) dX8_joined_137 (by decide) ?_
      exact X_reti rfl dX8_joined_141 h
  replace h := if_f h hc1_61
  by_cases hc1_62 : a0 = (62 : Int32)
  · replace h := if_t h hc1_62
    refine X_lookup (tgt := 142) dX8_joined_1 (by decide) (by rw [hc1_62] <;> decide) (by decide) ?_
    refine X_iload_n dX8_joined_142 rfl rfl ?_
    refine X_iload_n dX8_joined_143 rfl rfl ?_
    refine X_icmp_le (tgt := 151) dX8_joined_144 (by decide) h (fun h => ?_) (fun h => ?_)
    · refine X_iconst (v := 0) dX8_joined_151 iconst_0 ?_
      exact X_reti rfl dX8_joined_152 h
    · refine X_iconst (v := 1) dX8_joined_147 iconst_1 ?_
      refine X_goto (tgt := 152) dX8_joined_148 (by decide) ?_
      exact X_reti rfl dX8_joined_152 h
  replace h := if_f h hc1_62
  by_cases hc1_124 : a0 = (124 : Int32)
  · replace h := if_t h hc1_124
    refine X_lookup (tgt := 92) dX8_joined_1 (by decide) (by rw [hc1_124] <;> decide) (by decide) ?_
    refine X_iload_n dX8_joined_92 rfl rfl ?_
    refine X_if_ne (tgt := 100) dX8_joined_93 (by decide) h (fun h => ?_) (fun h => ?_)
    · refine X_iconst (v := 1) dX8_joined_100 iconst_1 ?_
      refine X_goto (tgt := 105) dX8_joined_101 (by decide) ?_
      exact X_reti rfl dX8_joined_105 h
    · refine X_iload_n dX8_joined_96 rfl rfl ?_
      refine X_if_eq (tgt := 104) dX8_joined_97 (by decide) h (fun h => ?_) (fun h => ?_)
      · refine X_iconst (v := 0) dX8_joined_104 iconst_0 ?_
        exact X_reti rfl dX8_joined_105 h
      · refine X_iconst (v := 1) dX8_joined_100 iconst_1 ?_
        refine X_goto (tgt := 105) dX8_joined_101 (by decide) ?_
        exact X_reti rfl dX8_joined_105 h
  replace h := if_f h hc1_124
  refine X_lookup (tgt := 189) dX8_joined_1 (by decide) (lk_out (by intro q hq; simp only [List.mem_cons, List.not_mem_nil, or_false] at hq; rcases hq with rfl | rfl | rfl | rfl | rfl | rfl | rfl | rfl | rfl | rfl <;> first | exact ne_toInt hc1_37 | exact ne_toInt hc1_38 | exact ne_toInt hc1_42 | exact ne_toInt hc1_43 | exact ne_toInt hc1_45 | exact ne_toInt hc1_47 | exact ne_toInt hc1_60 | exact ne_toInt hc1_61 | exact ne_toInt hc1_62 | exact ne_toInt hc1_124)) (by decide) ?_
  refine X_iconst (v := 0) dX8_joined_189 iconst_0 ?_
  exact X_reti rfl dX8_joined_190 h
def w_X8_named (a0 : Int32) (σ : Sg) (Q : Int32 → Sg → Prop) : Prop := if a0 = (100 : Int32) then (Q (σ.1 8 6) σ) else (if a0 = (104 : Int32) then (Q (σ.1 8 5) σ) else (if a0 = (107 : Int32) then (Q (σ.1 8 7) σ) else (if a0 = (115 : Int32) then (Q (σ.1 8 4) σ) else (if a0 = (119 : Int32) then (Q (σ.1 8 3) σ) else (Q (σ.1 8 8) σ)))))
set_option maxRecDepth 100000 in
set_option maxHeartbeats 4000000 in
theorem s_X8_named (sx : Nat × (Nat → Int32)) (a0 : Int32) (σ : Sg) (Q : Int32 → Sg → Prop) (h : w_X8_named a0 σ Q) : Ct mX8_named 0 false (0, 0) sx G0 [.ref 8, .int a0] σ (qI Q) := by
  refine Ct.of (L := [some (.ref 8), some (.int a0)]) (by decide) (Nat.le_of_ble_eq_true rfl) rfl ?_
  unfold w_X8_named at h
  refine X_iload_n dX8_named_0 rfl rfl ?_
  by_cases hc1_100 : a0 = (100 : Int32)
  · replace h := if_t h hc1_100
    refine X_lookup (tgt := 67) dX8_named_1 (by decide) (by rw [hc1_100] <;> decide) (by decide) ?_
    refine X_aload_n dX8_named_67 rfl rfl ?_
    refine X_get (v := .int (σ.1 8 6)) ck_X8 f_X8_41 g_8 rfl (fun _ => rfl) dX8_named_68 ?_
    exact X_reti rfl dX8_named_71 h
  replace h := if_f h hc1_100
  by_cases hc1_104 : a0 = (104 : Int32)
  · replace h := if_t h hc1_104
    refine X_lookup (tgt := 62) dX8_named_1 (by decide) (by rw [hc1_104] <;> decide) (by decide) ?_
    refine X_aload_n dX8_named_62 rfl rfl ?_
    refine X_get (v := .int (σ.1 8 5)) ck_X8 f_X8_38 g_8 rfl (fun _ => rfl) dX8_named_63 ?_
    exact X_reti rfl dX8_named_66 h
  replace h := if_f h hc1_104
  by_cases hc1_107 : a0 = (107 : Int32)
  · replace h := if_t h hc1_107
    refine X_lookup (tgt := 72) dX8_named_1 (by decide) (by rw [hc1_107] <;> decide) (by decide) ?_
    refine X_aload_n dX8_named_72 rfl rfl ?_
    refine X_get (v := .int (σ.1 8 7)) ck_X8 f_X8_44 g_8 rfl (fun _ => rfl) dX8_named_73 ?_
    exact X_reti rfl dX8_named_76 h
  replace h := if_f h hc1_107
  by_cases hc1_115 : a0 = (115 : Int32)
  · replace h := if_t h hc1_115
    refine X_lookup (tgt := 57) dX8_named_1 (by decide) (by rw [hc1_115] <;> decide) (by decide) ?_
    refine X_aload_n dX8_named_57 rfl rfl ?_
    refine X_get (v := .int (σ.1 8 4)) ck_X8 f_X8_35 g_8 rfl (fun _ => rfl) dX8_named_58 ?_
    exact X_reti rfl dX8_named_61 h
  replace h := if_f h hc1_115
  by_cases hc1_119 : a0 = (119 : Int32)
  · replace h := if_t h hc1_119
    refine X_lookup (tgt := 52) dX8_named_1 (by decide) (by rw [hc1_119] <;> decide) (by decide) ?_
    refine X_aload_n dX8_named_52 rfl rfl ?_
    refine X_get (v := .int (σ.1 8 3)) ck_X8 f_X8_32 g_8 rfl (fun _ => rfl) dX8_named_53 ?_
    exact X_reti rfl dX8_named_56 h
  replace h := if_f h hc1_119
  refine X_lookup (tgt := 77) dX8_named_1 (by decide) (lk_out (by intro q hq; simp only [List.mem_cons, List.not_mem_nil, or_false] at hq; rcases hq with rfl | rfl | rfl | rfl | rfl <;> first | exact ne_toInt hc1_100 | exact ne_toInt hc1_104 | exact ne_toInt hc1_107 | exact ne_toInt hc1_115 | exact ne_toInt hc1_119)) (by decide) ?_
  refine X_aload_n dX8_named_77 rfl rfl ?_
  refine X_get (v := .int (σ.1 8 8)) ck_X8 f_X8_47 g_8 rfl (fun _ => rfl) dX8_named_78 ?_
  exact X_reti rfl dX8_named_81 h
def w_X8_work (a0 : Int32) (b0 : Int32) (σ : Sg) (Q : Int32 → Sg → Prop) : Prop := bd (fun (σ1 : Sg) => if (120 : Int32) ≤ b0 then (Q (b0 + (1 : Int32)) σ1) else (if a0 < 0 then (w_X8_named (-a0) σ1 (fun r3 σ2 => vp_in b0 120 ∧ bd (sI σ2 10 (Int32.toNatClampNeg b0) r3) fun σ4 => Q (b0 + (1 : Int32)) σ4)) else (vp_in b0 120 ∧ bd (sI σ1 10 (Int32.toNatClampNeg b0) a0) fun σ5 => Q (b0 + (1 : Int32)) σ5))) fun J12 => if 0 ≤ a0 then (J12 σ) else (w_X8_isName (-a0) σ (fun r7 σ6 => if r7 = 0 then (bd (fun (σ8 : Sg) => w_X11_within b0 (1 : Int32) (120 : Int32) σ8 (fun r10 σ9 => if r10 = 0 then (Q b0 σ9) else (vp_in (b0 - (1 : Int32)) 120 ∧ bd (σ9.1 10 (Int32.toNatClampNeg (b0 - (1 : Int32)))) fun x11 => if a0 = (-95 : Int32) then (vp_in (b0 - (1 : Int32)) 120 ∧ bd (sI σ9 10 (Int32.toNatClampNeg (b0 - (1 : Int32))) (-x11)) fun σ14 => Q b0 σ14) else (if x11 = 0 then (vp_in (b0 - (1 : Int32)) 120 ∧ bd (sI σ9 10 (Int32.toNatClampNeg (b0 - (1 : Int32))) (1 : Int32)) fun σ13 => Q b0 σ13) else (vp_in (b0 - (1 : Int32)) 120 ∧ bd (sI σ9 10 (Int32.toNatClampNeg (b0 - (1 : Int32))) (0 : Int32)) fun σ12 => Q b0 σ12))))) fun J54 => if a0 = (-95 : Int32) then (J54 σ6) else (if a0 = (-33 : Int32) then (J54 σ6) else (w_X11_within b0 (2 : Int32) (120 : Int32) σ6 (fun r16 σ15 => if r16 = 0 then (Q (b0 - (1 : Int32)) σ15) else (vp_in (b0 - (2 : Int32)) 120 ∧ vp_in (b0 - (1 : Int32)) 120 ∧ w_X8_joined (-a0) (σ15.1 10 (Int32.toNatClampNeg (b0 - (2 : Int32)))) (σ15.1 10 (Int32.toNatClampNeg (b0 - (1 : Int32)))) σ15 (fun r18 σ17 => vp_in (b0 - (2 : Int32)) 120 ∧ bd (sI σ17 10 (Int32.toNatClampNeg (b0 - (2 : Int32))) r18) fun σ19 => Q (b0 - (1 : Int32)) σ19)))))) else (J12 σ6)))
set_option maxRecDepth 100000 in
set_option maxHeartbeats 4000000 in
theorem s_X8_work (sx : Nat × (Nat → Int32)) (a0 : Int32) (b0 : Int32) (σ : Sg) (Q : Int32 → Sg → Prop) (h : w_X8_work a0 b0 σ Q) : Ct mX8_work 1 false (0, 0) sx G0 [.ref 8, .int a0, .int b0] σ (qI Q) := by
  refine Ct.of (L := [some (.ref 8), some (.int a0), some (.int b0), none]) (by decide) (Nat.le_of_ble_eq_true rfl) rfl ?_
  unfold w_X8_work at h
  refine X_iload_n dX8_work_0 rfl rfl ?_
  refine bd_j h (fun J12 e12 h => ?_)
  have j12 : ∀ (σ1 : Sg) , J12  σ1 → Ex mX8_work 1 false (0, 0) sx G0 12 [some (.ref 8), some (.int a0), some (.int b0), none] [] σ1 (qI Q) := by
    intro  σ1  h
    subst e12
    replace h := h
    refine X_iload_n dX8_work_12 rfl rfl ?_
    refine X_bipush (v := 120) dX8_work_13 bipush_120 ?_
    refine X_icmp_ge (tgt := 38) dX8_work_15 (by decide) h (fun h => ?_) (fun h => ?_)
    · refine X_iload_n dX8_work_38 rfl rfl ?_
      refine X_iconst (v := 1) dX8_work_39 iconst_1 ?_
      refine X_iadd dX8_work_40 ?_
      exact X_reti rfl dX8_work_41 h
    · refine X_aload_n dX8_work_18 rfl rfl ?_
      refine X_get (v := .ref 10) ck_X8 f_X8_15 g_8 rfl (fun _ => rfl) dX8_work_19 ?_
      refine X_iload_n dX8_work_22 rfl rfl ?_
      refine X_iload_n dX8_work_23 rfl rfl ?_
      refine X_if_lt (tgt := 31) dX8_work_24 (by decide) h (fun h => ?_) (fun h => ?_)
      · refine X_aload_n dX8_work_31 rfl rfl ?_
        refine X_iload_n dX8_work_32 rfl rfl ?_
        refine X_ineg dX8_work_33 ?_
        refine X_callVi [.int (-a0)] [.int b0, .ref 10] c_X8_named v_X8_named lk_X8_74 dX8_work_34 g_8 rfl rfl rfl (by decide) (Nat.le_of_ble_eq_true rfl) rfl (s_X8_named sx (-a0)  σ1 _ h) (fun r3 σ2 h => ?_)
        refine X_iast g_10 dX8_work_37 h (fun σ4 h => ?_)
        refine X_iload_n dX8_work_38 rfl rfl ?_
        refine X_iconst (v := 1) dX8_work_39 iconst_1 ?_
        refine X_iadd dX8_work_40 ?_
        exact X_reti rfl dX8_work_41 h
      · refine X_iload_n dX8_work_27 rfl rfl ?_
        refine X_goto (tgt := 37) dX8_work_28 (by decide) ?_
        refine X_iast g_10 dX8_work_37 h (fun σ5 h => ?_)
        refine X_iload_n dX8_work_38 rfl rfl ?_
        refine X_iconst (v := 1) dX8_work_39 iconst_1 ?_
        refine X_iadd dX8_work_40 ?_
        exact X_reti rfl dX8_work_41 h
  refine X_if_ge (tgt := 12) dX8_work_1 (by decide) h (fun h => ?_) (fun h => ?_)
  · exact j12 _  h
  · refine X_iload_n dX8_work_4 rfl rfl ?_
    refine X_ineg dX8_work_5 ?_
    refine X_callSi [.int (-a0)] [] c_X8_isName t_X8_isName lk_X8_70 dX8_work_6 rfl (by decide) (Nat.le_of_ble_eq_true rfl) rfl (s_X8_isName sx (-a0)  σ _ h) (fun r7 σ6 h => ?_)
    refine X_if_eq (tgt := 42) dX8_work_9 (by decide) h (fun h => ?_) (fun h => ?_)
    · refine X_iload_n dX8_work_42 rfl rfl ?_
      refine X_bipush (v := -95) dX8_work_43 bipush_m95 ?_
      refine bd_j h (fun J54 e54 h => ?_)
      have j54 : ∀ (σ8 : Sg) , J54  σ8 → Ex mX8_work 1 false (0, 0) sx G0 54 [some (.ref 8), some (.int a0), some (.int b0), none] [] σ8 (qI Q) := by
        intro  σ8  h
        subst e54
        replace h := h
        refine X_iload_n dX8_work_54 rfl rfl ?_
        refine X_iconst (v := 1) dX8_work_55 iconst_1 ?_
        refine X_bipush (v := 120) dX8_work_56 bipush_120 ?_
        refine X_callSNi [.int b0, .int (1 : Int32), .int (120 : Int32)] [] c_X11_within t_X11_within lk_X8_66 dX8_work_58 rfl (by decide) (Nat.le_of_ble_eq_true rfl) rfl (s_X11_within sx b0 (1 : Int32) (120 : Int32)  σ8 _ h) (fun r10 σ9 h => ?_)
        refine X_if_eq (tgt := 101) dX8_work_61 (by decide) h (fun h => ?_) (fun h => ?_)
        · refine X_iload_n dX8_work_101 rfl rfl ?_
          exact X_reti rfl dX8_work_102 h
        · refine X_aload_n dX8_work_64 rfl rfl ?_
          refine X_get (v := .ref 10) ck_X8 f_X8_15 g_8 rfl (fun _ => rfl) dX8_work_65 ?_
          refine X_iload_n dX8_work_68 rfl rfl ?_
          refine X_iconst (v := 1) dX8_work_69 iconst_1 ?_
          refine X_isub dX8_work_70 ?_
          refine X_iald g_10 dX8_work_71 h (fun h => ?_)
          refine X_topI h (fun x11 h => ?_)
          refine X_istore_n (L' := [some (.ref 8), some (.int a0), some (.int b0), some (.int x11)]) dX8_work_72 rfl (by decide) rfl ?_
          refine X_aload_n dX8_work_73 rfl rfl ?_
          refine X_get (v := .ref 10) ck_X8 f_X8_15 g_8 rfl (fun _ => rfl) dX8_work_74 ?_
          refine X_iload_n dX8_work_77 rfl rfl ?_
          refine X_iconst (v := 1) dX8_work_78 iconst_1 ?_
          refine X_isub dX8_work_79 ?_
          refine X_iload_n dX8_work_80 rfl rfl ?_
          refine X_bipush (v := -95) dX8_work_81 bipush_m95 ?_
          refine X_icmp_ne (tgt := 91) dX8_work_83 (by decide) h (fun h => ?_) (fun h => ?_)
          · refine X_iload_n dX8_work_91 rfl rfl ?_
            refine X_if_ne (tgt := 99) dX8_work_92 (by decide) h (fun h => ?_) (fun h => ?_)
            · refine X_iconst (v := 0) dX8_work_99 iconst_0 ?_
              refine X_iast g_10 dX8_work_100 h (fun σ12 h => ?_)
              refine X_iload_n dX8_work_101 rfl rfl ?_
              exact X_reti rfl dX8_work_102 h
            · refine X_iconst (v := 1) dX8_work_95 iconst_1 ?_
              refine X_goto (tgt := 100) dX8_work_96 (by decide) ?_
              refine X_iast g_10 dX8_work_100 h (fun σ13 h => ?_)
              refine X_iload_n dX8_work_101 rfl rfl ?_
              exact X_reti rfl dX8_work_102 h
          · refine X_iload_n dX8_work_86 rfl rfl ?_
            refine X_ineg dX8_work_87 ?_
            refine X_goto (tgt := 100) dX8_work_88 (by decide) ?_
            refine X_iast g_10 dX8_work_100 h (fun σ14 h => ?_)
            refine X_iload_n dX8_work_101 rfl rfl ?_
            exact X_reti rfl dX8_work_102 h
      refine X_icmp_eq (tgt := 54) dX8_work_45 (by decide) h (fun h => ?_) (fun h => ?_)
      · exact j54 _  h
      · refine X_iload_n dX8_work_48 rfl rfl ?_
        refine X_bipush (v := -33) dX8_work_49 bipush_m33 ?_
        refine X_icmp_ne (tgt := 103) dX8_work_51 (by decide) h (fun h => ?_) (fun h => ?_)
        · refine X_iload_n dX8_work_103 rfl rfl ?_
          refine X_iconst (v := 2) dX8_work_104 iconst_2 ?_
          refine X_bipush (v := 120) dX8_work_105 bipush_120 ?_
          refine X_callSNi [.int b0, .int (2 : Int32), .int (120 : Int32)] [] c_X11_within t_X11_within lk_X8_66 dX8_work_107 rfl (by decide) (Nat.le_of_ble_eq_true rfl) rfl (s_X11_within sx b0 (2 : Int32) (120 : Int32)  σ6 _ h) (fun r16 σ15 h => ?_)
          refine X_if_eq (tgt := 142) dX8_work_110 (by decide) h (fun h => ?_) (fun h => ?_)
          · refine X_iload_n dX8_work_142 rfl rfl ?_
            refine X_iconst (v := 1) dX8_work_143 iconst_1 ?_
            refine X_isub dX8_work_144 ?_
            exact X_reti rfl dX8_work_145 h
          · refine X_aload_n dX8_work_113 rfl rfl ?_
            refine X_get (v := .ref 10) ck_X8 f_X8_15 g_8 rfl (fun _ => rfl) dX8_work_114 ?_
            refine X_iload_n dX8_work_117 rfl rfl ?_
            refine X_iconst (v := 2) dX8_work_118 iconst_2 ?_
            refine X_isub dX8_work_119 ?_
            refine X_iload_n dX8_work_120 rfl rfl ?_
            refine X_ineg dX8_work_121 ?_
            refine X_aload_n dX8_work_122 rfl rfl ?_
            refine X_get (v := .ref 10) ck_X8 f_X8_15 g_8 rfl (fun _ => rfl) dX8_work_123 ?_
            refine X_iload_n dX8_work_126 rfl rfl ?_
            refine X_iconst (v := 2) dX8_work_127 iconst_2 ?_
            refine X_isub dX8_work_128 ?_
            refine X_iald g_10 dX8_work_129 h (fun h => ?_)
            refine X_aload_n dX8_work_130 rfl rfl ?_
            refine X_get (v := .ref 10) ck_X8 f_X8_15 g_8 rfl (fun _ => rfl) dX8_work_131 ?_
            refine X_iload_n dX8_work_134 rfl rfl ?_
            refine X_iconst (v := 1) dX8_work_135 iconst_1 ?_
            refine X_isub dX8_work_136 ?_
            refine X_iald g_10 dX8_work_137 h (fun h => ?_)
            refine X_callSi [.int (-a0), .int (σ15.1 10 (Int32.toNatClampNeg (b0 - (2 : Int32)))), .int (σ15.1 10 (Int32.toNatClampNeg (b0 - (1 : Int32))))] [.int (b0 - (2 : Int32)), .ref 10] c_X8_joined t_X8_joined lk_X8_77 dX8_work_138 rfl (by decide) (Nat.le_of_ble_eq_true rfl) rfl (s_X8_joined sx (-a0) (σ15.1 10 (Int32.toNatClampNeg (b0 - (2 : Int32)))) (σ15.1 10 (Int32.toNatClampNeg (b0 - (1 : Int32))))  σ15 _ h) (fun r18 σ17 h => ?_)
            refine X_iast g_10 dX8_work_141 h (fun σ19 h => ?_)
            refine X_iload_n dX8_work_142 rfl rfl ?_
            refine X_iconst (v := 1) dX8_work_143 iconst_1 ?_
            refine X_isub dX8_work_144 ?_
            exact X_reti rfl dX8_work_145 h
        · exact j54 _  h
    · exact j12 _  h
def w_X8_gives_l59 (J158 : Int32 → Int32 → Sg → Prop) : Nat → Int32 → Int32 → Int32 → Sg → Prop
  | 0, _, _, _, _ => False
  | n59 + 1, x12, x13, x14, σ15 => if (σ15.1 8 1) ≤ x14 then (J158 x12 x13 σ15) else (bd (fun (σ16 : Sg) => vp_in x14 120 ∧ bd (σ16.1 9 (Int32.toNatClampNeg x14)) fun x17 => bd (fun (x18 : Int32) (x19 : Int32) (σ20 : Sg) => w_X8_gives_l59 J158 n59 x18 x19 (x14 + 1) σ20) fun J152 => bd (fun (σ21 : Sg) => bd (fun (x22 : Int32) (σ23 : Sg) => J152 (0 : Int32) x22 σ23) fun J129 => bd (fun (σ24 : Sg) => J129 (1 : Int32) σ24) fun J124 => if x17 = (-59 : Int32) then (J124 σ21) else (w_X8_valueAt x12 σ21 (fun r26 σ25 => if r26 = 0 then (J129 (0 : Int32) σ25) else (J124 σ25)))) fun J108 => if x17 = (-59 : Int32) then (J108 σ16) else (if x17 = (-63 : Int32) then (J108 σ16) else (if x13 = 0 then (J152 x12 x13 σ16) else (w_X8_work x17 x12 σ16 (fun r28 σ27 => J152 r28 x13 σ27))))) fun J85 => if x13 = 0 then (J85 σ15) else (vp_in x14 120 ∧ if (σ15.1 9 (Int32.toNatClampNeg x14)) = (-59 : Int32) then (J158 x12 x13 σ15) else (J85 σ15)))
def w_X8_gives (a0 : Int32) (b0 : Int32) (c0 : Int32) (d0 : Int32) (e0 : Int32) (f0 : Int32) (σ : Sg) (Q : Int32 → Sg → Prop) : Prop := if (σ.1 8 1) = 0 then (if b0 = 0 then (Q (1 : Int32) σ) else (Q (0 : Int32) σ)) else (bd (sI σ 8 3 a0) fun σ1 => bd (sI σ1 8 4 b0) fun σ2 => bd (sI σ2 8 5 c0) fun σ3 => bd (sI σ3 8 6 d0) fun σ4 => bd (sI σ4 8 7 e0) fun σ5 => bd (sI σ5 8 8 f0) fun σ6 => bd (fun (x7 : Int32) (x8 : Int32) (σ9 : Sg) => if x8 = 0 then (Q (0 : Int32) σ9) else (w_X8_valueAt x7 σ9 (fun r11 σ10 => Q (imax (-1 : Int32) (imin (1 : Int32) r11)) σ10))) fun J158 => ∃ n, w_X8_gives_l59 J158 n (0 : Int32) (1 : Int32) (0 : Int32) σ6)
set_option maxRecDepth 100000 in
set_option maxHeartbeats 4000000 in
theorem s_X8_gives (sx : Nat × (Nat → Int32)) (a0 : Int32) (b0 : Int32) (c0 : Int32) (d0 : Int32) (e0 : Int32) (f0 : Int32) (σ : Sg) (Q : Int32 → Sg → Prop) (h : w_X8_gives a0 b0 c0 d0 e0 f0 σ Q) : Ct mX8_gives 2 false (0, 0) sx G0 [.ref 8, .int a0, .int b0, .int c0, .int d0, .int e0, .int f0] σ (qI Q) := by
  refine Ct.of (L := [some (.ref 8), some (.int a0), some (.int b0), some (.int c0), some (.int d0), some (.int e0), some (.int f0), none, none, none, none]) (by decide) (Nat.le_of_ble_eq_true rfl) rfl ?_
  unfold w_X8_gives at h
  refine X_aload_n dX8_gives_0 rfl rfl ?_
  refine X_get (v := .int (σ.1 8 1)) ck_X8 f_X8_31 g_8 rfl (fun _ => rfl) dX8_gives_1 ?_
  refine X_if_ne (tgt := 17) dX8_gives_4 (by decide) h (fun h => ?_) (fun h => ?_)
  · refine X_aload_n dX8_gives_17 rfl rfl ?_
    refine X_iload_n dX8_gives_18 rfl rfl ?_
    refine X_putI ck_X8 f_X8_32 rfl g_8 rfl rfl rfl dX8_gives_19 h (fun σ1 h => ?_)
    refine X_aload_n dX8_gives_22 rfl rfl ?_
    refine X_iload_n dX8_gives_23 rfl rfl ?_
    refine X_putI ck_X8 f_X8_35 rfl g_8 rfl rfl rfl dX8_gives_24 h (fun σ2 h => ?_)
    refine X_aload_n dX8_gives_27 rfl rfl ?_
    refine X_iload_n dX8_gives_28 rfl rfl ?_
    refine X_putI ck_X8 f_X8_38 rfl g_8 rfl rfl rfl dX8_gives_29 h (fun σ3 h => ?_)
    refine X_aload_n dX8_gives_32 rfl rfl ?_
    refine X_iload dX8_gives_33 rfl ?_
    refine X_putI ck_X8 f_X8_41 rfl g_8 rfl rfl rfl dX8_gives_35 h (fun σ4 h => ?_)
    refine X_aload_n dX8_gives_38 rfl rfl ?_
    refine X_iload dX8_gives_39 rfl ?_
    refine X_putI ck_X8 f_X8_44 rfl g_8 rfl rfl rfl dX8_gives_41 h (fun σ5 h => ?_)
    refine X_aload_n dX8_gives_44 rfl rfl ?_
    refine X_iload dX8_gives_45 rfl ?_
    refine X_putI ck_X8 f_X8_47 rfl g_8 rfl rfl rfl dX8_gives_47 h (fun σ6 h => ?_)
    refine X_iconst (v := 0) dX8_gives_50 iconst_0 ?_
    refine X_istore (L' := [some (.ref 8), some (.int a0), some (.int b0), some (.int c0), some (.int d0), some (.int e0), some (.int f0), some (.int (0 : Int32)), none, none, none]) dX8_gives_51 (by decide) rfl ?_
    refine X_iconst (v := 1) dX8_gives_53 iconst_1 ?_
    refine X_istore (L' := [some (.ref 8), some (.int a0), some (.int b0), some (.int c0), some (.int d0), some (.int e0), some (.int f0), some (.int (0 : Int32)), some (.int (1 : Int32)), none, none]) dX8_gives_54 (by decide) rfl ?_
    refine X_iconst (v := 0) dX8_gives_56 iconst_0 ?_
    refine X_istore (L' := [some (.ref 8), some (.int a0), some (.int b0), some (.int c0), some (.int d0), some (.int e0), some (.int f0), some (.int (0 : Int32)), some (.int (1 : Int32)), some (.int (0 : Int32)), none]) dX8_gives_57 (by decide) rfl ?_
    refine bd_j h (fun J158 e158 h => ?_)
    have j158 : ∀ (x7 : Int32) (x8 : Int32) (σ9 : Sg) , J158 x7 x8 σ9 → Ex mX8_gives 2 false (0, 0) sx G0 158 [some (.ref 8), none, none, none, none, none, none, some (.int x7), some (.int x8), none, none] [] σ9 (qI Q) := by
      intro x7 x8 σ9  h
      subst e158
      replace h := h
      refine X_iload dX8_gives_158 rfl ?_
      refine X_if_eq (tgt := 180) dX8_gives_160 (by decide) h (fun h => ?_) (fun h => ?_)
      · refine X_iconst (v := 0) dX8_gives_180 iconst_0 ?_
        exact X_reti rfl dX8_gives_181 h
      · refine X_iconst (v := -1) dX8_gives_163 iconst_m1 ?_
        refine X_iconst (v := 1) dX8_gives_164 iconst_1 ?_
        refine X_aload_n dX8_gives_165 rfl rfl ?_
        refine X_iload dX8_gives_166 rfl ?_
        refine X_callVi [.int x7] [.int (1 : Int32), .int (-1 : Int32)] c_X8_valueAt v_X8_valueAt lk_X8_50 dX8_gives_168 g_8 rfl rfl rfl (by decide) (Nat.le_of_ble_eq_true rfl) rfl (s_X8_valueAt sx x7  σ9 _ h) (fun r11 σ10 h => ?_)
        refine X_mmin lk_X8_58 dX8_gives_171 (by decide) (Nat.le_of_ble_eq_true rfl) ?_
        refine X_mmax lk_X8_63 dX8_gives_174 (by decide) (Nat.le_of_ble_eq_true rfl) ?_
        refine X_goto (tgt := 181) dX8_gives_177 (by decide) ?_
        exact X_reti rfl dX8_gives_181 h
    obtain ⟨n59, h⟩ := h
    have key59 : ∀ (n : Nat) (x12 : Int32) (x13 : Int32) (x14 : Int32) (σ15 : Sg) , w_X8_gives_l59 J158 n x12 x13 x14 σ15 → Ex mX8_gives 2 false (0, 0) sx G0 59 [some (.ref 8), none, none, none, none, none, none, some (.int x12), some (.int x13), some (.int x14), none] [] σ15 (qI Q) := by
      intro n59
      induction n59 with
      | zero => intro _ _ _ _  h; exact h.elim
      | succ n59 ih59 =>
        intro x12 x13 x14 σ15  h
        unfold w_X8_gives_l59 at h
        refine X_iload dX8_gives_59 rfl ?_
        refine X_aload_n dX8_gives_61 rfl rfl ?_
        refine X_get (v := .int (σ15.1 8 1)) ck_X8 f_X8_31 g_8 rfl (fun _ => rfl) dX8_gives_62 ?_
        refine X_icmp_ge (tgt := 158) dX8_gives_65 (by decide) h (fun h => ?_) (fun h => ?_)
        · refine X_drop (L' := [some (.ref 8), none, none, none, none, none, none, some (.int x12), some (.int x13), none, none]) ⟨rfl, ⟨rfl, ⟨rfl, trivial⟩⟩⟩ ?_
          exact j158 _ _ _  h
        · refine X_iload dX8_gives_68 rfl ?_
          refine bd_j h (fun J85 e85 h => ?_)
          have j85 : ∀ (σ16 : Sg) , J85  σ16 → Ex mX8_gives 2 false (0, 0) sx G0 85 [some (.ref 8), none, none, none, none, none, none, some (.int x12), some (.int x13), some (.int x14), none] [] σ16 (qI Q) := by
            intro  σ16  h
            subst e85
            replace h := h
            refine X_aload_n dX8_gives_85 rfl rfl ?_
            refine X_get (v := .ref 9) ck_X8 f_X8_9 g_8 rfl (fun _ => rfl) dX8_gives_86 ?_
            refine X_iload dX8_gives_89 rfl ?_
            refine X_iald g_9 dX8_gives_91 h (fun h => ?_)
            refine X_topI h (fun x17 h => ?_)
            refine X_istore (L' := [some (.ref 8), none, none, none, none, none, none, some (.int x12), some (.int x13), some (.int x14), some (.int x17)]) dX8_gives_92 (by decide) rfl ?_
            refine X_iload dX8_gives_94 rfl ?_
            refine X_bipush (v := -59) dX8_gives_96 bipush_m59 ?_
            refine bd_j h (fun J152 e152 h => ?_)
            have j152 : ∀ (x18 : Int32) (x19 : Int32) (σ20 : Sg) , J152 x18 x19 σ20 → Ex mX8_gives 2 false (0, 0) sx G0 152 [some (.ref 8), none, none, none, none, none, none, some (.int x18), some (.int x19), some (.int x14), none] [] σ20 (qI Q) := by
              intro x18 x19 σ20  h
              subst e152
              replace h := h
              refine X_iinc (v := (x14 + 1)) (L' := [some (.ref 8), none, none, none, none, none, none, some (.int x18), some (.int x19), some (.int (x14 + 1)), none]) dX8_gives_152 rfl rfl (by decide) rfl ?_
              refine X_goto (tgt := 59) dX8_gives_155 (by decide) ?_
              exact ih59 _ _ _ _  h
            refine bd_j h (fun J108 e108 h => ?_)
            have j108 : ∀ (σ21 : Sg) , J108  σ21 → Ex mX8_gives 2 false (0, 0) sx G0 108 [some (.ref 8), none, none, none, none, none, none, some (.int x12), none, some (.int x14), some (.int x17)] [] σ21 (qI Q) := by
              intro  σ21  h
              subst e108
              replace h := h
              refine X_iload dX8_gives_108 rfl ?_
              refine X_bipush (v := -59) dX8_gives_110 bipush_m59 ?_
              refine bd_j h (fun J129 e129 h => ?_)
              have j129 : ∀ (x22 : Int32) (σ23 : Sg) , J129 x22 σ23 → Ex mX8_gives 2 false (0, 0) sx G0 129 [some (.ref 8), none, none, none, none, none, none, none, none, some (.int x14), none] [.int x22] σ23 (qI Q) := by
                intro x22 σ23  h
                subst e129
                replace h := h
                refine X_istore (L' := [some (.ref 8), none, none, none, none, none, none, none, some (.int x22), some (.int x14), none]) dX8_gives_129 (by decide) rfl ?_
                refine X_iconst (v := 0) dX8_gives_131 iconst_0 ?_
                refine X_istore (L' := [some (.ref 8), none, none, none, none, none, none, some (.int (0 : Int32)), some (.int x22), some (.int x14), none]) dX8_gives_132 (by decide) rfl ?_
                refine X_goto (tgt := 152) dX8_gives_134 (by decide) ?_
                exact j152 _ _ _  h
              refine bd_j h (fun J124 e124 h => ?_)
              have j124 : ∀ (σ24 : Sg) , J124  σ24 → Ex mX8_gives 2 false (0, 0) sx G0 124 [some (.ref 8), none, none, none, none, none, none, none, none, some (.int x14), none] [] σ24 (qI Q) := by
                intro  σ24  h
                subst e124
                replace h := h
                refine X_iconst (v := 1) dX8_gives_124 iconst_1 ?_
                refine X_goto (tgt := 129) dX8_gives_125 (by decide) ?_
                exact j129 _ _  h
              refine X_icmp_eq (tgt := 124) dX8_gives_112 (by decide) h (fun h => ?_) (fun h => ?_)
              · refine X_drop (L' := [some (.ref 8), none, none, none, none, none, none, none, none, some (.int x14), none]) ⟨rfl, ⟨rfl, trivial⟩⟩ ?_
                exact j124 _  h
              · refine X_aload_n dX8_gives_115 rfl rfl ?_
                refine X_iload dX8_gives_116 rfl ?_
                refine X_callVi [.int x12] [] c_X8_valueAt v_X8_valueAt lk_X8_50 dX8_gives_118 g_8 rfl rfl rfl (by decide) (Nat.le_of_ble_eq_true rfl) rfl (s_X8_valueAt sx x12  σ21 _ h) (fun r26 σ25 h => ?_)
                refine X_if_eq (tgt := 128) dX8_gives_121 (by decide) h (fun h => ?_) (fun h => ?_)
                · refine X_iconst (v := 0) dX8_gives_128 iconst_0 ?_
                  refine X_drop (L' := [some (.ref 8), none, none, none, none, none, none, none, none, some (.int x14), none]) ⟨rfl, ⟨rfl, trivial⟩⟩ ?_
                  exact j129 _ _  h
                · refine X_drop (L' := [some (.ref 8), none, none, none, none, none, none, none, none, some (.int x14), none]) ⟨rfl, ⟨rfl, trivial⟩⟩ ?_
                  exact j124 _  h
            refine X_icmp_eq (tgt := 108) dX8_gives_98 (by decide) h (fun h => ?_) (fun h => ?_)
            · refine X_drop (L' := [some (.ref 8), none, none, none, none, none, none, some (.int x12), none, some (.int x14), some (.int x17)]) ⟨rfl, ⟨rfl, ⟨rfl, ⟨rfl, trivial⟩⟩⟩⟩ ?_
              exact j108 _  h
            · refine X_iload dX8_gives_101 rfl ?_
              refine X_bipush (v := -63) dX8_gives_103 bipush_m63 ?_
              refine X_icmp_ne (tgt := 137) dX8_gives_105 (by decide) h (fun h => ?_) (fun h => ?_)
              · refine X_iload dX8_gives_137 rfl ?_
                refine X_if_eq (tgt := 152) dX8_gives_139 (by decide) h (fun h => ?_) (fun h => ?_)
                · refine X_drop (L' := [some (.ref 8), none, none, none, none, none, none, some (.int x12), some (.int x13), some (.int x14), none]) ⟨rfl, ⟨rfl, ⟨rfl, ⟨rfl, trivial⟩⟩⟩⟩ ?_
                  exact j152 _ _ _  h
                · refine X_aload_n dX8_gives_142 rfl rfl ?_
                  refine X_iload dX8_gives_143 rfl ?_
                  refine X_iload dX8_gives_145 rfl ?_
                  refine X_callVi [.int x17, .int x12] [] c_X8_work v_X8_work lk_X8_54 dX8_gives_147 g_8 rfl rfl rfl (by decide) (Nat.le_of_ble_eq_true rfl) rfl (s_X8_work sx x17 x12  σ16 _ h) (fun r28 σ27 h => ?_)
                  refine X_istore (L' := [some (.ref 8), none, none, none, none, none, none, some (.int r28), some (.int x13), some (.int x14), some (.int x17)]) dX8_gives_150 (by decide) rfl ?_
                  refine X_drop (L' := [some (.ref 8), none, none, none, none, none, none, some (.int r28), some (.int x13), some (.int x14), none]) ⟨rfl, ⟨rfl, ⟨rfl, ⟨rfl, trivial⟩⟩⟩⟩ ?_
                  exact j152 _ _ _  h
              · refine X_drop (L' := [some (.ref 8), none, none, none, none, none, none, some (.int x12), none, some (.int x14), some (.int x17)]) ⟨rfl, ⟨rfl, ⟨rfl, ⟨rfl, trivial⟩⟩⟩⟩ ?_
                exact j108 _  h
          refine X_if_eq (tgt := 85) dX8_gives_70 (by decide) h (fun h => ?_) (fun h => ?_)
          · exact j85 _  h
          · refine X_aload_n dX8_gives_73 rfl rfl ?_
            refine X_get (v := .ref 9) ck_X8 f_X8_9 g_8 rfl (fun _ => rfl) dX8_gives_74 ?_
            refine X_iload dX8_gives_77 rfl ?_
            refine X_iald g_9 dX8_gives_79 h (fun h => ?_)
            refine X_bipush (v := -59) dX8_gives_80 bipush_m59 ?_
            refine X_icmp_eq (tgt := 158) dX8_gives_82 (by decide) h (fun h => ?_) (fun h => ?_)
            · refine X_drop (L' := [some (.ref 8), none, none, none, none, none, none, some (.int x12), some (.int x13), none, none]) ⟨rfl, ⟨rfl, ⟨rfl, trivial⟩⟩⟩ ?_
              exact j158 _ _ _  h
            · exact j85 _  h
    refine X_drop (L' := [some (.ref 8), none, none, none, none, none, none, some (.int (0 : Int32)), some (.int (1 : Int32)), some (.int (0 : Int32)), none]) ⟨rfl, ⟨rfl, ⟨rfl, ⟨rfl, trivial⟩⟩⟩⟩ ?_
    exact key59 _ _ _ _ _  h
  · refine X_iload_n dX8_gives_7 rfl rfl ?_
    refine X_if_ne (tgt := 15) dX8_gives_8 (by decide) h (fun h => ?_) (fun h => ?_)
    · refine X_iconst (v := 0) dX8_gives_15 iconst_0 ?_
      exact X_reti rfl dX8_gives_16 h
    · refine X_iconst (v := 1) dX8_gives_11 iconst_1 ?_
      refine X_goto (tgt := 16) dX8_gives_12 (by decide) ?_
      exact X_reti rfl dX8_gives_16 h
def w_X3_lawBehind (k : Nat) (a0 : Int32) (b0 : Int32) (σ : Sg) (Q : Int32 → Sg → Prop) : Prop := bd (((8 : Int32) * a0) + b0) fun x1 => if x1 < 0 then (Q (0 : Int32) σ) else (if x1 < (480 : Int32) then (vp_in x1 480 ∧ bd (fun (σ2 : Sg) => vp_in x1 480 ∧ Q (((σ2.1 (17 + 2 * k) (Int32.toNatClampNeg x1)) &&& (3 : Int32)) - (1 : Int32)) σ2) fun J115 => if ((σ.1 (17 + 2 * k) (Int32.toNatClampNeg x1)) >>> ((2 : Int32) &&& 31)) = (σ.1 (16 + 2 * k) 5) then (J115 σ) else (vp_in (σ.1 (16 + 2 * k) 0) 6 ∧ bd (imax (0 : Int32) ((σ.1 5 (Int32.toNatClampNeg (σ.1 (16 + 2 * k) 0))) - a0)) fun x3 => bd (imin (99 : Int32) ((σ.1 1 10) + a0)) fun x4 => w_X8_gives (σ.1 1 9) x3 x4 b0 (σ.1 (16 + 2 * k) 0) (σ.1 (16 + 2 * k) 4) σ (fun r6 σ5 => vp_in x1 480 ∧ bd (sI σ5 (17 + 2 * k) (Int32.toNatClampNeg x1) ((((4 : Int32) * (σ.1 (16 + 2 * k) 5)) + (1 : Int32)) + r6)) fun σ7 => J115 σ7))) else (Q (0 : Int32) σ))
set_option maxRecDepth 100000 in
set_option maxHeartbeats 4000000 in
theorem s_X3_lawBehind (sx : Nat × (Nat → Int32)) (k : Nat) (a0 : Int32) (b0 : Int32) (hk : k < 6) (σ : Sg) (Q : Int32 → Sg → Prop) (h : w_X3_lawBehind k a0 b0 σ Q) : Ct mX3_lawBehind 3 false (0, 0) sx G0 [.ref (16 + 2 * k), .int a0, .int b0] σ (qI Q) := by
  refine Ct.of (L := [some (.ref (16 + 2 * k)), some (.int a0), some (.int b0), none, none, none]) (by decide) (Nat.le_of_ble_eq_true rfl) rfl ?_
  unfold w_X3_lawBehind at h
  refine X_bipush (v := 8) dX3_lawBehind_0 bipush_8 ?_
  refine X_iload_n dX3_lawBehind_2 rfl rfl ?_
  refine X_imul dX3_lawBehind_3 ?_
  refine X_iload_n dX3_lawBehind_4 rfl rfl ?_
  refine X_iadd dX3_lawBehind_5 ?_
  refine X_topI h (fun x1 h => ?_)
  refine X_istore_n (L' := [some (.ref (16 + 2 * k)), some (.int a0), some (.int b0), some (.int x1), none, none]) dX3_lawBehind_6 rfl (by decide) rfl ?_
  refine X_iload_n dX3_lawBehind_7 rfl rfl ?_
  refine X_if_lt (tgt := 20) dX3_lawBehind_8 (by decide) h (fun h => ?_) (fun h => ?_)
  · refine X_iconst (v := 0) dX3_lawBehind_20 iconst_0 ?_
    exact X_reti rfl dX3_lawBehind_21 h
  · refine X_iload_n dX3_lawBehind_11 rfl rfl ?_
    refine X_aload_n dX3_lawBehind_12 rfl rfl ?_
    refine X_get (v := .ref (17 + 2 * k)) ck_X3 f_X3_9 (g_coach hk) rfl (fun _ => rfl) dX3_lawBehind_13 ?_
    refine X_alen (g_given hk) rfl dX3_lawBehind_16 ?_
    refine X_icmp_lt (tgt := 22) dX3_lawBehind_17 (by decide) h (fun h => ?_) (fun h => ?_)
    · refine X_aload_n dX3_lawBehind_22 rfl rfl ?_
      refine X_get (v := .ref (17 + 2 * k)) ck_X3 f_X3_9 (g_coach hk) rfl (fun _ => rfl) dX3_lawBehind_23 ?_
      refine X_iload_n dX3_lawBehind_26 rfl rfl ?_
      refine X_iald (g_given hk) dX3_lawBehind_27 h (fun h => ?_)
      refine X_iconst (v := 2) dX3_lawBehind_28 iconst_2 ?_
      refine X_ishr dX3_lawBehind_29 ?_
      refine X_aload_n dX3_lawBehind_30 rfl rfl ?_
      refine X_get (v := .int (σ.1 (16 + 2 * k) 5)) ck_X3 f_X3_30 (g_coach hk) rfl (fun _ => rfl) dX3_lawBehind_31 ?_
      refine bd_j h (fun J115 e115 h => ?_)
      have j115 : ∀ (σ2 : Sg) , J115  σ2 → Ex mX3_lawBehind 3 false (0, 0) sx G0 115 [some (.ref (16 + 2 * k)), none, none, some (.int x1), none, none] [] σ2 (qI Q) := by
        intro  σ2  h
        subst e115
        replace h := h
        refine X_aload_n dX3_lawBehind_115 rfl rfl ?_
        refine X_get (v := .ref (17 + 2 * k)) ck_X3 f_X3_9 (g_coach hk) rfl (fun _ => rfl) dX3_lawBehind_116 ?_
        refine X_iload_n dX3_lawBehind_119 rfl rfl ?_
        refine X_iald (g_given hk) dX3_lawBehind_120 h (fun h => ?_)
        refine X_iconst (v := 3) dX3_lawBehind_121 iconst_3 ?_
        refine X_iand dX3_lawBehind_122 ?_
        refine X_iconst (v := 1) dX3_lawBehind_123 iconst_1 ?_
        refine X_isub dX3_lawBehind_124 ?_
        exact X_reti rfl dX3_lawBehind_125 h
      refine X_icmp_eq (tgt := 115) dX3_lawBehind_34 (by decide) h (fun h => ?_) (fun h => ?_)
      · refine X_drop (L' := [some (.ref (16 + 2 * k)), none, none, some (.int x1), none, none]) ⟨rfl, ⟨rfl, trivial⟩⟩ ?_
        exact j115 _  h
      · refine X_iconst (v := 0) dX3_lawBehind_37 iconst_0 ?_
        refine X_aload_n dX3_lawBehind_38 rfl rfl ?_
        refine X_get (v := .ref 1) ck_X3 f_X3_19 (g_coach hk) rfl (fun _ => rfl) dX3_lawBehind_39 ?_
        refine X_get (v := .ref 5) ck_X7 f_X3_41 g_1 rfl (fun _ => rfl) dX3_lawBehind_42 ?_
        refine X_aload_n dX3_lawBehind_45 rfl rfl ?_
        refine X_get (v := .int (σ.1 (16 + 2 * k) 0)) ck_X3 f_X3_15 (g_coach hk) rfl (fun _ => rfl) dX3_lawBehind_46 ?_
        refine X_iald g_5 dX3_lawBehind_49 h (fun h => ?_)
        refine X_iload_n dX3_lawBehind_50 rfl rfl ?_
        refine X_isub dX3_lawBehind_51 ?_
        refine X_mmax lk_X3_44 dX3_lawBehind_52 (by decide) (Nat.le_of_ble_eq_true rfl) ?_
        refine X_topI h (fun x3 h => ?_)
        refine X_istore (L' := [some (.ref (16 + 2 * k)), some (.int a0), some (.int b0), some (.int x1), some (.int x3), none]) dX3_lawBehind_55 (by decide) rfl ?_
        refine X_bipush (v := 99) dX3_lawBehind_57 bipush_99 ?_
        refine X_aload_n dX3_lawBehind_59 rfl rfl ?_
        refine X_get (v := .ref 1) ck_X3 f_X3_19 (g_coach hk) rfl (fun _ => rfl) dX3_lawBehind_60 ?_
        refine X_get (v := .int (σ.1 1 10)) ck_X7 f_X3_50 g_1 rfl (fun _ => rfl) dX3_lawBehind_63 ?_
        refine X_iload_n dX3_lawBehind_66 rfl rfl ?_
        refine X_iadd dX3_lawBehind_67 ?_
        refine X_mmin lk_X3_53 dX3_lawBehind_68 (by decide) (Nat.le_of_ble_eq_true rfl) ?_
        refine X_topI h (fun x4 h => ?_)
        refine X_istore (L' := [some (.ref (16 + 2 * k)), some (.int a0), some (.int b0), some (.int x1), some (.int x3), some (.int x4)]) dX3_lawBehind_71 (by decide) rfl ?_
        refine X_aload_n dX3_lawBehind_73 rfl rfl ?_
        refine X_get (v := .ref (17 + 2 * k)) ck_X3 f_X3_9 (g_coach hk) rfl (fun _ => rfl) dX3_lawBehind_74 ?_
        refine X_iload_n dX3_lawBehind_77 rfl rfl ?_
        refine X_iconst (v := 4) dX3_lawBehind_78 iconst_4 ?_
        refine X_aload_n dX3_lawBehind_79 rfl rfl ?_
        refine X_get (v := .int (σ.1 (16 + 2 * k) 5)) ck_X3 f_X3_30 (g_coach hk) rfl (fun _ => rfl) dX3_lawBehind_80 ?_
        refine X_imul dX3_lawBehind_83 ?_
        refine X_iconst (v := 1) dX3_lawBehind_84 iconst_1 ?_
        refine X_iadd dX3_lawBehind_85 ?_
        refine X_aload_n dX3_lawBehind_86 rfl rfl ?_
        refine X_get (v := .ref 8) ck_X3 f_X3_23 (g_coach hk) rfl (fun _ => rfl) dX3_lawBehind_87 ?_
        refine X_aload_n dX3_lawBehind_90 rfl rfl ?_
        refine X_get (v := .ref 1) ck_X3 f_X3_19 (g_coach hk) rfl (fun _ => rfl) dX3_lawBehind_91 ?_
        refine X_get (v := .int (σ.1 1 9)) ck_X7 f_X3_56 g_1 rfl (fun _ => rfl) dX3_lawBehind_94 ?_
        refine X_iload dX3_lawBehind_97 rfl ?_
        refine X_iload dX3_lawBehind_99 rfl ?_
        refine X_iload_n dX3_lawBehind_101 rfl rfl ?_
        refine X_aload_n dX3_lawBehind_102 rfl rfl ?_
        refine X_get (v := .int (σ.1 (16 + 2 * k) 0)) ck_X3 f_X3_15 (g_coach hk) rfl (fun _ => rfl) dX3_lawBehind_103 ?_
        refine X_aload_n dX3_lawBehind_106 rfl rfl ?_
        refine X_get (v := .int (σ.1 (16 + 2 * k) 4)) ck_X3 f_X3_27 (g_coach hk) rfl (fun _ => rfl) dX3_lawBehind_107 ?_
        refine X_callVi [.int (σ.1 1 9), .int x3, .int x4, .int b0, .int (σ.1 (16 + 2 * k) 0), .int (σ.1 (16 + 2 * k) 4)] [.int (((4 : Int32) * (σ.1 (16 + 2 * k) 5)) + (1 : Int32)), .int x1, .ref (17 + 2 * k)] c_X8_gives v_X8_gives lk_X3_59 dX3_lawBehind_110 g_8 rfl rfl rfl (by decide) (Nat.le_of_ble_eq_true rfl) rfl (s_X8_gives sx (σ.1 1 9) x3 x4 b0 (σ.1 (16 + 2 * k) 0) (σ.1 (16 + 2 * k) 4)  σ _ h) (fun r6 σ5 h => ?_)
        refine X_iadd dX3_lawBehind_113 ?_
        refine X_iast (g_given hk) dX3_lawBehind_114 h (fun σ7 h => ?_)
        refine X_drop (L' := [some (.ref (16 + 2 * k)), none, none, some (.int x1), none, none]) ⟨rfl, ⟨rfl, trivial⟩⟩ ?_
        exact j115 _  h
    · refine X_iconst (v := 0) dX3_lawBehind_20 iconst_0 ?_
      exact X_reti rfl dX3_lawBehind_21 h
def w_X3_onLand (a0 : Int32) (b0 : Int32) (σ : Sg) (Q : Int32 → Sg → Prop) : Prop := if ((a0 ||| b0) &&& (-16 : Int32)) = 0 then (Q (1 : Int32) σ) else (Q (0 : Int32) σ)
set_option maxRecDepth 100000 in
set_option maxHeartbeats 4000000 in
theorem s_X3_onLand (sx : Nat × (Nat → Int32)) (a0 : Int32) (b0 : Int32) (σ : Sg) (Q : Int32 → Sg → Prop) (h : w_X3_onLand a0 b0 σ Q) : Ct mX3_onLand 0 false (0, 0) sx G0 [.int a0, .int b0] σ (qI Q) := by
  refine Ct.of (L := [some (.int a0), some (.int b0)]) (by decide) (Nat.le_of_ble_eq_true rfl) rfl ?_
  unfold w_X3_onLand at h
  refine X_iload_n dX3_onLand_0 rfl rfl ?_
  refine X_iload_n dX3_onLand_1 rfl rfl ?_
  refine X_ior dX3_onLand_2 ?_
  refine X_bipush (v := -16) dX3_onLand_3 bipush_m16 ?_
  refine X_iand dX3_onLand_5 ?_
  refine X_if_ne (tgt := 13) dX3_onLand_6 (by decide) h (fun h => ?_) (fun h => ?_)
  · refine X_iconst (v := 0) dX3_onLand_13 iconst_0 ?_
    exact X_retz rfl rfl dX3_onLand_14 h
  · refine X_iconst (v := 1) dX3_onLand_9 iconst_1 ?_
    refine X_goto (tgt := 14) dX3_onLand_10 (by decide) ?_
    exact X_retz rfl rfl dX3_onLand_14 h
def w_X3_next_l40 (k : Nat) (J147 : Int32 → Int32 → Int32 → Sg → Prop) : Nat → Int32 → Int32 → Int32 → Int32 → Sg → Prop
  | 0, _, _, _, _, _ => False
  | n40 + 1, x11, x12, x13, x14, σ15 => if (σ15.1 (16 + 2 * k) 4) ≤ x14 then (J147 x11 x12 x13 σ15) else (vp_in x11 8 ∧ vp_in x11 8 ∧ w_X3_onLand (x12 + ((exC 3) (Int32.toNatClampNeg x11))) (x13 + ((exC 4) (Int32.toNatClampNeg x11))) σ15 (fun r17 σ16 => bd (fun (x18 : Int32) (x19 : Int32) (x20 : Int32) (σ21 : Sg) => w_X3_next_l40 k J147 n40 x18 x19 x20 (x14 + 1) σ21) fun J141 => bd (fun (x22 : Int32) (σ23 : Sg) => vp_in x22 8 ∧ bd (x12 + ((exC 3) (Int32.toNatClampNeg x22))) fun x24 => vp_in x22 8 ∧ bd (x13 + ((exC 4) (Int32.toNatClampNeg x22))) fun x25 => bd (sI σ23 (16 + 2 * k) 6 ((σ23.1 (16 + 2 * k) 6) + (1 : Int32))) fun σ26 => J141 x22 x24 x25 σ26) fun J109 => if r17 = 0 then (bd ((x11 + (4 : Int32)) &&& (7 : Int32)) fun x27 => vp_in x27 8 ∧ vp_in x27 8 ∧ w_X3_onLand (x12 + ((exC 3) (Int32.toNatClampNeg x27))) (x13 + ((exC 4) (Int32.toNatClampNeg x27))) σ16 (fun r29 σ28 => if r29 = 0 then (J141 x27 x12 x13 σ28) else (J109 x27 σ28))) else (J109 x11 σ16)))
def w_X3_next (k : Nat) (a0 : Int32) (b0 : Int32) (c0 : Int32) (σ : Sg) (Q : Int32 → Sg → Prop) : Prop := w_X3_lawBehind k b0 (a0 &&& (7 : Int32)) σ (fun r2 σ1 => bd (((a0 + r2) + c0) &&& (7 : Int32)) fun x3 => bd ((a0 >>> ((3 : Int32) &&& 31)) &&& (15 : Int32)) fun x4 => bd (a0 >>> ((7 : Int32) &&& 31)) fun x5 => bd (sI σ1 (16 + 2 * k) 6 (0 : Int32)) fun σ6 => bd (fun (x7 : Int32) (x8 : Int32) (x9 : Int32) (σ10 : Sg) => Q ((((128 : Int32) * x9) + ((8 : Int32) * x8)) + x7) σ10) fun J147 => ∃ n, w_X3_next_l40 k J147 n x3 x4 x5 (0 : Int32) σ6)
set_option maxRecDepth 100000 in
set_option maxHeartbeats 4000000 in
theorem s_X3_next (sx : Nat × (Nat → Int32)) (k : Nat) (a0 : Int32) (b0 : Int32) (c0 : Int32) (hk : k < 6) (σ : Sg) (Q : Int32 → Sg → Prop) (h : w_X3_next k a0 b0 c0 σ Q) : Ct mX3_next 4 false (0, 0) sx G0 [.ref (16 + 2 * k), .int a0, .int b0, .int c0] σ (qI Q) := by
  refine Ct.of (L := [some (.ref (16 + 2 * k)), some (.int a0), some (.int b0), some (.int c0), none, none, none, none]) (by decide) (Nat.le_of_ble_eq_true rfl) rfl ?_
  unfold w_X3_next at h
  refine X_iload_n dX3_next_0 rfl rfl ?_
  refine X_aload_n dX3_next_1 rfl rfl ?_
  refine X_iload_n dX3_next_2 rfl rfl ?_
  refine X_iload_n dX3_next_3 rfl rfl ?_
  refine X_bipush (v := 7) dX3_next_4 bipush_7 ?_
  refine X_iand dX3_next_6 ?_
  refine X_callVi [.int b0, .int (a0 &&& (7 : Int32))] [.int a0] c_X3_lawBehind v_X3_lawBehind lk_X3_65 dX3_next_7 (g_coach hk) rfl rfl rfl (by decide) (Nat.le_of_ble_eq_true rfl) rfl (s_X3_lawBehind sx k b0 (a0 &&& (7 : Int32)) hk σ _ h) (fun r2 σ1 h => ?_)
  refine X_iadd dX3_next_10 ?_
  refine X_iload_n dX3_next_11 rfl rfl ?_
  refine X_iadd dX3_next_12 ?_
  refine X_bipush (v := 7) dX3_next_13 bipush_7 ?_
  refine X_iand dX3_next_15 ?_
  refine X_topI h (fun x3 h => ?_)
  refine X_istore (L' := [some (.ref (16 + 2 * k)), some (.int a0), some (.int b0), some (.int c0), some (.int x3), none, none, none]) dX3_next_16 (by decide) rfl ?_
  refine X_iload_n dX3_next_18 rfl rfl ?_
  refine X_iconst (v := 3) dX3_next_19 iconst_3 ?_
  refine X_ishr dX3_next_20 ?_
  refine X_bipush (v := 15) dX3_next_21 bipush_15 ?_
  refine X_iand dX3_next_23 ?_
  refine X_topI h (fun x4 h => ?_)
  refine X_istore (L' := [some (.ref (16 + 2 * k)), some (.int a0), some (.int b0), some (.int c0), some (.int x3), some (.int x4), none, none]) dX3_next_24 (by decide) rfl ?_
  refine X_iload_n dX3_next_26 rfl rfl ?_
  refine X_bipush (v := 7) dX3_next_27 bipush_7 ?_
  refine X_ishr dX3_next_29 ?_
  refine X_topI h (fun x5 h => ?_)
  refine X_istore (L' := [some (.ref (16 + 2 * k)), some (.int a0), some (.int b0), some (.int c0), some (.int x3), some (.int x4), some (.int x5), none]) dX3_next_30 (by decide) rfl ?_
  refine X_aload_n dX3_next_32 rfl rfl ?_
  refine X_iconst (v := 0) dX3_next_33 iconst_0 ?_
  refine X_putI ck_X3 f_X3_68 rfl (g_coach hk) rfl rfl rfl dX3_next_34 h (fun σ6 h => ?_)
  refine X_iconst (v := 0) dX3_next_37 iconst_0 ?_
  refine X_istore (L' := [some (.ref (16 + 2 * k)), some (.int a0), some (.int b0), some (.int c0), some (.int x3), some (.int x4), some (.int x5), some (.int (0 : Int32))]) dX3_next_38 (by decide) rfl ?_
  refine bd_j h (fun J147 e147 h => ?_)
  have j147 : ∀ (x7 : Int32) (x8 : Int32) (x9 : Int32) (σ10 : Sg) , J147 x7 x8 x9 σ10 → Ex mX3_next 4 false (0, 0) sx G0 147 [none, none, none, none, some (.int x7), some (.int x8), some (.int x9), none] [] σ10 (qI Q) := by
    intro x7 x8 x9 σ10  h
    subst e147
    replace h := h
    refine X_sipush (v := 128) dX3_next_147 sipush_128 ?_
    refine X_iload dX3_next_150 rfl ?_
    refine X_imul dX3_next_152 ?_
    refine X_bipush (v := 8) dX3_next_153 bipush_8 ?_
    refine X_iload dX3_next_155 rfl ?_
    refine X_imul dX3_next_157 ?_
    refine X_iadd dX3_next_158 ?_
    refine X_iload dX3_next_159 rfl ?_
    refine X_iadd dX3_next_161 ?_
    exact X_reti rfl dX3_next_162 h
  obtain ⟨n40, h⟩ := h
  have key40 : ∀ (n : Nat) (x11 : Int32) (x12 : Int32) (x13 : Int32) (x14 : Int32) (σ15 : Sg) , w_X3_next_l40 k J147 n x11 x12 x13 x14 σ15 → Ex mX3_next 4 false (0, 0) sx G0 40 [some (.ref (16 + 2 * k)), none, none, none, some (.int x11), some (.int x12), some (.int x13), some (.int x14)] [] σ15 (qI Q) := by
    intro n40
    induction n40 with
    | zero => intro _ _ _ _ _  h; exact h.elim
    | succ n40 ih40 =>
      intro x11 x12 x13 x14 σ15  h
      unfold w_X3_next_l40 at h
      refine X_iload dX3_next_40 rfl ?_
      refine X_aload_n dX3_next_42 rfl rfl ?_
      refine X_get (v := .int (σ15.1 (16 + 2 * k) 4)) ck_X3 f_X3_27 (g_coach hk) rfl (fun _ => rfl) dX3_next_43 ?_
      refine X_icmp_ge (tgt := 147) dX3_next_46 (by decide) h (fun h => ?_) (fun h => ?_)
      · refine X_drop (L' := [none, none, none, none, some (.int x11), some (.int x12), some (.int x13), none]) ⟨rfl, ⟨rfl, ⟨rfl, trivial⟩⟩⟩ ?_
        exact j147 _ _ _ _  h
      · refine X_iload dX3_next_49 rfl ?_
        refine X_gets (j := 2) (v := 3) rfl rfl f_X3_71 dX3_next_51 ?_
        refine X_iload dX3_next_54 rfl ?_
        refine X_ialdX (v := 3) (f := (exC 3)) (n := 8) (by decide) rfl rfl dX3_next_56 h (fun h => ?_)
        refine X_iadd dX3_next_57 ?_
        refine X_iload dX3_next_58 rfl ?_
        refine X_gets (j := 3) (v := 4) rfl rfl f_X3_74 dX3_next_60 ?_
        refine X_iload dX3_next_63 rfl ?_
        refine X_ialdX (v := 4) (f := (exC 4)) (n := 8) (by decide) rfl rfl dX3_next_65 h (fun h => ?_)
        refine X_iadd dX3_next_66 ?_
        refine X_callSi [.int (x12 + ((exC 3) (Int32.toNatClampNeg x11))), .int (x13 + ((exC 4) (Int32.toNatClampNeg x11)))] [] c_X3_onLand t_X3_onLand lk_X3_77 dX3_next_67 rfl (by decide) (Nat.le_of_ble_eq_true rfl) rfl (s_X3_onLand sx (x12 + ((exC 3) (Int32.toNatClampNeg x11))) (x13 + ((exC 4) (Int32.toNatClampNeg x11)))  σ15 _ h) (fun r17 σ16 h => ?_)
        refine bd_j h (fun J141 e141 h => ?_)
        have j141 : ∀ (x18 : Int32) (x19 : Int32) (x20 : Int32) (σ21 : Sg) , J141 x18 x19 x20 σ21 → Ex mX3_next 4 false (0, 0) sx G0 141 [some (.ref (16 + 2 * k)), none, none, none, some (.int x18), some (.int x19), some (.int x20), some (.int x14)] [] σ21 (qI Q) := by
          intro x18 x19 x20 σ21  h
          subst e141
          replace h := h
          refine X_iinc (v := (x14 + 1)) (L' := [some (.ref (16 + 2 * k)), none, none, none, some (.int x18), some (.int x19), some (.int x20), some (.int (x14 + 1))]) dX3_next_141 rfl rfl (by decide) rfl ?_
          refine X_goto (tgt := 40) dX3_next_144 (by decide) ?_
          exact ih40 _ _ _ _ _  h
        refine bd_j h (fun J109 e109 h => ?_)
        have j109 : ∀ (x22 : Int32) (σ23 : Sg) , J109 x22 σ23 → Ex mX3_next 4 false (0, 0) sx G0 109 [some (.ref (16 + 2 * k)), none, none, none, some (.int x22), some (.int x12), some (.int x13), some (.int x14)] [] σ23 (qI Q) := by
          intro x22 σ23  h
          subst e109
          replace h := h
          refine X_iload dX3_next_109 rfl ?_
          refine X_gets (j := 2) (v := 3) rfl rfl f_X3_71 dX3_next_111 ?_
          refine X_iload dX3_next_114 rfl ?_
          refine X_ialdX (v := 3) (f := (exC 3)) (n := 8) (by decide) rfl rfl dX3_next_116 h (fun h => ?_)
          refine X_iadd dX3_next_117 ?_
          refine X_topI h (fun x24 h => ?_)
          refine X_istore (L' := [some (.ref (16 + 2 * k)), none, none, none, some (.int x22), some (.int x24), some (.int x13), some (.int x14)]) dX3_next_118 (by decide) rfl ?_
          refine X_iload dX3_next_120 rfl ?_
          refine X_gets (j := 3) (v := 4) rfl rfl f_X3_74 dX3_next_122 ?_
          refine X_iload dX3_next_125 rfl ?_
          refine X_ialdX (v := 4) (f := (exC 4)) (n := 8) (by decide) rfl rfl dX3_next_127 h (fun h => ?_)
          refine X_iadd dX3_next_128 ?_
          refine X_topI h (fun x25 h => ?_)
          refine X_istore (L' := [some (.ref (16 + 2 * k)), none, none, none, some (.int x22), some (.int x24), some (.int x25), some (.int x14)]) dX3_next_129 (by decide) rfl ?_
          refine X_aload_n dX3_next_131 rfl rfl ?_
          refine X_dup dX3_next_132 rfl ?_
          refine X_get (v := .int (σ23.1 (16 + 2 * k) 6)) ck_X3 f_X3_68 (g_coach hk) rfl (fun _ => rfl) dX3_next_133 ?_
          refine X_iconst (v := 1) dX3_next_136 iconst_1 ?_
          refine X_iadd dX3_next_137 ?_
          refine X_putI ck_X3 f_X3_68 rfl (g_coach hk) rfl rfl rfl dX3_next_138 h (fun σ26 h => ?_)
          exact j141 _ _ _ _  h
        refine X_if_ne (tgt := 109) dX3_next_70 (by decide) h (fun h => ?_) (fun h => ?_)
        · exact j109 _ _  h
        · refine X_iload dX3_next_73 rfl ?_
          refine X_iconst (v := 4) dX3_next_75 iconst_4 ?_
          refine X_iadd dX3_next_76 ?_
          refine X_bipush (v := 7) dX3_next_77 bipush_7 ?_
          refine X_iand dX3_next_79 ?_
          refine X_topI h (fun x27 h => ?_)
          refine X_istore (L' := [some (.ref (16 + 2 * k)), none, none, none, some (.int x27), some (.int x12), some (.int x13), some (.int x14)]) dX3_next_80 (by decide) rfl ?_
          refine X_iload dX3_next_82 rfl ?_
          refine X_gets (j := 2) (v := 3) rfl rfl f_X3_71 dX3_next_84 ?_
          refine X_iload dX3_next_87 rfl ?_
          refine X_ialdX (v := 3) (f := (exC 3)) (n := 8) (by decide) rfl rfl dX3_next_89 h (fun h => ?_)
          refine X_iadd dX3_next_90 ?_
          refine X_iload dX3_next_91 rfl ?_
          refine X_gets (j := 3) (v := 4) rfl rfl f_X3_74 dX3_next_93 ?_
          refine X_iload dX3_next_96 rfl ?_
          refine X_ialdX (v := 4) (f := (exC 4)) (n := 8) (by decide) rfl rfl dX3_next_98 h (fun h => ?_)
          refine X_iadd dX3_next_99 ?_
          refine X_callSi [.int (x12 + ((exC 3) (Int32.toNatClampNeg x27))), .int (x13 + ((exC 4) (Int32.toNatClampNeg x27)))] [] c_X3_onLand t_X3_onLand lk_X3_77 dX3_next_100 rfl (by decide) (Nat.le_of_ble_eq_true rfl) rfl (s_X3_onLand sx (x12 + ((exC 3) (Int32.toNatClampNeg x27))) (x13 + ((exC 4) (Int32.toNatClampNeg x27)))  σ16 _ h) (fun r29 σ28 h => ?_)
          refine X_if_ne (tgt := 109) dX3_next_103 (by decide) h (fun h => ?_) (fun h => ?_)
          · exact j109 _ _  h
          · refine X_goto (tgt := 141) dX3_next_106 (by decide) ?_
            exact j141 _ _ _ _  h
  refine X_drop (L' := [some (.ref (16 + 2 * k)), none, none, none, some (.int x3), some (.int x4), some (.int x5), some (.int (0 : Int32))]) ⟨rfl, ⟨rfl, ⟨rfl, ⟨rfl, ⟨rfl, trivial⟩⟩⟩⟩⟩ ?_
  exact key40 _ _ _ _ _ _  h
def w_X1_goOn_l32 (a0 : Nat) (b0 : Int32) (c0 : Nat) (d0 : Nat) (x2 : Int32) (J98 : Sg → Prop) : Nat → Int32 → Sg → Prop
  | 0, _, _ => False
  | n32 + 1, x5, σ6 => if (3 : Int32) ≤ x5 then (J98 σ6) else (vp_in x2 2048 ∧ bd (fun (x7 : Int32) (x8 : Int32) (σ9 : Sg) => w_X1_shiftOf b0 σ9 (fun r11 σ10 => bd ((x7 + x8) + (x5 <<< (r11 &&& 31))) fun x12 => vp_in x5 3 ∧ w_X3_next a0 x2 b0 ((exC 5) (Int32.toNatClampNeg x5)) σ10 (fun r14 σ13 => vp_in r14 2048 ∧ vp_in r14 2048 ∧ bd (sI σ13 d0 (Int32.toNatClampNeg r14) (imin (σ13.1 d0 (Int32.toNatClampNeg r14)) x12)) fun σ15 => w_X1_goOn_l32 a0 b0 c0 d0 x2 J98 n32 (x5 + 1) σ15))) fun J53 => if x5 = 0 then (J53 (σ6.1 c0 (Int32.toNatClampNeg x2)) (0 : Int32) σ6) else (J53 (σ6.1 c0 (Int32.toNatClampNeg x2)) (16777216 : Int32) σ6))
def w_X1_goOn_l9 (a0 : Nat) (b0 : Int32) (c0 : Nat) (d0 : Nat) (Q : Sg → Prop) : Nat → Int32 → Sg → Prop
  | 0, _, _ => False
  | n9 + 1, x2, σ3 => if (2048 : Int32) ≤ x2 then (Q σ3) else (vp_in x2 2048 ∧ bd (fun (σ4 : Sg) => w_X1_goOn_l9 a0 b0 c0 d0 Q n9 (x2 + 1) σ4) fun J98 => if (σ3.1 c0 (Int32.toNatClampNeg x2)) = (2147483647 : Int32) then (J98 σ3) else (∃ n, w_X1_goOn_l32 a0 b0 c0 d0 x2 J98 n (0 : Int32) σ3))
def w_X1_goOn (a0 : Nat) (b0 : Int32) (c0 : Nat) (d0 : Nat) (σ : Sg) (Q : Sg → Prop) : Prop := w_J7_fill_53178 d0 2048 (2147483647 : Int32) σ (fun  σ1 => ∃ n, w_X1_goOn_l9 a0 b0 c0 d0 Q n (0 : Int32) σ1)
set_option maxRecDepth 100000 in
set_option maxHeartbeats 4000000 in
theorem s_X1_goOn (sx : Nat × (Nat → Int32)) (a0 : Nat) (b0 : Int32) (c0 : Nat) (d0 : Nat) (ha0 : a0 < 6) (hc0 : G0[c0]? = some (.inl (.int, 2048, []))) (hd0 : G0[d0]? = some (.inl (.int, 2048, []))) (σ : Sg) (Q : Sg → Prop) (h : w_X1_goOn a0 b0 c0 d0 σ Q) : Ct mX1_goOn 5 false (0, 0) sx G0 [.ref (16 + 2 * a0), .int b0, .ref c0, .ref d0] σ (qV Q) := by
  refine Ct.of (L := [some (.ref (16 + 2 * a0)), some (.int b0), some (.ref c0), some (.ref d0), none, none, none, none]) (by decide) (Nat.le_of_ble_eq_true rfl) rfl ?_
  unfold w_X1_goOn at h
  refine X_aload_n dX1_goOn_0 rfl rfl ?_
  refine X_ldc (v := 2147483647) dX1_goOn_1 k_X1_42 ?_
  refine X_callSv [.ref d0, .int (2147483647 : Int32)] [] c_J7_fill_53178 t_J7_fill_53178 lk_X1_43 dX1_goOn_3 rfl (by decide) (Nat.le_of_ble_eq_true rfl) rfl (s_J7_fill_53178 sx d0 2048 (2147483647 : Int32) hd0 σ _ h) (fun  σ1 h => ?_)
  refine X_iconst (v := 0) dX1_goOn_6 iconst_0 ?_
  refine X_istore (L' := [some (.ref (16 + 2 * a0)), some (.int b0), some (.ref c0), some (.ref d0), some (.int (0 : Int32)), none, none, none]) dX1_goOn_7 (by decide) rfl ?_
  obtain ⟨n9, h⟩ := h
  have key9 : ∀ (n : Nat) (x2 : Int32) (σ3 : Sg) , w_X1_goOn_l9 a0 b0 c0 d0 Q n x2 σ3 → Ex mX1_goOn 5 false (0, 0) sx G0 9 [some (.ref (16 + 2 * a0)), some (.int b0), some (.ref c0), some (.ref d0), some (.int x2), none, none, none] [] σ3 (qV Q) := by
    intro n9
    induction n9 with
    | zero => intro _ _  h; exact h.elim
    | succ n9 ih9 =>
      intro x2 σ3  h
      unfold w_X1_goOn_l9 at h
      refine X_iload dX1_goOn_9 rfl ?_
      refine X_sipush (v := 2048) dX1_goOn_11 sipush_2048 ?_
      refine X_icmp_ge (tgt := 104) dX1_goOn_14 (by decide) h (fun h => ?_) (fun h => ?_)
      · exact X_retv rfl dX1_goOn_104 h
      · refine X_aload_n dX1_goOn_17 rfl rfl ?_
        refine X_iload dX1_goOn_18 rfl ?_
        refine X_iald hc0 dX1_goOn_20 h (fun h => ?_)
        refine X_ldc (v := 2147483647) dX1_goOn_21 k_X1_42 ?_
        refine bd_j h (fun J98 e98 h => ?_)
        have j98 : ∀ (σ4 : Sg) , J98  σ4 → Ex mX1_goOn 5 false (0, 0) sx G0 98 [some (.ref (16 + 2 * a0)), some (.int b0), some (.ref c0), some (.ref d0), some (.int x2), none, none, none] [] σ4 (qV Q) := by
          intro  σ4  h
          subst e98
          replace h := h
          refine X_iinc (v := (x2 + 1)) (L' := [some (.ref (16 + 2 * a0)), some (.int b0), some (.ref c0), some (.ref d0), some (.int (x2 + 1)), none, none, none]) dX1_goOn_98 rfl rfl (by decide) rfl ?_
          refine X_goto (tgt := 9) dX1_goOn_101 (by decide) ?_
          exact ih9 _ _  h
        refine X_icmp_ne (tgt := 29) dX1_goOn_23 (by decide) h (fun h => ?_) (fun h => ?_)
        · refine X_iconst (v := 0) dX1_goOn_29 iconst_0 ?_
          refine X_istore (L' := [some (.ref (16 + 2 * a0)), some (.int b0), some (.ref c0), some (.ref d0), some (.int x2), some (.int (0 : Int32)), none, none]) dX1_goOn_30 (by decide) rfl ?_
          obtain ⟨n32, h⟩ := h
          have key32 : ∀ (n : Nat) (x5 : Int32) (σ6 : Sg) , w_X1_goOn_l32 a0 b0 c0 d0 x2 J98 n x5 σ6 → Ex mX1_goOn 5 false (0, 0) sx G0 32 [some (.ref (16 + 2 * a0)), some (.int b0), some (.ref c0), some (.ref d0), some (.int x2), some (.int x5), none, none] [] σ6 (qV Q) := by
            intro n32
            induction n32 with
            | zero => intro _ _  h; exact h.elim
            | succ n32 ih32 =>
              intro x5 σ6  h
              unfold w_X1_goOn_l32 at h
              refine X_iload dX1_goOn_32 rfl ?_
              refine X_iconst (v := 3) dX1_goOn_34 iconst_3 ?_
              refine X_icmp_ge (tgt := 98) dX1_goOn_35 (by decide) h (fun h => ?_) (fun h => ?_)
              · refine X_drop (L' := [some (.ref (16 + 2 * a0)), some (.int b0), some (.ref c0), some (.ref d0), some (.int x2), none, none, none]) ⟨rfl, ⟨rfl, ⟨rfl, ⟨rfl, ⟨rfl, trivial⟩⟩⟩⟩⟩ ?_
                exact j98 _  h
              · refine X_aload_n dX1_goOn_38 rfl rfl ?_
                refine X_iload dX1_goOn_39 rfl ?_
                refine X_iald hc0 dX1_goOn_41 h (fun h => ?_)
                refine X_iload dX1_goOn_42 rfl ?_
                refine bd_j h (fun J53 e53 h => ?_)
                have j53 : ∀ (x7 : Int32) (x8 : Int32) (σ9 : Sg) , J53 x7 x8 σ9 → Ex mX1_goOn 5 false (0, 0) sx G0 53 [some (.ref (16 + 2 * a0)), some (.int b0), some (.ref c0), some (.ref d0), some (.int x2), some (.int x5), none, none] [.int x8, .int x7] σ9 (qV Q) := by
                  intro x7 x8 σ9  h
                  subst e53
                  replace h := h
                  refine X_iadd dX1_goOn_53 ?_
                  refine X_iload dX1_goOn_54 rfl ?_
                  refine X_iload_n dX1_goOn_56 rfl rfl ?_
                  refine X_callSi [.int b0] [.int x5, .int (x7 + x8)] c_X1_shiftOf t_X1_shiftOf lk_X1_62 dX1_goOn_57 rfl (by decide) (Nat.le_of_ble_eq_true rfl) rfl (s_X1_shiftOf sx b0  σ9 _ h) (fun r11 σ10 h => ?_)
                  refine X_ishl dX1_goOn_60 ?_
                  refine X_iadd dX1_goOn_61 ?_
                  refine X_topI h (fun x12 h => ?_)
                  refine X_istore (L' := [some (.ref (16 + 2 * a0)), some (.int b0), some (.ref c0), some (.ref d0), some (.int x2), some (.int x5), some (.int x12), none]) dX1_goOn_62 (by decide) rfl ?_
                  refine X_aload_n dX1_goOn_64 rfl rfl ?_
                  refine X_iload dX1_goOn_65 rfl ?_
                  refine X_iload_n dX1_goOn_67 rfl rfl ?_
                  refine X_gets (j := 4) (v := 5) rfl rfl f_X1_66 dX1_goOn_68 ?_
                  refine X_iload dX1_goOn_71 rfl ?_
                  refine X_ialdX (v := 5) (f := (exC 5)) (n := 3) (by decide) rfl rfl dX1_goOn_73 h (fun h => ?_)
                  refine X_callVi [.int x2, .int b0, .int ((exC 5) (Int32.toNatClampNeg x5))] [] c_X3_next v_X3_next lk_X1_69 dX1_goOn_74 (g_coach ha0) rfl rfl rfl (by decide) (Nat.le_of_ble_eq_true rfl) rfl (s_X3_next sx a0 x2 b0 ((exC 5) (Int32.toNatClampNeg x5)) ha0 σ10 _ h) (fun r14 σ13 h => ?_)
                  refine X_istore (L' := [some (.ref (16 + 2 * a0)), some (.int b0), some (.ref c0), some (.ref d0), some (.int x2), some (.int x5), some (.int x12), some (.int r14)]) dX1_goOn_77 (by decide) rfl ?_
                  refine X_aload_n dX1_goOn_79 rfl rfl ?_
                  refine X_iload dX1_goOn_80 rfl ?_
                  refine X_aload_n dX1_goOn_82 rfl rfl ?_
                  refine X_iload dX1_goOn_83 rfl ?_
                  refine X_iald hd0 dX1_goOn_85 h (fun h => ?_)
                  refine X_iload dX1_goOn_86 rfl ?_
                  refine X_mmin lk_X1_73 dX1_goOn_88 (by decide) (Nat.le_of_ble_eq_true rfl) ?_
                  refine X_iast hd0 dX1_goOn_91 h (fun σ15 h => ?_)
                  refine X_iinc (v := (x5 + 1)) (L' := [some (.ref (16 + 2 * a0)), some (.int b0), some (.ref c0), some (.ref d0), some (.int x2), some (.int (x5 + 1)), some (.int x12), some (.int r14)]) dX1_goOn_92 rfl rfl (by decide) rfl ?_
                  refine X_goto (tgt := 32) dX1_goOn_95 (by decide) ?_
                  refine X_drop (L' := [some (.ref (16 + 2 * a0)), some (.int b0), some (.ref c0), some (.ref d0), some (.int x2), some (.int (x5 + 1)), none, none]) ⟨rfl, ⟨rfl, ⟨rfl, ⟨rfl, ⟨rfl, ⟨rfl, trivial⟩⟩⟩⟩⟩⟩ ?_
                  exact ih32 _ _  h
                refine X_if_ne (tgt := 51) dX1_goOn_44 (by decide) h (fun h => ?_) (fun h => ?_)
                · refine X_ldc (v := 16777216) dX1_goOn_51 k_X1_61 ?_
                  exact j53 _ _ _  h
                · refine X_iconst (v := 0) dX1_goOn_47 iconst_0 ?_
                  refine X_goto (tgt := 53) dX1_goOn_48 (by decide) ?_
                  exact j53 _ _ _  h
          exact key32 _ _ _  h
        · refine X_goto (tgt := 98) dX1_goOn_26 (by decide) ?_
          exact j98 _  h
  exact key9 _ _ _  h
def w_X7_apart (a0 : Int32) (b0 : Int32) (σ : Sg) (Q : Int32 → Sg → Prop) : Prop := Q (imax (iabs ((a0 &&& (15 : Int32)) - (b0 &&& (15 : Int32)))) (iabs ((a0 >>> ((4 : Int32) &&& 31)) - (b0 >>> ((4 : Int32) &&& 31))))) σ
set_option maxRecDepth 100000 in
set_option maxHeartbeats 4000000 in
theorem s_X7_apart (sx : Nat × (Nat → Int32)) (a0 : Int32) (b0 : Int32) (σ : Sg) (Q : Int32 → Sg → Prop) (h : w_X7_apart a0 b0 σ Q) : Ct mX7_apart 1 false (0, 0) sx G0 [.int a0, .int b0] σ (qI Q) := by
  refine Ct.of (L := [some (.int a0), some (.int b0)]) (by decide) (Nat.le_of_ble_eq_true rfl) rfl ?_
  unfold w_X7_apart at h
  refine X_iload_n dX7_apart_0 rfl rfl ?_
  refine X_bipush (v := 15) dX7_apart_1 bipush_15 ?_
  refine X_iand dX7_apart_3 ?_
  refine X_iload_n dX7_apart_4 rfl rfl ?_
  refine X_bipush (v := 15) dX7_apart_5 bipush_15 ?_
  refine X_iand dX7_apart_7 ?_
  refine X_isub dX7_apart_8 ?_
  refine X_mabs lk_X7_44 dX7_apart_9 (by decide) (Nat.le_of_ble_eq_true rfl) ?_
  refine X_iload_n dX7_apart_12 rfl rfl ?_
  refine X_iconst (v := 4) dX7_apart_13 iconst_4 ?_
  refine X_ishr dX7_apart_14 ?_
  refine X_iload_n dX7_apart_15 rfl rfl ?_
  refine X_iconst (v := 4) dX7_apart_16 iconst_4 ?_
  refine X_ishr dX7_apart_17 ?_
  refine X_isub dX7_apart_18 ?_
  refine X_mabs lk_X7_44 dX7_apart_19 (by decide) (Nat.le_of_ble_eq_true rfl) ?_
  refine X_mmax lk_X7_50 dX7_apart_22 (by decide) (Nat.le_of_ble_eq_true rfl) ?_
  exact X_reti rfl dX7_apart_25 h
def w_X7_near (a0 : Int32) (b0 : Int32) (σ : Sg) (Q : Int32 → Sg → Prop) : Prop := w_X7_apart a0 b0 σ (fun r2 σ1 => if (σ1.1 1 8) < r2 then (Q (0 : Int32) σ1) else (Q (1 : Int32) σ1))
set_option maxRecDepth 100000 in
set_option maxHeartbeats 4000000 in
theorem s_X7_near (sx : Nat × (Nat → Int32)) (a0 : Int32) (b0 : Int32) (σ : Sg) (Q : Int32 → Sg → Prop) (h : w_X7_near a0 b0 σ Q) : Ct mX7_near 2 false (0, 0) sx G0 [.ref 1, .int a0, .int b0] σ (qI Q) := by
  refine Ct.of (L := [some (.ref 1), some (.int a0), some (.int b0)]) (by decide) (Nat.le_of_ble_eq_true rfl) rfl ?_
  unfold w_X7_near at h
  refine X_iload_n dX7_near_0 rfl rfl ?_
  refine X_iload_n dX7_near_1 rfl rfl ?_
  refine X_callSi [.int a0, .int b0] [] c_X7_apart t_X7_apart lk_X7_54 dX7_near_2 rfl (by decide) (Nat.le_of_ble_eq_true rfl) rfl (s_X7_apart sx a0 b0  σ _ h) (fun r2 σ1 h => ?_)
  refine X_aload_n dX7_near_5 rfl rfl ?_
  refine X_get (v := .int (σ1.1 1 8)) ck_X7 f_X7_30 g_1 rfl (fun _ => rfl) dX7_near_6 ?_
  refine X_icmp_gt (tgt := 16) dX7_near_9 (by decide) h (fun h => ?_) (fun h => ?_)
  · refine X_iconst (v := 0) dX7_near_16 iconst_0 ?_
    exact X_retz rfl rfl dX7_near_17 h
  · refine X_iconst (v := 1) dX7_near_12 iconst_1 ?_
    refine X_goto (tgt := 17) dX7_near_13 (by decide) ?_
    exact X_retz rfl rfl dX7_near_17 h
def w_X1_leastNear_l6 (a0 : Nat) (b0 : Int32) (Q : Int32 → Sg → Prop) : Nat → Int32 → Int32 → Sg → Prop
  | 0, _, _, _ => False
  | n6 + 1, x1, x2, σ3 => if (2048 : Int32) ≤ x2 then (Q x1 σ3) else (vp_in x2 2048 ∧ bd (fun (x4 : Int32) (σ5 : Sg) => w_X1_leastNear_l6 a0 b0 Q n6 x4 (x2 + 1) σ5) fun J42 => if x1 ≤ (σ3.1 a0 (Int32.toNatClampNeg x2)) then (J42 x1 σ3) else (w_X7_near (x2 >>> ((3 : Int32) &&& 31)) b0 σ3 (fun r7 σ6 => if r7 = 0 then (J42 x1 σ6) else (vp_in x2 2048 ∧ bd (σ6.1 a0 (Int32.toNatClampNeg x2)) fun x8 => J42 x8 σ6))))
def w_X1_leastNear (a0 : Nat) (b0 : Int32) (σ : Sg) (Q : Int32 → Sg → Prop) : Prop := ∃ n, w_X1_leastNear_l6 a0 b0 Q n (2147483647 : Int32) (0 : Int32) σ
set_option maxRecDepth 100000 in
set_option maxHeartbeats 4000000 in
theorem s_X1_leastNear (sx : Nat × (Nat → Int32)) (a0 : Nat) (b0 : Int32) (ha0 : G0[a0]? = some (.inl (.int, 2048, []))) (σ : Sg) (Q : Int32 → Sg → Prop) (h : w_X1_leastNear a0 b0 σ Q) : Ct mX1_leastNear 3 false (0, 0) sx G0 [.ref 32, .ref a0, .int b0] σ (qI Q) := by
  refine Ct.of (L := [some (.ref 32), some (.ref a0), some (.int b0), none, none]) (by decide) (Nat.le_of_ble_eq_true rfl) rfl ?_
  unfold w_X1_leastNear at h
  refine X_ldc (v := 2147483647) dX1_leastNear_0 k_X1_42 ?_
  refine X_istore_n (L' := [some (.ref 32), some (.ref a0), some (.int b0), some (.int (2147483647 : Int32)), none]) dX1_leastNear_2 rfl (by decide) rfl ?_
  refine X_iconst (v := 0) dX1_leastNear_3 iconst_0 ?_
  refine X_istore (L' := [some (.ref 32), some (.ref a0), some (.int b0), some (.int (2147483647 : Int32)), some (.int (0 : Int32))]) dX1_leastNear_4 (by decide) rfl ?_
  obtain ⟨n6, h⟩ := h
  have key6 : ∀ (n : Nat) (x1 : Int32) (x2 : Int32) (σ3 : Sg) , w_X1_leastNear_l6 a0 b0 Q n x1 x2 σ3 → Ex mX1_leastNear 3 false (0, 0) sx G0 6 [some (.ref 32), some (.ref a0), some (.int b0), some (.int x1), some (.int x2)] [] σ3 (qI Q) := by
    intro n6
    induction n6 with
    | zero => intro _ _ _  h; exact h.elim
    | succ n6 ih6 =>
      intro x1 x2 σ3  h
      unfold w_X1_leastNear_l6 at h
      refine X_iload dX1_leastNear_6 rfl ?_
      refine X_sipush (v := 2048) dX1_leastNear_8 sipush_2048 ?_
      refine X_icmp_ge (tgt := 48) dX1_leastNear_11 (by decide) h (fun h => ?_) (fun h => ?_)
      · refine X_iload_n dX1_leastNear_48 rfl rfl ?_
        exact X_reti rfl dX1_leastNear_49 h
      · refine X_aload_n dX1_leastNear_14 rfl rfl ?_
        refine X_iload dX1_leastNear_15 rfl ?_
        refine X_iald ha0 dX1_leastNear_17 h (fun h => ?_)
        refine X_iload_n dX1_leastNear_18 rfl rfl ?_
        refine bd_j h (fun J42 e42 h => ?_)
        have j42 : ∀ (x4 : Int32) (σ5 : Sg) , J42 x4 σ5 → Ex mX1_leastNear 3 false (0, 0) sx G0 42 [some (.ref 32), some (.ref a0), some (.int b0), some (.int x4), some (.int x2)] [] σ5 (qI Q) := by
          intro x4 σ5  h
          subst e42
          replace h := h
          refine X_iinc (v := (x2 + 1)) (L' := [some (.ref 32), some (.ref a0), some (.int b0), some (.int x4), some (.int (x2 + 1))]) dX1_leastNear_42 rfl rfl (by decide) rfl ?_
          refine X_goto (tgt := 6) dX1_leastNear_45 (by decide) ?_
          exact ih6 _ _ _  h
        refine X_icmp_ge (tgt := 42) dX1_leastNear_19 (by decide) h (fun h => ?_) (fun h => ?_)
        · exact j42 _ _  h
        · refine X_aload_n dX1_leastNear_22 rfl rfl ?_
          refine X_get (v := .ref 1) ck_X1 f_X1_23 g_32 rfl (fun _ => rfl) dX1_leastNear_23 ?_
          refine X_iload dX1_leastNear_26 rfl ?_
          refine X_iconst (v := 3) dX1_leastNear_28 iconst_3 ?_
          refine X_ishr dX1_leastNear_29 ?_
          refine X_iload_n dX1_leastNear_30 rfl rfl ?_
          refine X_callVi [.int (x2 >>> ((3 : Int32) &&& 31)), .int b0] [] c_X7_near v_X7_near lk_X1_79 dX1_leastNear_31 g_1 rfl rfl rfl (by decide) (Nat.le_of_ble_eq_true rfl) rfl (s_X7_near sx (x2 >>> ((3 : Int32) &&& 31)) b0  σ3 _ h) (fun r7 σ6 h => ?_)
          refine X_if_eq (tgt := 42) dX1_leastNear_34 (by decide) h (fun h => ?_) (fun h => ?_)
          · exact j42 _ _  h
          · refine X_aload_n dX1_leastNear_37 rfl rfl ?_
            refine X_iload dX1_leastNear_38 rfl ?_
            refine X_iald ha0 dX1_leastNear_40 h (fun h => ?_)
            refine X_topI h (fun x8 h => ?_)
            refine X_istore_n (L' := [some (.ref 32), some (.ref a0), some (.int b0), some (.int x8), some (.int x2)]) dX1_leastNear_41 rfl (by decide) rfl ?_
            exact j42 _ _  h
  exact key6 _ _ _ _  h
def w_X3_standNow (k : Nat) (σ : Sg) (Q : Int32 → Sg → Prop) : Prop := vp_in (σ.1 (16 + 2 * k) 0) 6 ∧ vp_in (σ.1 (16 + 2 * k) 0) 6 ∧ Q (((8 : Int32) * (σ.1 2 (Int32.toNatClampNeg (σ.1 (16 + 2 * k) 0)))) + (σ.1 3 (Int32.toNatClampNeg (σ.1 (16 + 2 * k) 0)))) σ
set_option maxRecDepth 100000 in
set_option maxHeartbeats 4000000 in
theorem s_X3_standNow (sx : Nat × (Nat → Int32)) (k : Nat) (hk : k < 6) (σ : Sg) (Q : Int32 → Sg → Prop) (h : w_X3_standNow k σ Q) : Ct mX3_standNow 0 false (0, 0) sx G0 [.ref (16 + 2 * k)] σ (qI Q) := by
  refine Ct.of (L := [some (.ref (16 + 2 * k))]) (by decide) (Nat.le_of_ble_eq_true rfl) rfl ?_
  unfold w_X3_standNow at h
  refine X_bipush (v := 8) dX3_standNow_0 bipush_8 ?_
  refine X_aload_n dX3_standNow_2 rfl rfl ?_
  refine X_get (v := .ref 1) ck_X3 f_X3_19 (g_coach hk) rfl (fun _ => rfl) dX3_standNow_3 ?_
  refine X_get (v := .ref 2) ck_X7 f_X3_33 g_1 rfl (fun _ => rfl) dX3_standNow_6 ?_
  refine X_aload_n dX3_standNow_9 rfl rfl ?_
  refine X_get (v := .int (σ.1 (16 + 2 * k) 0)) ck_X3 f_X3_15 (g_coach hk) rfl (fun _ => rfl) dX3_standNow_10 ?_
  refine X_iald g_2 dX3_standNow_13 h (fun h => ?_)
  refine X_imul dX3_standNow_14 ?_
  refine X_aload_n dX3_standNow_15 rfl rfl ?_
  refine X_get (v := .ref 1) ck_X3 f_X3_19 (g_coach hk) rfl (fun _ => rfl) dX3_standNow_16 ?_
  refine X_get (v := .ref 3) ck_X7 f_X3_38 g_1 rfl (fun _ => rfl) dX3_standNow_19 ?_
  refine X_aload_n dX3_standNow_22 rfl rfl ?_
  refine X_get (v := .int (σ.1 (16 + 2 * k) 0)) ck_X3 f_X3_15 (g_coach hk) rfl (fun _ => rfl) dX3_standNow_23 ?_
  refine X_iald g_3 dX3_standNow_26 h (fun h => ?_)
  refine X_iadd dX3_standNow_27 ?_
  exact X_reti rfl dX3_standNow_28 h
def w_X3_start (k : Nat) (a0 : Int32) (σ : Sg) (Q : Sg → Prop) : Prop := bd (sI σ (16 + 2 * k) 4 a0) fun σ1 => bd (sI σ1 (16 + 2 * k) 5 ((σ1.1 (16 + 2 * k) 5) + (1 : Int32))) fun σ2 => Q σ2
set_option maxRecDepth 100000 in
set_option maxHeartbeats 4000000 in
theorem s_X3_start (sx : Nat × (Nat → Int32)) (k : Nat) (a0 : Int32) (hk : k < 6) (σ : Sg) (Q : Sg → Prop) (h : w_X3_start k a0 σ Q) : Ct mX3_start 0 false (0, 0) sx G0 [.ref (16 + 2 * k), .int a0] σ (qV Q) := by
  refine Ct.of (L := [some (.ref (16 + 2 * k)), some (.int a0)]) (by decide) (Nat.le_of_ble_eq_true rfl) rfl ?_
  unfold w_X3_start at h
  refine X_aload_n dX3_start_0 rfl rfl ?_
  refine X_iload_n dX3_start_1 rfl rfl ?_
  refine X_putI ck_X3 f_X3_27 rfl (g_coach hk) rfl rfl rfl dX3_start_2 h (fun σ1 h => ?_)
  refine X_aload_n dX3_start_5 rfl rfl ?_
  refine X_dup dX3_start_6 rfl ?_
  refine X_get (v := .int (σ1.1 (16 + 2 * k) 5)) ck_X3 f_X3_30 (g_coach hk) rfl (fun _ => rfl) dX3_start_7 ?_
  refine X_iconst (v := 1) dX3_start_10 iconst_1 ?_
  refine X_iadd dX3_start_11 ?_
  refine X_putI ck_X3 f_X3_30 rfl (g_coach hk) rfl rfl rfl dX3_start_12 h (fun σ2 h => ?_)
  exact X_retv rfl dX3_start_15 h
def w_X1_fewestReins_l53 (a0 : Int32) (c0 : Int32) (J88 : Nat → Sg → Prop) : Nat → Nat → Nat → Int32 → Sg → Prop
  | 0, _, _, _, _ => False
  | n53 + 1, a11, a12, x13, σ14 => if c0 ≤ x13 then (J88 a11 σ14) else (w_X1_goOn (Int32.toNatClampNeg a0) x13 a11 a12 σ14 (fun  σ15 => w_X1_fewestReins_l53 a0 c0 J88 n53 a12 a11 (x13 + 1) σ15))
def w_X1_fewestReins (a0 : Int32) (b0 : Int32) (c0 : Int32) (σ : Sg) (Q : Int32 → Sg → Prop) : Prop := vp_in a0 6 ∧ vp_in a0 6 ∧ w_X3_start (Int32.toNatClampNeg a0) (σ.1 4 (Int32.toNatClampNeg a0)) σ (fun  σ2 => w_J7_fill_53178 33 2048 (2147483647 : Int32) σ2 (fun  σ3 => w_X3_standNow (Int32.toNatClampNeg a0) σ3 (fun r5 σ4 => vp_in r5 2048 ∧ bd (sI σ4 33 (Int32.toNatClampNeg r5) (0 : Int32)) fun σ6 => bd (fun (a7 : Nat) (σ8 : Sg) => w_X1_leastNear a7 b0 σ8 (fun r10 σ9 => Q r10 σ9)) fun J88 => ∃ n, w_X1_fewestReins_l53 a0 c0 J88 n 33 34 (0 : Int32) σ6)))
set_option maxRecDepth 100000 in
set_option maxHeartbeats 4000000 in
theorem s_X1_fewestReins (sx : Nat × (Nat → Int32)) (a0 : Int32) (b0 : Int32) (c0 : Int32) (σ : Sg) (Q : Int32 → Sg → Prop) (h : w_X1_fewestReins a0 b0 c0 σ Q) : Ct mX1_fewestReins 6 false (0, 0) sx G0 [.ref 32, .int a0, .int b0, .int c0] σ (qI Q) := by
  refine Ct.of (L := [some (.ref 32), some (.int a0), some (.int b0), some (.int c0), none, none, none, none, none]) (by decide) (Nat.le_of_ble_eq_true rfl) rfl ?_
  unfold w_X1_fewestReins at h
  refine X_aload_n dX1_fewestReins_0 rfl rfl ?_
  refine X_get (v := .ref 15) ck_X1 f_X1_27 g_32 rfl (fun _ => rfl) dX1_fewestReins_1 ?_
  refine X_iload_n dX1_fewestReins_4 rfl rfl ?_
  have hk1 := vp_lt h.1
  refine X_aald g_15 (Or.inl rfl) dX1_fewestReins_5 h (fun q => g_coaches (vp_lt q)) (fun h => ?_)
  refine X_astore (L' := [some (.ref 32), some (.int a0), some (.int b0), some (.int c0), some (.ref (16 + 2 * (Int32.toNatClampNeg a0))), none, none, none, none]) dX1_fewestReins_6 (by decide) rfl ?_
  refine X_aload dX1_fewestReins_8 rfl ?_
  refine X_aload_n dX1_fewestReins_10 rfl rfl ?_
  refine X_get (v := .ref 1) ck_X1 f_X1_23 g_32 rfl (fun _ => rfl) dX1_fewestReins_11 ?_
  refine X_get (v := .ref 4) ck_X7 f_X1_31 g_1 rfl (fun _ => rfl) dX1_fewestReins_14 ?_
  refine X_iload_n dX1_fewestReins_17 rfl rfl ?_
  refine X_iald g_4 dX1_fewestReins_18 h (fun h => ?_)
  refine X_callVv [.int (σ.1 4 (Int32.toNatClampNeg a0))] [] c_X3_start v_X3_start lk_X1_36 dX1_fewestReins_19 (g_coach hk1) rfl rfl rfl (by decide) (Nat.le_of_ble_eq_true rfl) rfl (s_X3_start sx (Int32.toNatClampNeg a0) (σ.1 4 (Int32.toNatClampNeg a0)) hk1 σ _ h) (fun  σ2 h => ?_)
  refine X_aload_n dX1_fewestReins_22 rfl rfl ?_
  refine X_get (v := .ref 33) ck_X1 f_X1_13 g_32 rfl (fun _ => rfl) dX1_fewestReins_23 ?_
  refine X_astore (L' := [some (.ref 32), some (.int a0), some (.int b0), some (.int c0), some (.ref (16 + 2 * (Int32.toNatClampNeg a0))), some (.ref 33), none, none, none]) dX1_fewestReins_26 (by decide) rfl ?_
  refine X_aload_n dX1_fewestReins_28 rfl rfl ?_
  refine X_get (v := .ref 34) ck_X1 f_X1_17 g_32 rfl (fun _ => rfl) dX1_fewestReins_29 ?_
  refine X_astore (L' := [some (.ref 32), some (.int a0), some (.int b0), some (.int c0), some (.ref (16 + 2 * (Int32.toNatClampNeg a0))), some (.ref 33), some (.ref 34), none, none]) dX1_fewestReins_32 (by decide) rfl ?_
  refine X_aload dX1_fewestReins_34 rfl ?_
  refine X_ldc (v := 2147483647) dX1_fewestReins_36 k_X1_42 ?_
  refine X_callSv [.ref 33, .int (2147483647 : Int32)] [] c_J7_fill_53178 t_J7_fill_53178 lk_X1_43 dX1_fewestReins_38 rfl (by decide) (Nat.le_of_ble_eq_true rfl) rfl (s_J7_fill_53178 sx 33 2048 (2147483647 : Int32) g_33 σ2 _ h) (fun  σ3 h => ?_)
  refine X_aload dX1_fewestReins_41 rfl ?_
  refine X_aload dX1_fewestReins_43 rfl ?_
  refine X_callVi [] [.ref 33] c_X3_standNow v_X3_standNow lk_X1_49 dX1_fewestReins_45 (g_coach hk1) rfl rfl rfl (by decide) (Nat.le_of_ble_eq_true rfl) rfl (s_X3_standNow sx (Int32.toNatClampNeg a0) hk1 σ3 _ h) (fun r5 σ4 h => ?_)
  refine X_iconst (v := 0) dX1_fewestReins_48 iconst_0 ?_
  refine X_iast g_33 dX1_fewestReins_49 h (fun σ6 h => ?_)
  refine X_iconst (v := 0) dX1_fewestReins_50 iconst_0 ?_
  refine X_istore (L' := [some (.ref 32), some (.int a0), some (.int b0), some (.int c0), some (.ref (16 + 2 * (Int32.toNatClampNeg a0))), some (.ref 33), some (.ref 34), some (.int (0 : Int32)), none]) dX1_fewestReins_51 (by decide) rfl ?_
  refine bd_j h (fun J88 e88 h => ?_)
  have j88 : ∀ (a7 : Nat) (σ8 : Sg) (ha7 : G0[a7]? = some (.inl (.int, 2048, []))), J88 a7 σ8 → Ex mX1_fewestReins 6 false (0, 0) sx G0 88 [some (.ref 32), none, some (.int b0), none, none, some (.ref a7), none, none, none] [] σ8 (qI Q) := by
    intro a7 σ8 ha7 h
    subst e88
    replace h := h
    refine X_aload_n dX1_fewestReins_88 rfl rfl ?_
    refine X_aload dX1_fewestReins_89 rfl ?_
    refine X_iload_n dX1_fewestReins_91 rfl rfl ?_
    refine X_callVi [.ref a7, .int b0] [] c_X1_leastNear v_X1_leastNear lk_X1_57 dX1_fewestReins_92 g_32 rfl rfl rfl (by decide) (Nat.le_of_ble_eq_true rfl) rfl (s_X1_leastNear sx a7 b0 ha7 σ8 _ h) (fun r10 σ9 h => ?_)
    exact X_reti rfl dX1_fewestReins_95 h
  obtain ⟨n53, h⟩ := h
  have key53 : ∀ (n : Nat) (a11 : Nat) (a12 : Nat) (x13 : Int32) (σ14 : Sg) (ha11 : G0[a11]? = some (.inl (.int, 2048, []))) (ha12 : G0[a12]? = some (.inl (.int, 2048, []))), w_X1_fewestReins_l53 a0 c0 J88 n a11 a12 x13 σ14 → Ex mX1_fewestReins 6 false (0, 0) sx G0 53 [some (.ref 32), none, some (.int b0), some (.int c0), some (.ref (16 + 2 * (Int32.toNatClampNeg a0))), some (.ref a11), some (.ref a12), some (.int x13), none] [] σ14 (qI Q) := by
    intro n53
    induction n53 with
    | zero => intro _ _ _ _ _ _  h; exact h.elim
    | succ n53 ih53 =>
      intro a11 a12 x13 σ14 ha11 ha12 h
      unfold w_X1_fewestReins_l53 at h
      refine X_iload dX1_fewestReins_53 rfl ?_
      refine X_iload_n dX1_fewestReins_55 rfl rfl ?_
      refine X_icmp_ge (tgt := 88) dX1_fewestReins_56 (by decide) h (fun h => ?_) (fun h => ?_)
      · refine X_drop (L' := [some (.ref 32), none, some (.int b0), none, none, some (.ref a11), none, none, none]) ⟨rfl, ⟨rfl, ⟨rfl, trivial⟩⟩⟩ ?_
        exact j88 _ _ ha11 h
      · refine X_aload dX1_fewestReins_59 rfl ?_
        refine X_iload dX1_fewestReins_61 rfl ?_
        refine X_aload dX1_fewestReins_63 rfl ?_
        refine X_aload dX1_fewestReins_65 rfl ?_
        refine X_callSv [.ref (16 + 2 * (Int32.toNatClampNeg a0)), .int x13, .ref a11, .ref a12] [] c_X1_goOn t_X1_goOn lk_X1_53 dX1_fewestReins_67 rfl (by decide) (Nat.le_of_ble_eq_true rfl) rfl (s_X1_goOn sx (Int32.toNatClampNeg a0) x13 a11 a12 hk1 ha11 ha12 σ14 _ h) (fun  σ15 h => ?_)
        refine X_aload dX1_fewestReins_70 rfl ?_
        refine X_astore (L' := [some (.ref 32), none, some (.int b0), some (.int c0), some (.ref (16 + 2 * (Int32.toNatClampNeg a0))), some (.ref a11), some (.ref a12), some (.int x13), some (.ref a11)]) dX1_fewestReins_72 (by decide) rfl ?_
        refine X_aload dX1_fewestReins_74 rfl ?_
        refine X_astore (L' := [some (.ref 32), none, some (.int b0), some (.int c0), some (.ref (16 + 2 * (Int32.toNatClampNeg a0))), some (.ref a12), some (.ref a12), some (.int x13), some (.ref a11)]) dX1_fewestReins_76 (by decide) rfl ?_
        refine X_aload dX1_fewestReins_78 rfl ?_
        refine X_astore (L' := [some (.ref 32), none, some (.int b0), some (.int c0), some (.ref (16 + 2 * (Int32.toNatClampNeg a0))), some (.ref a12), some (.ref a11), some (.int x13), some (.ref a11)]) dX1_fewestReins_80 (by decide) rfl ?_
        refine X_iinc (v := (x13 + 1)) (L' := [some (.ref 32), none, some (.int b0), some (.int c0), some (.ref (16 + 2 * (Int32.toNatClampNeg a0))), some (.ref a12), some (.ref a11), some (.int (x13 + 1)), some (.ref a11)]) dX1_fewestReins_82 rfl rfl (by decide) rfl ?_
        refine X_goto (tgt := 53) dX1_fewestReins_85 (by decide) ?_
        refine X_drop (L' := [some (.ref 32), none, some (.int b0), some (.int c0), some (.ref (16 + 2 * (Int32.toNatClampNeg a0))), some (.ref a12), some (.ref a11), some (.int (x13 + 1)), none]) ⟨rfl, ⟨rfl, ⟨rfl, ⟨rfl, ⟨rfl, ⟨rfl, ⟨rfl, trivial⟩⟩⟩⟩⟩⟩⟩ ?_
        exact ih53 _ _ _ _ ha12 ha11 h
  refine X_drop (L' := [some (.ref 32), none, some (.int b0), some (.int c0), some (.ref (16 + 2 * (Int32.toNatClampNeg a0))), some (.ref 33), some (.ref 34), some (.int (0 : Int32)), none]) ⟨rfl, ⟨rfl, ⟨rfl, ⟨rfl, ⟨rfl, ⟨rfl, ⟨rfl, trivial⟩⟩⟩⟩⟩⟩⟩ ?_
  exact key53 _ _ _ _ _ g_33 g_34 h
def w_X1_reinsIn (a0 : Int32) (σ : Sg) (Q : Int32 → Sg → Prop) : Prop := Q (a0 / (16777216 : Int32)) σ
set_option maxRecDepth 100000 in
set_option maxHeartbeats 4000000 in
theorem s_X1_reinsIn (sx : Nat × (Nat → Int32)) (a0 : Int32) (σ : Sg) (Q : Int32 → Sg → Prop) (h : w_X1_reinsIn a0 σ Q) : Ct mX1_reinsIn 0 false (0, 0) sx G0 [.int a0] σ (qI Q) := by
  refine Ct.of (L := [some (.int a0)]) (by decide) (Nat.le_of_ble_eq_true rfl) rfl ?_
  unfold w_X1_reinsIn at h
  refine X_iload_n dX1_reinsIn_0 rfl rfl ?_
  refine X_ldc (v := 16777216) dX1_reinsIn_1 k_X1_61 ?_
  refine X_idiv dX1_reinsIn_3 (by decide) ?_
  exact X_reti rfl dX1_reinsIn_4 h
def w_X1_reinAt (a0 : Int32) (b0 : Int32) (σ : Sg) (Q : Int32 → Sg → Prop) : Prop := w_X1_shiftOf b0 σ (fun r2 σ1 => bd ((a0 >>> (r2 &&& 31)) &&& (3 : Int32)) fun x3 => if (3 : Int32) ≤ x3 then (Q (1 : Int32) σ1) else (vp_in x3 3 ∧ Q ((1 : Int32) + ((exC 5) (Int32.toNatClampNeg x3))) σ1))
set_option maxRecDepth 100000 in
set_option maxHeartbeats 4000000 in
theorem s_X1_reinAt (sx : Nat × (Nat → Int32)) (a0 : Int32) (b0 : Int32) (σ : Sg) (Q : Int32 → Sg → Prop) (h : w_X1_reinAt a0 b0 σ Q) : Ct mX1_reinAt 1 false (0, 0) sx G0 [.int a0, .int b0] σ (qI Q) := by
  refine Ct.of (L := [some (.int a0), some (.int b0), none]) (by decide) (Nat.le_of_ble_eq_true rfl) rfl ?_
  unfold w_X1_reinAt at h
  refine X_iload_n dX1_reinAt_0 rfl rfl ?_
  refine X_iload_n dX1_reinAt_1 rfl rfl ?_
  refine X_callSi [.int b0] [.int a0] c_X1_shiftOf t_X1_shiftOf lk_X1_62 dX1_reinAt_2 rfl (by decide) (Nat.le_of_ble_eq_true rfl) rfl (s_X1_shiftOf sx b0  σ _ h) (fun r2 σ1 h => ?_)
  refine X_ishr dX1_reinAt_5 ?_
  refine X_iconst (v := 3) dX1_reinAt_6 iconst_3 ?_
  refine X_iand dX1_reinAt_7 ?_
  refine X_topI h (fun x3 h => ?_)
  refine X_istore_n (L' := [some (.int a0), some (.int b0), some (.int x3)]) dX1_reinAt_8 rfl (by decide) rfl ?_
  refine X_iload_n dX1_reinAt_9 rfl rfl ?_
  refine X_iconst (v := 3) dX1_reinAt_10 iconst_3 ?_
  refine X_icmp_ge (tgt := 24) dX1_reinAt_11 (by decide) h (fun h => ?_) (fun h => ?_)
  · refine X_iconst (v := 1) dX1_reinAt_24 iconst_1 ?_
    exact X_reti rfl dX1_reinAt_25 h
  · refine X_iconst (v := 1) dX1_reinAt_14 iconst_1 ?_
    refine X_gets (j := 4) (v := 5) rfl rfl f_X1_66 dX1_reinAt_15 ?_
    refine X_iload_n dX1_reinAt_18 rfl rfl ?_
    refine X_ialdX (v := 5) (f := (exC 5)) (n := 3) (by decide) rfl rfl dX1_reinAt_19 h (fun h => ?_)
    refine X_iadd dX1_reinAt_20 ?_
    refine X_goto (tgt := 25) dX1_reinAt_21 (by decide) ?_
    exact X_reti rfl dX1_reinAt_25 h
def w_X1_weight_l69 (a0 : Int32) (b0 : Int32) (c0 : Int32) (x5 : Int32) (J131 : Int64 → Int32 → Sg → Prop) : Nat → Int64 → Int32 → Int32 → Sg → Prop
  | 0, _, _, _, _ => False
  | n69 + 1, x19, x20, x21, σ22 => if b0 ≤ x21 then (J131 x19 x20 σ22) else (if (lg_cmp x19 (0 : Int64)) = 0 then (J131 x19 x20 σ22) else (bd ((x5 >>> (x21 &&& 31)) &&& (1 : Int32)) fun x23 => bd (fun (x24 : Int64) (x25 : Int64) (σ26 : Sg) => bd (x24 * x25) fun x27 => w_X3_next (Int32.toNatClampNeg (a0 / (10 : Int32))) x20 x21 x23 σ26 (fun r29 σ28 => w_X1_weight_l69 a0 b0 c0 x5 J131 n69 x27 r29 (x21 + 1) σ28)) fun J109 => if x23 = (1 : Int32) then (J109 x19 (Int32.toInt64 c0) σ22) else (J109 x19 (Int32.toInt64 ((12 : Int32) - c0)) σ22)))
def w_X1_weight_l48 (a0 : Int32) (b0 : Int32) (c0 : Int32) (d0 : Int32) (Q : Int64 → Sg → Prop) (x3 : Int32) : Nat → Int64 → Int32 → Sg → Prop
  | 0, _, _, _ => False
  | n48 + 1, x4, x5, σ6 => if ((1 : Int32) <<< (b0 &&& 31)) ≤ x5 then (Q x4 σ6) else (w_X3_standNow (Int32.toNatClampNeg (a0 / (10 : Int32))) σ6 (fun r8 σ7 => bd (fun (x9 : Int64) (x10 : Int32) (σ11 : Sg) => w_X7_apart (x10 >>> ((3 : Int32) &&& 31)) x3 σ11 (fun r13 σ12 => bd (fun (x14 : Int64) (x15 : Int64) (x16 : Int32) (σ17 : Sg) => bd (x14 + (x15 * (Int32.toInt64 x16))) fun x18 => w_X1_weight_l48 a0 b0 c0 d0 Q x3 n48 x18 (x5 + 1) σ17) fun J173 => if d0 = 0 then (if (σ12.1 1 8) < r13 then (J173 x4 x9 (0 : Int32) σ12) else (J173 x4 x9 (1 : Int32) σ12)) else (J173 x4 x9 r13 σ12))) fun J131 => ∃ n, w_X1_weight_l69 a0 b0 c0 x5 J131 n (1 : Int64) r8 (0 : Int32) σ7))
def w_X1_weight (a0 : Int32) (b0 : Int32) (c0 : Int32) (d0 : Int32) (σ : Sg) (Q : Int64 → Sg → Prop) : Prop := vp_in (a0 / (10 : Int32)) 6 ∧ vp_in (a0 / (10 : Int32)) 6 ∧ w_X3_start (Int32.toNatClampNeg (a0 / (10 : Int32))) (σ.1 4 (Int32.toNatClampNeg (a0 / (10 : Int32)))) σ (fun  σ2 => vp_in (a0 - a0 / (10 : Int32) * (10 : Int32)) 8 ∧ bd (σ2.1 6 (Int32.toNatClampNeg (a0 - a0 / (10 : Int32) * (10 : Int32)))) fun x3 => ∃ n, w_X1_weight_l48 a0 b0 c0 d0 Q x3 n (0 : Int64) (0 : Int32) σ2)
set_option maxRecDepth 100000 in
set_option maxHeartbeats 4000000 in
theorem s_X1_weight (sx : Nat × (Nat → Int32)) (a0 : Int32) (b0 : Int32) (c0 : Int32) (d0 : Int32) (σ : Sg) (Q : Int64 → Sg → Prop) (h : w_X1_weight a0 b0 c0 d0 σ Q) : Ct mX1_weight 5 false (0, 0) sx G0 [.ref 32, .int a0, .int b0, .int c0, .int d0] σ (qJ Q) := by
  refine Ct.of (L := [some (.ref 32), some (.int a0), some (.int b0), some (.int c0), some (.int d0), none, none, none, none, none, none, none, none, none, none]) (by decide) (Nat.le_of_ble_eq_true rfl) rfl ?_
  unfold w_X1_weight at h
  refine X_aload_n dX1_weight_0 rfl rfl ?_
  refine X_get (v := .ref 15) ck_X1 f_X1_27 g_32 rfl (fun _ => rfl) dX1_weight_1 ?_
  refine X_iload_n dX1_weight_4 rfl rfl ?_
  refine X_bipush (v := 10) dX1_weight_5 bipush_10 ?_
  refine X_idiv dX1_weight_7 (by decide) ?_
  have hk1 := vp_lt h.1
  refine X_aald g_15 (Or.inl rfl) dX1_weight_8 h (fun q => g_coaches (vp_lt q)) (fun h => ?_)
  refine X_astore (L' := [some (.ref 32), some (.int a0), some (.int b0), some (.int c0), some (.int d0), some (.ref (16 + 2 * (Int32.toNatClampNeg (a0 / (10 : Int32))))), none, none, none, none, none, none, none, none, none]) dX1_weight_9 (by decide) rfl ?_
  refine X_aload dX1_weight_11 rfl ?_
  refine X_aload_n dX1_weight_13 rfl rfl ?_
  refine X_get (v := .ref 1) ck_X1 f_X1_23 g_32 rfl (fun _ => rfl) dX1_weight_14 ?_
  refine X_get (v := .ref 4) ck_X7 f_X1_31 g_1 rfl (fun _ => rfl) dX1_weight_17 ?_
  refine X_iload_n dX1_weight_20 rfl rfl ?_
  refine X_bipush (v := 10) dX1_weight_21 bipush_10 ?_
  refine X_idiv dX1_weight_23 (by decide) ?_
  refine X_iald g_4 dX1_weight_24 h (fun h => ?_)
  refine X_callVv [.int (σ.1 4 (Int32.toNatClampNeg (a0 / (10 : Int32))))] [] c_X3_start v_X3_start lk_X1_36 dX1_weight_25 (g_coach hk1) rfl rfl rfl (by decide) (Nat.le_of_ble_eq_true rfl) rfl (s_X3_start sx (Int32.toNatClampNeg (a0 / (10 : Int32))) (σ.1 4 (Int32.toNatClampNeg (a0 / (10 : Int32)))) hk1 σ _ h) (fun  σ2 h => ?_)
  refine X_aload_n dX1_weight_28 rfl rfl ?_
  refine X_get (v := .ref 1) ck_X1 f_X1_23 g_32 rfl (fun _ => rfl) dX1_weight_29 ?_
  refine X_get (v := .ref 6) ck_X7 f_X1_83 g_1 rfl (fun _ => rfl) dX1_weight_32 ?_
  refine X_iload_n dX1_weight_35 rfl rfl ?_
  refine X_bipush (v := 10) dX1_weight_36 bipush_10 ?_
  refine X_irem dX1_weight_38 (by decide) ?_
  refine X_iald g_6 dX1_weight_39 h (fun h => ?_)
  refine X_topI h (fun x3 h => ?_)
  refine X_istore (L' := [some (.ref 32), some (.int a0), some (.int b0), some (.int c0), some (.int d0), some (.ref (16 + 2 * (Int32.toNatClampNeg (a0 / (10 : Int32))))), some (.int x3), none, none, none, none, none, none, none, none]) dX1_weight_40 (by decide) rfl ?_
  refine X_lconst (v := 0) dX1_weight_42 rfl ?_
  refine X_lstore (L' := [some (.ref 32), some (.int a0), some (.int b0), some (.int c0), some (.int d0), some (.ref (16 + 2 * (Int32.toNatClampNeg (a0 / (10 : Int32))))), some (.int x3), some (.long (0 : Int64)), none, none, none, none, none, none, none]) dX1_weight_43 (by decide) rfl ?_
  refine X_iconst (v := 0) dX1_weight_45 iconst_0 ?_
  refine X_istore (L' := [some (.ref 32), some (.int a0), some (.int b0), some (.int c0), some (.int d0), some (.ref (16 + 2 * (Int32.toNatClampNeg (a0 / (10 : Int32))))), some (.int x3), some (.long (0 : Int64)), none, some (.int (0 : Int32)), none, none, none, none, none]) dX1_weight_46 (by decide) rfl ?_
  obtain ⟨n48, h⟩ := h
  have key48 : ∀ (n : Nat) (x4 : Int64) (x5 : Int32) (σ6 : Sg) , w_X1_weight_l48 a0 b0 c0 d0 Q x3 n x4 x5 σ6 → Ex mX1_weight 5 false (0, 0) sx G0 48 [some (.ref 32), none, some (.int b0), some (.int c0), some (.int d0), some (.ref (16 + 2 * (Int32.toNatClampNeg (a0 / (10 : Int32))))), some (.int x3), some (.long x4), none, some (.int x5), none, none, none, none, none] [] σ6 (qJ Q) := by
    intro n48
    induction n48 with
    | zero => intro _ _ _  h; exact h.elim
    | succ n48 ih48 =>
      intro x4 x5 σ6  h
      unfold w_X1_weight_l48 at h
      refine X_iload dX1_weight_48 rfl ?_
      refine X_iconst (v := 1) dX1_weight_50 iconst_1 ?_
      refine X_iload_n dX1_weight_51 rfl rfl ?_
      refine X_ishl dX1_weight_52 ?_
      refine X_icmp_ge (tgt := 184) dX1_weight_53 (by decide) h (fun h => ?_) (fun h => ?_)
      · refine X_lload dX1_weight_184 rfl ?_
        exact X_retl rfl dX1_weight_186 h
      · refine X_lconst (v := 1) dX1_weight_56 rfl ?_
        refine X_lstore (L' := [some (.ref 32), none, some (.int b0), some (.int c0), some (.int d0), some (.ref (16 + 2 * (Int32.toNatClampNeg (a0 / (10 : Int32))))), some (.int x3), some (.long x4), none, some (.int x5), some (.long (1 : Int64)), none, none, none, none]) dX1_weight_57 (by decide) rfl ?_
        refine X_aload dX1_weight_59 rfl ?_
        refine X_callVi [] [] c_X3_standNow v_X3_standNow lk_X1_49 dX1_weight_61 (g_coach hk1) rfl rfl rfl (by decide) (Nat.le_of_ble_eq_true rfl) rfl (s_X3_standNow sx (Int32.toNatClampNeg (a0 / (10 : Int32))) hk1 σ6 _ h) (fun r8 σ7 h => ?_)
        refine X_istore (L' := [some (.ref 32), none, some (.int b0), some (.int c0), some (.int d0), some (.ref (16 + 2 * (Int32.toNatClampNeg (a0 / (10 : Int32))))), some (.int x3), some (.long x4), none, some (.int x5), some (.long (1 : Int64)), none, some (.int r8), none, none]) dX1_weight_64 (by decide) rfl ?_
        refine X_iconst (v := 0) dX1_weight_66 iconst_0 ?_
        refine X_istore (L' := [some (.ref 32), none, some (.int b0), some (.int c0), some (.int d0), some (.ref (16 + 2 * (Int32.toNatClampNeg (a0 / (10 : Int32))))), some (.int x3), some (.long x4), none, some (.int x5), some (.long (1 : Int64)), none, some (.int r8), some (.int (0 : Int32)), none]) dX1_weight_67 (by decide) rfl ?_
        refine bd_j h (fun J131 e131 h => ?_)
        have j131 : ∀ (x9 : Int64) (x10 : Int32) (σ11 : Sg) , J131 x9 x10 σ11 → Ex mX1_weight 5 false (0, 0) sx G0 131 [some (.ref 32), none, some (.int b0), some (.int c0), some (.int d0), some (.ref (16 + 2 * (Int32.toNatClampNeg (a0 / (10 : Int32))))), some (.int x3), some (.long x4), none, some (.int x5), some (.long x9), none, some (.int x10), none, none] [] σ11 (qJ Q) := by
          intro x9 x10 σ11  h
          subst e131
          replace h := h
          refine X_iload dX1_weight_131 rfl ?_
          refine X_iconst (v := 3) dX1_weight_133 iconst_3 ?_
          refine X_ishr dX1_weight_134 ?_
          refine X_iload dX1_weight_135 rfl ?_
          refine X_callSi [.int (x10 >>> ((3 : Int32) &&& 31)), .int x3] [] c_X7_apart t_X7_apart lk_X1_86 dX1_weight_137 rfl (by decide) (Nat.le_of_ble_eq_true rfl) rfl (s_X7_apart sx (x10 >>> ((3 : Int32) &&& 31)) x3  σ11 _ h) (fun r13 σ12 h => ?_)
          refine X_istore (L' := [some (.ref 32), none, some (.int b0), some (.int c0), some (.int d0), some (.ref (16 + 2 * (Int32.toNatClampNeg (a0 / (10 : Int32))))), some (.int x3), some (.long x4), none, some (.int x5), some (.long x9), none, some (.int x10), some (.int r13), none]) dX1_weight_140 (by decide) rfl ?_
          refine X_lload dX1_weight_142 rfl ?_
          refine X_lload dX1_weight_144 rfl ?_
          refine X_iload dX1_weight_146 rfl ?_
          refine bd_j h (fun J173 e173 h => ?_)
          have j173 : ∀ (x14 : Int64) (x15 : Int64) (x16 : Int32) (σ17 : Sg) , J173 x14 x15 x16 σ17 → Ex mX1_weight 5 false (0, 0) sx G0 173 [some (.ref 32), none, some (.int b0), some (.int c0), some (.int d0), some (.ref (16 + 2 * (Int32.toNatClampNeg (a0 / (10 : Int32))))), some (.int x3), none, none, some (.int x5), none, none, none, none, none] [.int x16, .long x15, .long x14] σ17 (qJ Q) := by
            intro x14 x15 x16 σ17  h
            subst e173
            replace h := h
            refine X_i2l dX1_weight_173 ?_
            refine X_lmul dX1_weight_174 ?_
            refine X_ladd dX1_weight_175 ?_
            refine X_topJ h (fun x18 h => ?_)
            refine X_lstore (L' := [some (.ref 32), none, some (.int b0), some (.int c0), some (.int d0), some (.ref (16 + 2 * (Int32.toNatClampNeg (a0 / (10 : Int32))))), some (.int x3), some (.long x18), none, some (.int x5), none, none, none, none, none]) dX1_weight_176 (by decide) rfl ?_
            refine X_iinc (v := (x5 + 1)) (L' := [some (.ref 32), none, some (.int b0), some (.int c0), some (.int d0), some (.ref (16 + 2 * (Int32.toNatClampNeg (a0 / (10 : Int32))))), some (.int x3), some (.long x18), none, some (.int (x5 + 1)), none, none, none, none, none]) dX1_weight_178 rfl rfl (by decide) rfl ?_
            refine X_goto (tgt := 48) dX1_weight_181 (by decide) ?_
            exact ih48 _ _ _  h
          refine X_if_eq (tgt := 156) dX1_weight_148 (by decide) h (fun h => ?_) (fun h => ?_)
          · refine X_iload dX1_weight_156 rfl ?_
            refine X_aload_n dX1_weight_158 rfl rfl ?_
            refine X_get (v := .ref 1) ck_X1 f_X1_23 g_32 rfl (fun _ => rfl) dX1_weight_159 ?_
            refine X_get (v := .int (σ12.1 1 8)) ck_X7 f_X1_89 g_1 rfl (fun _ => rfl) dX1_weight_162 ?_
            refine X_icmp_gt (tgt := 172) dX1_weight_165 (by decide) h (fun h => ?_) (fun h => ?_)
            · refine X_iconst (v := 0) dX1_weight_172 iconst_0 ?_
              refine X_drop (L' := [some (.ref 32), none, some (.int b0), some (.int c0), some (.int d0), some (.ref (16 + 2 * (Int32.toNatClampNeg (a0 / (10 : Int32))))), some (.int x3), none, none, some (.int x5), none, none, none, none, none]) ⟨rfl, ⟨rfl, ⟨rfl, ⟨rfl, ⟨rfl, ⟨rfl, ⟨rfl, trivial⟩⟩⟩⟩⟩⟩⟩ ?_
              exact j173 _ _ _ _  h
            · refine X_iconst (v := 1) dX1_weight_168 iconst_1 ?_
              refine X_goto (tgt := 173) dX1_weight_169 (by decide) ?_
              refine X_drop (L' := [some (.ref 32), none, some (.int b0), some (.int c0), some (.int d0), some (.ref (16 + 2 * (Int32.toNatClampNeg (a0 / (10 : Int32))))), some (.int x3), none, none, some (.int x5), none, none, none, none, none]) ⟨rfl, ⟨rfl, ⟨rfl, ⟨rfl, ⟨rfl, ⟨rfl, ⟨rfl, trivial⟩⟩⟩⟩⟩⟩⟩ ?_
              exact j173 _ _ _ _  h
          · refine X_iload dX1_weight_151 rfl ?_
            refine X_goto (tgt := 173) dX1_weight_153 (by decide) ?_
            refine X_drop (L' := [some (.ref 32), none, some (.int b0), some (.int c0), some (.int d0), some (.ref (16 + 2 * (Int32.toNatClampNeg (a0 / (10 : Int32))))), some (.int x3), none, none, some (.int x5), none, none, none, none, none]) ⟨rfl, ⟨rfl, ⟨rfl, ⟨rfl, ⟨rfl, ⟨rfl, ⟨rfl, trivial⟩⟩⟩⟩⟩⟩⟩ ?_
            exact j173 _ _ _ _  h
        obtain ⟨n69, h⟩ := h
        have key69 : ∀ (n : Nat) (x19 : Int64) (x20 : Int32) (x21 : Int32) (σ22 : Sg) , w_X1_weight_l69 a0 b0 c0 x5 J131 n x19 x20 x21 σ22 → Ex mX1_weight 5 false (0, 0) sx G0 69 [some (.ref 32), none, some (.int b0), some (.int c0), some (.int d0), some (.ref (16 + 2 * (Int32.toNatClampNeg (a0 / (10 : Int32))))), some (.int x3), some (.long x4), none, some (.int x5), some (.long x19), none, some (.int x20), some (.int x21), none] [] σ22 (qJ Q) := by
          intro n69
          induction n69 with
          | zero => intro _ _ _ _  h; exact h.elim
          | succ n69 ih69 =>
            intro x19 x20 x21 σ22  h
            unfold w_X1_weight_l69 at h
            refine X_iload dX1_weight_69 rfl ?_
            refine X_iload_n dX1_weight_71 rfl rfl ?_
            refine X_icmp_ge (tgt := 131) dX1_weight_72 (by decide) h (fun h => ?_) (fun h => ?_)
            · refine X_drop (L' := [some (.ref 32), none, some (.int b0), some (.int c0), some (.int d0), some (.ref (16 + 2 * (Int32.toNatClampNeg (a0 / (10 : Int32))))), some (.int x3), some (.long x4), none, some (.int x5), some (.long x19), none, some (.int x20), none, none]) ⟨rfl, ⟨rfl, ⟨rfl, ⟨rfl, ⟨rfl, ⟨rfl, ⟨rfl, ⟨rfl, ⟨rfl, ⟨rfl, trivial⟩⟩⟩⟩⟩⟩⟩⟩⟩⟩ ?_
              exact j131 _ _ _  h
            · refine X_lload dX1_weight_75 rfl ?_
              refine X_lconst (v := 0) dX1_weight_77 rfl ?_
              refine X_lcmp dX1_weight_78 ?_
              refine X_if_eq (tgt := 131) dX1_weight_79 (by decide) h (fun h => ?_) (fun h => ?_)
              · refine X_drop (L' := [some (.ref 32), none, some (.int b0), some (.int c0), some (.int d0), some (.ref (16 + 2 * (Int32.toNatClampNeg (a0 / (10 : Int32))))), some (.int x3), some (.long x4), none, some (.int x5), some (.long x19), none, some (.int x20), none, none]) ⟨rfl, ⟨rfl, ⟨rfl, ⟨rfl, ⟨rfl, ⟨rfl, ⟨rfl, ⟨rfl, ⟨rfl, ⟨rfl, trivial⟩⟩⟩⟩⟩⟩⟩⟩⟩⟩ ?_
                exact j131 _ _ _  h
              · refine X_iload dX1_weight_82 rfl ?_
                refine X_iload dX1_weight_84 rfl ?_
                refine X_ishr dX1_weight_86 ?_
                refine X_iconst (v := 1) dX1_weight_87 iconst_1 ?_
                refine X_iand dX1_weight_88 ?_
                refine X_topI h (fun x23 h => ?_)
                refine X_istore (L' := [some (.ref 32), none, some (.int b0), some (.int c0), some (.int d0), some (.ref (16 + 2 * (Int32.toNatClampNeg (a0 / (10 : Int32))))), some (.int x3), some (.long x4), none, some (.int x5), some (.long x19), none, some (.int x20), some (.int x21), some (.int x23)]) dX1_weight_89 (by decide) rfl ?_
                refine X_lload dX1_weight_91 rfl ?_
                refine X_iload dX1_weight_93 rfl ?_
                refine X_iconst (v := 1) dX1_weight_95 iconst_1 ?_
                refine bd_j h (fun J109 e109 h => ?_)
                have j109 : ∀ (x24 : Int64) (x25 : Int64) (σ26 : Sg) , J109 x24 x25 σ26 → Ex mX1_weight 5 false (0, 0) sx G0 109 [some (.ref 32), none, some (.int b0), some (.int c0), some (.int d0), some (.ref (16 + 2 * (Int32.toNatClampNeg (a0 / (10 : Int32))))), some (.int x3), some (.long x4), none, some (.int x5), none, none, some (.int x20), some (.int x21), some (.int x23)] [.long x25, .long x24] σ26 (qJ Q) := by
                  intro x24 x25 σ26  h
                  subst e109
                  replace h := h
                  refine X_lmul dX1_weight_109 ?_
                  refine X_topJ h (fun x27 h => ?_)
                  refine X_lstore (L' := [some (.ref 32), none, some (.int b0), some (.int c0), some (.int d0), some (.ref (16 + 2 * (Int32.toNatClampNeg (a0 / (10 : Int32))))), some (.int x3), some (.long x4), none, some (.int x5), some (.long x27), none, some (.int x20), some (.int x21), some (.int x23)]) dX1_weight_110 (by decide) rfl ?_
                  refine X_aload dX1_weight_112 rfl ?_
                  refine X_iload dX1_weight_114 rfl ?_
                  refine X_iload dX1_weight_116 rfl ?_
                  refine X_iload dX1_weight_118 rfl ?_
                  refine X_callVi [.int x20, .int x21, .int x23] [] c_X3_next v_X3_next lk_X1_69 dX1_weight_120 (g_coach hk1) rfl rfl rfl (by decide) (Nat.le_of_ble_eq_true rfl) rfl (s_X3_next sx (Int32.toNatClampNeg (a0 / (10 : Int32))) x20 x21 x23 hk1 σ26 _ h) (fun r29 σ28 h => ?_)
                  refine X_istore (L' := [some (.ref 32), none, some (.int b0), some (.int c0), some (.int d0), some (.ref (16 + 2 * (Int32.toNatClampNeg (a0 / (10 : Int32))))), some (.int x3), some (.long x4), none, some (.int x5), some (.long x27), none, some (.int r29), some (.int x21), some (.int x23)]) dX1_weight_123 (by decide) rfl ?_
                  refine X_iinc (v := (x21 + 1)) (L' := [some (.ref 32), none, some (.int b0), some (.int c0), some (.int d0), some (.ref (16 + 2 * (Int32.toNatClampNeg (a0 / (10 : Int32))))), some (.int x3), some (.long x4), none, some (.int x5), some (.long x27), none, some (.int r29), some (.int (x21 + 1)), some (.int x23)]) dX1_weight_125 rfl rfl (by decide) rfl ?_
                  refine X_goto (tgt := 69) dX1_weight_128 (by decide) ?_
                  refine X_drop (L' := [some (.ref 32), none, some (.int b0), some (.int c0), some (.int d0), some (.ref (16 + 2 * (Int32.toNatClampNeg (a0 / (10 : Int32))))), some (.int x3), some (.long x4), none, some (.int x5), some (.long x27), none, some (.int r29), some (.int (x21 + 1)), none]) ⟨rfl, ⟨rfl, ⟨rfl, ⟨rfl, ⟨rfl, ⟨rfl, ⟨rfl, ⟨rfl, ⟨rfl, ⟨rfl, ⟨rfl, trivial⟩⟩⟩⟩⟩⟩⟩⟩⟩⟩⟩ ?_
                  exact ih69 _ _ _ _  h
                refine X_icmp_ne (tgt := 104) dX1_weight_96 (by decide) h (fun h => ?_) (fun h => ?_)
                · refine X_bipush (v := 12) dX1_weight_104 bipush_12 ?_
                  refine X_iload_n dX1_weight_106 rfl rfl ?_
                  refine X_isub dX1_weight_107 ?_
                  refine X_i2l dX1_weight_108 ?_
                  refine X_drop (L' := [some (.ref 32), none, some (.int b0), some (.int c0), some (.int d0), some (.ref (16 + 2 * (Int32.toNatClampNeg (a0 / (10 : Int32))))), some (.int x3), some (.long x4), none, some (.int x5), none, none, some (.int x20), some (.int x21), some (.int x23)]) ⟨rfl, ⟨rfl, ⟨rfl, ⟨rfl, ⟨rfl, ⟨rfl, ⟨rfl, ⟨rfl, ⟨rfl, ⟨rfl, ⟨rfl, trivial⟩⟩⟩⟩⟩⟩⟩⟩⟩⟩⟩ ?_
                  exact j109 _ _ _  h
                · refine X_iload_n dX1_weight_99 rfl rfl ?_
                  refine X_i2l dX1_weight_100 ?_
                  refine X_goto (tgt := 109) dX1_weight_101 (by decide) ?_
                  refine X_drop (L' := [some (.ref 32), none, some (.int b0), some (.int c0), some (.int d0), some (.ref (16 + 2 * (Int32.toNatClampNeg (a0 / (10 : Int32))))), some (.int x3), some (.long x4), none, some (.int x5), none, none, some (.int x20), some (.int x21), some (.int x23)]) ⟨rfl, ⟨rfl, ⟨rfl, ⟨rfl, ⟨rfl, ⟨rfl, ⟨rfl, ⟨rfl, ⟨rfl, ⟨rfl, ⟨rfl, trivial⟩⟩⟩⟩⟩⟩⟩⟩⟩⟩⟩ ?_
                  exact j109 _ _ _  h
        exact key69 _ _ _ _ _  h
  refine X_drop (L' := [some (.ref 32), none, some (.int b0), some (.int c0), some (.int d0), some (.ref (16 + 2 * (Int32.toNatClampNeg (a0 / (10 : Int32))))), some (.int x3), some (.long (0 : Int64)), none, some (.int (0 : Int32)), none, none, none, none, none]) ⟨rfl, ⟨rfl, ⟨rfl, ⟨rfl, ⟨rfl, ⟨rfl, ⟨rfl, ⟨rfl, trivial⟩⟩⟩⟩⟩⟩⟩⟩ ?_
  exact key48 _ _ _ _  h
