def w_X12_back_l74 (J97 : Sg → Prop) : Nat → Int32 → Sg → Prop
  | 0, _, _ => False
  | n74 + 1, x4, σ5 => if (5 : Int32) ≤ x4 then (J97 σ5) else (vp_in x4 5 ∧ vp_in x4 5 ∧ bd (sI σ5 84 (Int32.toNatClampNeg x4) (σ5.1 88 (Int32.toNatClampNeg x4))) fun σ6 => w_X12_back_l74 J97 n74 (x4 + 1) σ6)
def w_X12_back_l22 (J72 : Sg → Prop) : Nat → Int32 → Sg → Prop
  | 0, _, _ => False
  | n22 + 1, x7, σ8 => if (σ8.1 60 41) ≤ x7 then (J72 σ8) else (vp_in x7 6 ∧ vp_in x7 6 ∧ bd (sI σ8 61 (Int32.toNatClampNeg x7) (σ8.1 85 (Int32.toNatClampNeg x7))) fun σ9 => vp_in x7 6 ∧ vp_in x7 6 ∧ bd (sI σ9 62 (Int32.toNatClampNeg x7) (σ9.1 86 (Int32.toNatClampNeg x7))) fun σ10 => vp_in x7 6 ∧ vp_in x7 6 ∧ bd (sI σ10 64 (Int32.toNatClampNeg x7) (σ10.1 87 (Int32.toNatClampNeg x7))) fun σ11 => w_X12_back_l22 J72 n22 (x7 + 1) σ11)
def w_X12_back (σ : Sg) (Q : Int32 → Sg → Prop) : Prop := if (σ.1 60 40) = 0 then (Q (-5 : Int32) σ) else (bd (sI σ 67 (Int32.toNatClampNeg (2 : Int32)) (σ.1 60 42)) fun σ1 => bd (fun (σ2 : Sg) => bd (fun (σ3 : Sg) => Q (σ3.1 84 (Int32.toNatClampNeg (0 : Int32))) σ3) fun J97 => ∃ n, w_X12_back_l74 J97 n (0 : Int32) σ2) fun J72 => ∃ n, w_X12_back_l22 J72 n (0 : Int32) σ1)
set_option maxRecDepth 100000 in
set_option maxHeartbeats 4000000 in
theorem s_X12_back (sx : Nat × (Nat → Int32)) (σ : Sg) (Q : Int32 → Sg → Prop) (h : w_X12_back σ Q) : Ct mX12_back 0 false (0, 0) sx G0 [.ref 60] σ (qI Q) := by
  refine Ct.of (L := [some (.ref 60), none]) (by decide) (Nat.le_of_ble_eq_true rfl) rfl ?_
  unfold w_X12_back at h
  refine X_aload_n dX12_back_0 rfl rfl ?_
  refine X_get (v := .int (σ.1 60 40)) ck_X12 f_X12_408 g_60 rfl (fun _ => rfl) dX12_back_1 ?_
  refine X_if_ne (tgt := 10) dX12_back_4 (by decide) h (fun h => ?_) (fun h => ?_)
  · refine X_aload_n dX12_back_10 rfl rfl ?_
    refine X_get (v := .ref 67) ck_X12 f_X12_30 g_60 rfl (fun _ => rfl) dX12_back_11 ?_
    refine X_iconst (v := 2) dX12_back_14 iconst_2 ?_
    refine X_aload_n dX12_back_15 rfl rfl ?_
    refine X_get (v := .int (σ.1 60 42)) ck_X12 f_X12_414 g_60 rfl (fun _ => rfl) dX12_back_16 ?_
    refine X_iast g_67 dX12_back_19 ⟨(by unfold vp_in; decide), h⟩ (fun σ1 h => ?_)
    refine X_iconst (v := 0) dX12_back_20 iconst_0 ?_
    refine X_istore_n (L' := [some (.ref 60), some (.int (0 : Int32))]) dX12_back_21 rfl (by decide) rfl ?_
    refine bd_j h (fun J72 e72 h => ?_)
    have j72 : ∀ (σ2 : Sg) , J72  σ2 → Ex mX12_back 0 false (0, 0) sx G0 72 [some (.ref 60), none] [] σ2 (qI Q) := by
      intro  σ2  h
      subst e72
      replace h := h
      refine X_iconst (v := 0) dX12_back_72 iconst_0 ?_
      refine X_istore_n (L' := [some (.ref 60), some (.int (0 : Int32))]) dX12_back_73 rfl (by decide) rfl ?_
      refine bd_j h (fun J97 e97 h => ?_)
      have j97 : ∀ (σ3 : Sg) , J97  σ3 → Ex mX12_back 0 false (0, 0) sx G0 97 [some (.ref 60), none] [] σ3 (qI Q) := by
        intro  σ3  h
        subst e97
        replace h := h
        refine X_aload_n dX12_back_97 rfl rfl ?_
        refine X_get (v := .ref 84) ck_X12 f_X12_83 g_60 rfl (fun _ => rfl) dX12_back_98 ?_
        refine X_iconst (v := 0) dX12_back_101 iconst_0 ?_
        refine X_iald g_84 dX12_back_102 ⟨(by unfold vp_in; decide), h⟩ (fun h => ?_)
        exact X_reti rfl dX12_back_103 h
      obtain ⟨n74, h⟩ := h
      have key74 : ∀ (n : Nat) (x4 : Int32) (σ5 : Sg) , w_X12_back_l74 J97 n x4 σ5 → Ex mX12_back 0 false (0, 0) sx G0 74 [some (.ref 60), some (.int x4)] [] σ5 (qI Q) := by
        intro n74
        induction n74 with
        | zero => intro _ _  h; exact h.elim
        | succ n74 ih74 =>
          intro x4 σ5  h
          unfold w_X12_back_l74 at h
          refine X_iload_n dX12_back_74 rfl rfl ?_
          refine X_iconst (v := 5) dX12_back_75 iconst_5 ?_
          refine X_icmp_ge (tgt := 97) dX12_back_76 (by decide) h (fun h => ?_) (fun h => ?_)
          · refine X_drop (L' := [some (.ref 60), none]) ⟨rfl, trivial⟩ ?_
            exact j97 _  h
          · refine X_aload_n dX12_back_79 rfl rfl ?_
            refine X_get (v := .ref 84) ck_X12 f_X12_83 g_60 rfl (fun _ => rfl) dX12_back_80 ?_
            refine X_iload_n dX12_back_83 rfl rfl ?_
            refine X_aload_n dX12_back_84 rfl rfl ?_
            refine X_get (v := .ref 88) ck_X12 f_X12_95 g_60 rfl (fun _ => rfl) dX12_back_85 ?_
            refine X_iload_n dX12_back_88 rfl rfl ?_
            refine X_iald g_88 dX12_back_89 h (fun h => ?_)
            refine X_iast g_84 dX12_back_90 h (fun σ6 h => ?_)
            refine X_iinc (v := (x4 + 1)) (L' := [some (.ref 60), some (.int (x4 + 1))]) dX12_back_91 rfl rfl (by decide) rfl ?_
            refine X_goto (tgt := 74) dX12_back_94 (by decide) ?_
            exact ih74 _ _  h
      exact key74 _ _ _  h
    obtain ⟨n22, h⟩ := h
    have key22 : ∀ (n : Nat) (x7 : Int32) (σ8 : Sg) , w_X12_back_l22 J72 n x7 σ8 → Ex mX12_back 0 false (0, 0) sx G0 22 [some (.ref 60), some (.int x7)] [] σ8 (qI Q) := by
      intro n22
      induction n22 with
      | zero => intro _ _  h; exact h.elim
      | succ n22 ih22 =>
        intro x7 σ8  h
        unfold w_X12_back_l22 at h
        refine X_iload_n dX12_back_22 rfl rfl ?_
        refine X_aload_n dX12_back_23 rfl rfl ?_
        refine X_get (v := .int (σ8.1 60 41)) ck_X12 f_X12_411 g_60 rfl (fun _ => rfl) dX12_back_24 ?_
        refine X_icmp_ge (tgt := 72) dX12_back_27 (by decide) h (fun h => ?_) (fun h => ?_)
        · refine X_drop (L' := [some (.ref 60), none]) ⟨rfl, trivial⟩ ?_
          exact j72 _  h
        · refine X_aload_n dX12_back_30 rfl rfl ?_
          refine X_get (v := .ref 61) ck_X12 f_X12_9 g_60 rfl (fun _ => rfl) dX12_back_31 ?_
          refine X_iload_n dX12_back_34 rfl rfl ?_
          refine X_aload_n dX12_back_35 rfl rfl ?_
          refine X_get (v := .ref 85) ck_X12 f_X12_86 g_60 rfl (fun _ => rfl) dX12_back_36 ?_
          refine X_iload_n dX12_back_39 rfl rfl ?_
          refine X_iald g_85 dX12_back_40 h (fun h => ?_)
          refine X_iast g_61 dX12_back_41 h (fun σ9 h => ?_)
          refine X_aload_n dX12_back_42 rfl rfl ?_
          refine X_get (v := .ref 62) ck_X12 f_X12_15 g_60 rfl (fun _ => rfl) dX12_back_43 ?_
          refine X_iload_n dX12_back_46 rfl rfl ?_
          refine X_aload_n dX12_back_47 rfl rfl ?_
          refine X_get (v := .ref 86) ck_X12 f_X12_89 g_60 rfl (fun _ => rfl) dX12_back_48 ?_
          refine X_iload_n dX12_back_51 rfl rfl ?_
          refine X_iald g_86 dX12_back_52 h (fun h => ?_)
          refine X_iast g_62 dX12_back_53 h (fun σ10 h => ?_)
          refine X_aload_n dX12_back_54 rfl rfl ?_
          refine X_get (v := .ref 64) ck_X12 f_X12_21 g_60 rfl (fun _ => rfl) dX12_back_55 ?_
          refine X_iload_n dX12_back_58 rfl rfl ?_
          refine X_aload_n dX12_back_59 rfl rfl ?_
          refine X_get (v := .ref 87) ck_X12 f_X12_92 g_60 rfl (fun _ => rfl) dX12_back_60 ?_
          refine X_iload_n dX12_back_63 rfl rfl ?_
          refine X_iald g_87 dX12_back_64 h (fun h => ?_)
          refine X_iast g_64 dX12_back_65 h (fun σ11 h => ?_)
          refine X_iinc (v := (x7 + 1)) (L' := [some (.ref 60), some (.int (x7 + 1))]) dX12_back_66 rfl rfl (by decide) rfl ?_
          refine X_goto (tgt := 22) dX12_back_69 (by decide) ?_
          exact ih22 _ _  h
    exact key22 _ _ _  h
  · refine X_bipush (v := -5) dX12_back_7 bipush_m5 ?_
    exact X_reti rfl dX12_back_9 h
def w_X12_isBody (a0 : Int32) (σ : Sg) (Q : Int32 → Sg → Prop) : Prop := w_X12_in a0 (0 : Int32) ((σ.1 60 47) - (1 : Int32)) σ (fun r2 σ1 => (r2 = 0 ∨ r2 = 1) ∧ Q r2 σ1)
set_option maxRecDepth 100000 in
set_option maxHeartbeats 4000000 in
theorem s_X12_isBody (sx : Nat × (Nat → Int32)) (a0 : Int32) (σ : Sg) (Q : Int32 → Sg → Prop) (h : w_X12_isBody a0 σ Q) : Ct mX12_isBody 1 false (0, 0) sx G0 [.ref 60, .int a0] σ (qI Q) := by
  refine Ct.of (L := [some (.ref 60), some (.int a0)]) (by decide) (Nat.le_of_ble_eq_true rfl) rfl ?_
  unfold w_X12_isBody at h
  refine X_iload_n dX12_isBody_0 rfl rfl ?_
  refine X_iconst (v := 0) dX12_isBody_1 iconst_0 ?_
  refine X_aload_n dX12_isBody_2 rfl rfl ?_
  refine X_get (v := .int (σ.1 60 47)) ck_X12 f_X12_417 g_60 rfl (fun _ => rfl) dX12_isBody_3 ?_
  refine X_iconst (v := 1) dX12_isBody_6 iconst_1 ?_
  refine X_isub dX12_isBody_7 ?_
  refine X_callSi [.int a0, .int (0 : Int32), .int ((σ.1 60 47) - (1 : Int32))] [] c_X12_in t_X12_in lk_X12_128 dX12_isBody_8 rfl (by decide) (Nat.le_of_ble_eq_true rfl) rfl (s_X12_in sx a0 (0 : Int32) ((σ.1 60 47) - (1 : Int32))  σ _ h) (fun r2 σ1 h => ?_)
  exact X_retz rfl (nzb h.1) dX12_isBody_11 h.2
def w_X12_ran (a0 : Int32) (σ : Sg) (Q : Sg → Prop) : Prop := bd (fun (σ1 : Sg) => bd (sI σ1 60 49 ((σ1.1 60 49) + (1 : Int32))) fun σ2 => Q σ2) fun J19 => if (24 : Int32) ≤ (σ.1 60 49) then (J19 σ) else (vp_in (σ.1 60 49) 24 ∧ bd (sI σ 90 (Int32.toNatClampNeg (σ.1 60 49)) a0) fun σ3 => J19 σ3)
set_option maxRecDepth 100000 in
set_option maxHeartbeats 4000000 in
theorem s_X12_ran (sx : Nat × (Nat → Int32)) (a0 : Int32) (σ : Sg) (Q : Sg → Prop) (h : w_X12_ran a0 σ Q) : Ct mX12_ran 0 false (0, 0) sx G0 [.ref 60, .int a0] σ (qV Q) := by
  refine Ct.of (L := [some (.ref 60), some (.int a0)]) (by decide) (Nat.le_of_ble_eq_true rfl) rfl ?_
  unfold w_X12_ran at h
  refine X_aload_n dX12_ran_0 rfl rfl ?_
  refine X_get (v := .int (σ.1 60 49)) ck_X12 f_X12_420 g_60 rfl (fun _ => rfl) dX12_ran_1 ?_
  refine X_bipush (v := 24) dX12_ran_4 bipush_24 ?_
  refine bd_j h (fun J19 e19 h => ?_)
  have j19 : ∀ (σ1 : Sg) , J19  σ1 → Ex mX12_ran 0 false (0, 0) sx G0 19 [some (.ref 60), none] [] σ1 (qV Q) := by
    intro  σ1  h
    subst e19
    replace h := h
    refine X_aload_n dX12_ran_19 rfl rfl ?_
    refine X_dup dX12_ran_20 rfl ?_
    refine X_get (v := .int (σ1.1 60 49)) ck_X12 f_X12_420 g_60 rfl (fun _ => rfl) dX12_ran_21 ?_
    refine X_iconst (v := 1) dX12_ran_24 iconst_1 ?_
    refine X_iadd dX12_ran_25 ?_
    refine X_putI ck_X12 f_X12_420 rfl g_60 rfl rfl rfl dX12_ran_26 h (fun σ2 h => ?_)
    exact X_retv rfl dX12_ran_29 h
  refine X_icmp_ge (tgt := 19) dX12_ran_6 (by decide) h (fun h => ?_) (fun h => ?_)
  · refine X_drop (L' := [some (.ref 60), none]) ⟨rfl, trivial⟩ ?_
    exact j19 _  h
  · refine X_aload_n dX12_ran_9 rfl rfl ?_
    refine X_get (v := .ref 90) ck_X12 f_X12_101 g_60 rfl (fun _ => rfl) dX12_ran_10 ?_
    refine X_aload_n dX12_ran_13 rfl rfl ?_
    refine X_get (v := .int (σ.1 60 49)) ck_X12 f_X12_420 g_60 rfl (fun _ => rfl) dX12_ran_14 ?_
    refine X_iload_n dX12_ran_17 rfl rfl ?_
    refine X_iast g_90 dX12_ran_18 h (fun σ3 h => ?_)
    refine X_drop (L' := [some (.ref 60), none]) ⟨rfl, trivial⟩ ?_
    exact j19 _  h
def w_X12_trace (a0 : Int32) (σ : Sg) (Q : Int32 → Sg → Prop) : Prop := if a0 < 0 then (Q (-1 : Int32) σ) else (if (σ.1 60 49) ≤ a0 then (Q (-1 : Int32) σ) else (if (24 : Int32) ≤ a0 then (Q (-1 : Int32) σ) else (vp_in a0 24 ∧ Q (σ.1 90 (Int32.toNatClampNeg a0)) σ)))
set_option maxRecDepth 100000 in
set_option maxHeartbeats 4000000 in
theorem s_X12_trace (sx : Nat × (Nat → Int32)) (a0 : Int32) (σ : Sg) (Q : Int32 → Sg → Prop) (h : w_X12_trace a0 σ Q) : Ct mX12_trace 0 false (0, 0) sx G0 [.ref 60, .int a0] σ (qI Q) := by
  refine Ct.of (L := [some (.ref 60), some (.int a0)]) (by decide) (Nat.le_of_ble_eq_true rfl) rfl ?_
  unfold w_X12_trace at h
  refine X_iload_n dX12_trace_0 rfl rfl ?_
  refine X_if_lt (tgt := 27) dX12_trace_1 (by decide) h (fun h => ?_) (fun h => ?_)
  · refine X_iconst (v := -1) dX12_trace_27 iconst_m1 ?_
    exact X_reti rfl dX12_trace_28 h
  · refine X_iload_n dX12_trace_4 rfl rfl ?_
    refine X_aload_n dX12_trace_5 rfl rfl ?_
    refine X_get (v := .int (σ.1 60 49)) ck_X12 f_X12_420 g_60 rfl (fun _ => rfl) dX12_trace_6 ?_
    refine X_icmp_ge (tgt := 27) dX12_trace_9 (by decide) h (fun h => ?_) (fun h => ?_)
    · refine X_iconst (v := -1) dX12_trace_27 iconst_m1 ?_
      exact X_reti rfl dX12_trace_28 h
    · refine X_iload_n dX12_trace_12 rfl rfl ?_
      refine X_bipush (v := 24) dX12_trace_13 bipush_24 ?_
      refine X_icmp_ge (tgt := 27) dX12_trace_15 (by decide) h (fun h => ?_) (fun h => ?_)
      · refine X_iconst (v := -1) dX12_trace_27 iconst_m1 ?_
        exact X_reti rfl dX12_trace_28 h
      · refine X_aload_n dX12_trace_18 rfl rfl ?_
        refine X_get (v := .ref 90) ck_X12 f_X12_101 g_60 rfl (fun _ => rfl) dX12_trace_19 ?_
        refine X_iload_n dX12_trace_22 rfl rfl ?_
        refine X_iald g_90 dX12_trace_23 h (fun h => ?_)
        refine X_goto (tgt := 28) dX12_trace_24 (by decide) ?_
        exact X_reti rfl dX12_trace_28 h
def w_X12_body (a0 : Int32) (σ : Sg) (Q : Int32 → Sg → Prop) : Prop := w_X12_in a0 (0 : Int32) (7 : Int32) σ (fun r2 σ1 => if r2 = 0 then (Q (-1 : Int32) σ1) else (if (σ1.1 60 47) = (50 : Int32) then (Q (-3 : Int32) σ1) else (vp_in (σ1.1 60 47) 50 ∧ bd (sI σ1 89 (Int32.toNatClampNeg (σ1.1 60 47)) a0) fun σ3 => bd (sI σ3 60 47 ((σ3.1 60 47) + (1 : Int32))) fun σ4 => Q ((σ4.1 60 47) - (1 : Int32)) σ4)))
set_option maxRecDepth 100000 in
set_option maxHeartbeats 4000000 in
theorem s_X12_body (sx : Nat × (Nat → Int32)) (a0 : Int32) (σ : Sg) (Q : Int32 → Sg → Prop) (h : w_X12_body a0 σ Q) : Ct mX12_body 1 false (0, 0) sx G0 [.ref 60, .int a0] σ (qI Q) := by
  refine Ct.of (L := [some (.ref 60), some (.int a0)]) (by decide) (Nat.le_of_ble_eq_true rfl) rfl ?_
  unfold w_X12_body at h
  refine X_iload_n dX12_body_0 rfl rfl ?_
  refine X_iconst (v := 0) dX12_body_1 iconst_0 ?_
  refine X_bipush (v := 7) dX12_body_2 bipush_7 ?_
  refine X_callSi [.int a0, .int (0 : Int32), .int (7 : Int32)] [] c_X12_in t_X12_in lk_X12_128 dX12_body_4 rfl (by decide) (Nat.le_of_ble_eq_true rfl) rfl (s_X12_in sx a0 (0 : Int32) (7 : Int32)  σ _ h) (fun r2 σ1 h => ?_)
  refine X_if_ne (tgt := 12) dX12_body_7 (by decide) h (fun h => ?_) (fun h => ?_)
  · refine X_aload_n dX12_body_12 rfl rfl ?_
    refine X_get (v := .int (σ1.1 60 47)) ck_X12 f_X12_417 g_60 rfl (fun _ => rfl) dX12_body_13 ?_
    refine X_bipush (v := 50) dX12_body_16 bipush_50 ?_
    refine X_icmp_ne (tgt := 24) dX12_body_18 (by decide) h (fun h => ?_) (fun h => ?_)
    · refine X_aload_n dX12_body_24 rfl rfl ?_
      refine X_get (v := .ref 89) ck_X12 f_X12_98 g_60 rfl (fun _ => rfl) dX12_body_25 ?_
      refine X_aload_n dX12_body_28 rfl rfl ?_
      refine X_get (v := .int (σ1.1 60 47)) ck_X12 f_X12_417 g_60 rfl (fun _ => rfl) dX12_body_29 ?_
      refine X_iload_n dX12_body_32 rfl rfl ?_
      refine X_iast g_89 dX12_body_33 h (fun σ3 h => ?_)
      refine X_aload_n dX12_body_34 rfl rfl ?_
      refine X_dup dX12_body_35 rfl ?_
      refine X_get (v := .int (σ3.1 60 47)) ck_X12 f_X12_417 g_60 rfl (fun _ => rfl) dX12_body_36 ?_
      refine X_iconst (v := 1) dX12_body_39 iconst_1 ?_
      refine X_iadd dX12_body_40 ?_
      refine X_putI ck_X12 f_X12_417 rfl g_60 rfl rfl rfl dX12_body_41 h (fun σ4 h => ?_)
      refine X_aload_n dX12_body_44 rfl rfl ?_
      refine X_get (v := .int (σ4.1 60 47)) ck_X12 f_X12_417 g_60 rfl (fun _ => rfl) dX12_body_45 ?_
      refine X_iconst (v := 1) dX12_body_48 iconst_1 ?_
      refine X_isub dX12_body_49 ?_
      exact X_reti rfl dX12_body_50 h
    · refine X_bipush (v := -3) dX12_body_21 bipush_m3 ?_
      exact X_reti rfl dX12_body_23 h
  · refine X_iconst (v := -1) dX12_body_10 iconst_m1 ?_
    exact X_reti rfl dX12_body_11 h
def w_X12_isUnder (a0 : Int32) (b0 : Int32) (σ : Sg) (Q : Int32 → Sg → Prop) : Prop := if b0 = 0 then (Q (1 : Int32) σ) else (if a0 = b0 then (Q (1 : Int32) σ) else (bd (fun (σ1 : Sg) => bd (fun (σ2 : Sg) => bd (fun (σ3 : Sg) => if b0 = (6 : Int32) then (if a0 = (7 : Int32) then (Q (1 : Int32) σ3) else (Q (0 : Int32) σ3)) else (Q (0 : Int32) σ3)) fun J44 => if b0 = (3 : Int32) then (if a0 = (5 : Int32) then (Q (1 : Int32) σ2) else (J44 σ2)) else (J44 σ2)) fun J34 => if b0 = (2 : Int32) then (if a0 = (3 : Int32) then (Q (1 : Int32) σ1) else (if a0 = (5 : Int32) then (Q (1 : Int32) σ1) else (J34 σ1))) else (J34 σ1)) fun J19 => if b0 = (1 : Int32) then (if a0 = (4 : Int32) then (Q (1 : Int32) σ) else (J19 σ)) else (J19 σ)))
set_option maxRecDepth 100000 in
set_option maxHeartbeats 4000000 in
theorem s_X12_isUnder (sx : Nat × (Nat → Int32)) (a0 : Int32) (b0 : Int32) (σ : Sg) (Q : Int32 → Sg → Prop) (h : w_X12_isUnder a0 b0 σ Q) : Ct mX12_isUnder 0 false (0, 0) sx G0 [.int a0, .int b0] σ (qI Q) := by
  refine Ct.of (L := [some (.int a0), some (.int b0)]) (by decide) (Nat.le_of_ble_eq_true rfl) rfl ?_
  unfold w_X12_isUnder at h
  refine X_iload_n dX12_isUnder_0 rfl rfl ?_
  refine X_if_eq (tgt := 56) dX12_isUnder_1 (by decide) h (fun h => ?_) (fun h => ?_)
  · refine X_iconst (v := 1) dX12_isUnder_56 iconst_1 ?_
    refine X_goto (tgt := 61) dX12_isUnder_57 (by decide) ?_
    exact X_retz rfl rfl dX12_isUnder_61 h
  · refine X_iload_n dX12_isUnder_4 rfl rfl ?_
    refine X_iload_n dX12_isUnder_5 rfl rfl ?_
    refine X_icmp_eq (tgt := 56) dX12_isUnder_6 (by decide) h (fun h => ?_) (fun h => ?_)
    · refine X_iconst (v := 1) dX12_isUnder_56 iconst_1 ?_
      refine X_goto (tgt := 61) dX12_isUnder_57 (by decide) ?_
      exact X_retz rfl rfl dX12_isUnder_61 h
    · refine X_iload_n dX12_isUnder_9 rfl rfl ?_
      refine X_iconst (v := 1) dX12_isUnder_10 iconst_1 ?_
      refine bd_j h (fun J19 e19 h => ?_)
      have j19 : ∀ (σ1 : Sg) , J19  σ1 → Ex mX12_isUnder 0 false (0, 0) sx G0 19 [some (.int a0), some (.int b0)] [] σ1 (qI Q) := by
        intro  σ1  h
        subst e19
        replace h := h
        refine X_iload_n dX12_isUnder_19 rfl rfl ?_
        refine X_iconst (v := 2) dX12_isUnder_20 iconst_2 ?_
        refine bd_j h (fun J34 e34 h => ?_)
        have j34 : ∀ (σ2 : Sg) , J34  σ2 → Ex mX12_isUnder 0 false (0, 0) sx G0 34 [some (.int a0), some (.int b0)] [] σ2 (qI Q) := by
          intro  σ2  h
          subst e34
          replace h := h
          refine X_iload_n dX12_isUnder_34 rfl rfl ?_
          refine X_iconst (v := 3) dX12_isUnder_35 iconst_3 ?_
          refine bd_j h (fun J44 e44 h => ?_)
          have j44 : ∀ (σ3 : Sg) , J44  σ3 → Ex mX12_isUnder 0 false (0, 0) sx G0 44 [some (.int a0), some (.int b0)] [] σ3 (qI Q) := by
            intro  σ3  h
            subst e44
            replace h := h
            refine X_iload_n dX12_isUnder_44 rfl rfl ?_
            refine X_bipush (v := 6) dX12_isUnder_45 bipush_6 ?_
            refine X_icmp_ne (tgt := 60) dX12_isUnder_47 (by decide) h (fun h => ?_) (fun h => ?_)
            · refine X_iconst (v := 0) dX12_isUnder_60 iconst_0 ?_
              exact X_retz rfl rfl dX12_isUnder_61 h
            · refine X_iload_n dX12_isUnder_50 rfl rfl ?_
              refine X_bipush (v := 7) dX12_isUnder_51 bipush_7 ?_
              refine X_icmp_ne (tgt := 60) dX12_isUnder_53 (by decide) h (fun h => ?_) (fun h => ?_)
              · refine X_iconst (v := 0) dX12_isUnder_60 iconst_0 ?_
                exact X_retz rfl rfl dX12_isUnder_61 h
              · refine X_iconst (v := 1) dX12_isUnder_56 iconst_1 ?_
                refine X_goto (tgt := 61) dX12_isUnder_57 (by decide) ?_
                exact X_retz rfl rfl dX12_isUnder_61 h
          refine X_icmp_ne (tgt := 44) dX12_isUnder_36 (by decide) h (fun h => ?_) (fun h => ?_)
          · exact j44 _  h
          · refine X_iload_n dX12_isUnder_39 rfl rfl ?_
            refine X_iconst (v := 5) dX12_isUnder_40 iconst_5 ?_
            refine X_icmp_eq (tgt := 56) dX12_isUnder_41 (by decide) h (fun h => ?_) (fun h => ?_)
            · refine X_iconst (v := 1) dX12_isUnder_56 iconst_1 ?_
              refine X_goto (tgt := 61) dX12_isUnder_57 (by decide) ?_
              exact X_retz rfl rfl dX12_isUnder_61 h
            · exact j44 _  h
        refine X_icmp_ne (tgt := 34) dX12_isUnder_21 (by decide) h (fun h => ?_) (fun h => ?_)
        · exact j34 _  h
        · refine X_iload_n dX12_isUnder_24 rfl rfl ?_
          refine X_iconst (v := 3) dX12_isUnder_25 iconst_3 ?_
          refine X_icmp_eq (tgt := 56) dX12_isUnder_26 (by decide) h (fun h => ?_) (fun h => ?_)
          · refine X_iconst (v := 1) dX12_isUnder_56 iconst_1 ?_
            refine X_goto (tgt := 61) dX12_isUnder_57 (by decide) ?_
            exact X_retz rfl rfl dX12_isUnder_61 h
          · refine X_iload_n dX12_isUnder_29 rfl rfl ?_
            refine X_iconst (v := 5) dX12_isUnder_30 iconst_5 ?_
            refine X_icmp_eq (tgt := 56) dX12_isUnder_31 (by decide) h (fun h => ?_) (fun h => ?_)
            · refine X_iconst (v := 1) dX12_isUnder_56 iconst_1 ?_
              refine X_goto (tgt := 61) dX12_isUnder_57 (by decide) ?_
              exact X_retz rfl rfl dX12_isUnder_61 h
            · exact j34 _  h
      refine X_icmp_ne (tgt := 19) dX12_isUnder_11 (by decide) h (fun h => ?_) (fun h => ?_)
      · exact j19 _  h
      · refine X_iload_n dX12_isUnder_14 rfl rfl ?_
        refine X_iconst (v := 4) dX12_isUnder_15 iconst_4 ?_
        refine X_icmp_eq (tgt := 56) dX12_isUnder_16 (by decide) h (fun h => ?_) (fun h => ?_)
        · refine X_iconst (v := 1) dX12_isUnder_56 iconst_1 ?_
          refine X_goto (tgt := 61) dX12_isUnder_57 (by decide) ?_
          exact X_retz rfl rfl dX12_isUnder_61 h
        · exact j19 _  h
def w_X12_plainFaces (a0 : Int32) (b0 : Int32) (σ : Sg) (Q : Int32 → Sg → Prop) : Prop := w_X12_ran (1 : Int32) σ (fun  σ1 => Q (b0 + a0) σ1)
set_option maxRecDepth 100000 in
set_option maxHeartbeats 4000000 in
theorem s_X12_plainFaces (sx : Nat × (Nat → Int32)) (a0 : Int32) (b0 : Int32) (σ : Sg) (Q : Int32 → Sg → Prop) (h : w_X12_plainFaces a0 b0 σ Q) : Ct mX12_plainFaces 1 false (0, 0) sx G0 [.ref 60, .int a0, .int b0] σ (qI Q) := by
  refine Ct.of (L := [some (.ref 60), some (.int a0), some (.int b0)]) (by decide) (Nat.le_of_ble_eq_true rfl) rfl ?_
  unfold w_X12_plainFaces at h
  refine X_aload_n dX12_plainFaces_0 rfl rfl ?_
  refine X_iconst (v := 1) dX12_plainFaces_1 iconst_1 ?_
  refine X_callVv [.int (1 : Int32)] [] c_X12_ran v_X12_ran lk_X12_423 dX12_plainFaces_2 g_60 rfl rfl rfl (by decide) (Nat.le_of_ble_eq_true rfl) rfl (s_X12_ran sx (1 : Int32)  σ _ h) (fun  σ1 h => ?_)
  refine X_iload_n dX12_plainFaces_5 rfl rfl ?_
  refine X_iload_n dX12_plainFaces_6 rfl rfl ?_
  refine X_iadd dX12_plainFaces_7 ?_
  exact X_reti rfl dX12_plainFaces_8 h
def w_X12_ludlowFaces (a0 : Int32) (b0 : Int32) (σ : Sg) (Q : Int32 → Sg → Prop) : Prop := w_X12_ran (70 : Int32) σ (fun  σ1 => w_X12_plainFaces a0 b0 σ1 (fun r3 σ2 => Q (r3 * (2 : Int32)) σ2))
set_option maxRecDepth 100000 in
set_option maxHeartbeats 4000000 in
theorem s_X12_ludlowFaces (sx : Nat × (Nat → Int32)) (a0 : Int32) (b0 : Int32) (σ : Sg) (Q : Int32 → Sg → Prop) (h : w_X12_ludlowFaces a0 b0 σ Q) : Ct mX12_ludlowFaces 2 false (0, 0) sx G0 [.ref 60, .int a0, .int b0] σ (qI Q) := by
  refine Ct.of (L := [some (.ref 60), some (.int a0), some (.int b0)]) (by decide) (Nat.le_of_ble_eq_true rfl) rfl ?_
  unfold w_X12_ludlowFaces at h
  refine X_aload_n dX12_ludlowFaces_0 rfl rfl ?_
  refine X_bipush (v := 70) dX12_ludlowFaces_1 bipush_70 ?_
  refine X_callVv [.int (70 : Int32)] [] c_X12_ran v_X12_ran lk_X12_423 dX12_ludlowFaces_3 g_60 rfl rfl rfl (by decide) (Nat.le_of_ble_eq_true rfl) rfl (s_X12_ran sx (70 : Int32)  σ _ h) (fun  σ1 h => ?_)
  refine X_aload_n dX12_ludlowFaces_6 rfl rfl ?_
  refine X_iload_n dX12_ludlowFaces_7 rfl rfl ?_
  refine X_iload_n dX12_ludlowFaces_8 rfl rfl ?_
  refine X_callVi [.int a0, .int b0] [] c_X12_plainFaces v_X12_plainFaces lk_X12_426 dX12_ludlowFaces_9 g_60 rfl rfl rfl (by decide) (Nat.le_of_ble_eq_true rfl) rfl (s_X12_plainFaces sx a0 b0  σ1 _ h) (fun r3 σ2 h => ?_)
  refine X_iconst (v := 2) dX12_ludlowFaces_12 iconst_2 ?_
  refine X_imul dX12_ludlowFaces_13 ?_
  exact X_reti rfl dX12_ludlowFaces_14 h
def w_X12_facing (a0 : Int32) (b0 : Int32) (σ : Sg) (Q : Int32 → Sg → Prop) : Prop := vp_in a0 50 ∧ w_X12_isUnder (σ.1 89 (Int32.toNatClampNeg a0)) (1 : Int32) σ (fun r2 σ1 => if r2 = 0 then (vp_in a0 50 ∧ if (σ1.1 89 (Int32.toNatClampNeg a0)) = (7 : Int32) then (w_X12_ran (81 : Int32) σ1 (fun  σ7 => w_X12_ludlowFaces a0 b0 σ7 (fun r9 σ8 => Q (r9 - (1 : Int32)) σ8))) else (vp_in a0 50 ∧ if (σ1.1 89 (Int32.toNatClampNeg a0)) = (6 : Int32) then (w_X12_ludlowFaces a0 b0 σ1 (fun r6 σ5 => Q r6 σ5)) else (w_X12_plainFaces a0 b0 σ1 (fun r4 σ3 => Q r4 σ3)))) else (w_X12_ran (20 : Int32) σ1 (fun  σ10 => w_X12_plainFaces a0 b0 σ10 (fun r12 σ11 => Q (r12 + (3 : Int32)) σ11))))
set_option maxRecDepth 100000 in
set_option maxHeartbeats 4000000 in
theorem s_X12_facing (sx : Nat × (Nat → Int32)) (a0 : Int32) (b0 : Int32) (σ : Sg) (Q : Int32 → Sg → Prop) (h : w_X12_facing a0 b0 σ Q) : Ct mX12_facing 3 false (0, 0) sx G0 [.ref 60, .int a0, .int b0] σ (qI Q) := by
  refine Ct.of (L := [some (.ref 60), some (.int a0), some (.int b0)]) (by decide) (Nat.le_of_ble_eq_true rfl) rfl ?_
  unfold w_X12_facing at h
  refine X_aload_n dX12_facing_0 rfl rfl ?_
  refine X_get (v := .ref 89) ck_X12 f_X12_98 g_60 rfl (fun _ => rfl) dX12_facing_1 ?_
  refine X_iload_n dX12_facing_4 rfl rfl ?_
  refine X_iald g_89 dX12_facing_5 h (fun h => ?_)
  refine X_iconst (v := 1) dX12_facing_6 iconst_1 ?_
  refine X_callSi [.int (σ.1 89 (Int32.toNatClampNeg a0)), .int (1 : Int32)] [] c_X12_isUnder t_X12_isUnder lk_X12_429 dX12_facing_7 rfl (by decide) (Nat.le_of_ble_eq_true rfl) rfl (s_X12_isUnder sx (σ.1 89 (Int32.toNatClampNeg a0)) (1 : Int32)  σ _ h) (fun r2 σ1 h => ?_)
  refine X_if_eq (tgt := 28) dX12_facing_10 (by decide) h (fun h => ?_) (fun h => ?_)
  · refine X_aload_n dX12_facing_28 rfl rfl ?_
    refine X_get (v := .ref 89) ck_X12 f_X12_98 g_60 rfl (fun _ => rfl) dX12_facing_29 ?_
    refine X_iload_n dX12_facing_32 rfl rfl ?_
    refine X_iald g_89 dX12_facing_33 h (fun h => ?_)
    refine X_bipush (v := 7) dX12_facing_34 bipush_7 ?_
    refine X_icmp_ne (tgt := 54) dX12_facing_36 (by decide) h (fun h => ?_) (fun h => ?_)
    · refine X_aload_n dX12_facing_54 rfl rfl ?_
      refine X_get (v := .ref 89) ck_X12 f_X12_98 g_60 rfl (fun _ => rfl) dX12_facing_55 ?_
      refine X_iload_n dX12_facing_58 rfl rfl ?_
      refine X_iald g_89 dX12_facing_59 h (fun h => ?_)
      refine X_bipush (v := 6) dX12_facing_60 bipush_6 ?_
      refine X_icmp_ne (tgt := 74) dX12_facing_62 (by decide) h (fun h => ?_) (fun h => ?_)
      · refine X_aload_n dX12_facing_74 rfl rfl ?_
        refine X_iload_n dX12_facing_75 rfl rfl ?_
        refine X_iload_n dX12_facing_76 rfl rfl ?_
        refine X_callVi [.int a0, .int b0] [] c_X12_plainFaces v_X12_plainFaces lk_X12_426 dX12_facing_77 g_60 rfl rfl rfl (by decide) (Nat.le_of_ble_eq_true rfl) rfl (s_X12_plainFaces sx a0 b0  σ1 _ h) (fun r4 σ3 h => ?_)
        exact X_reti rfl dX12_facing_80 h
      · refine X_aload_n dX12_facing_65 rfl rfl ?_
        refine X_iload_n dX12_facing_66 rfl rfl ?_
        refine X_iload_n dX12_facing_67 rfl rfl ?_
        refine X_callVi [.int a0, .int b0] [] c_X12_ludlowFaces v_X12_ludlowFaces lk_X12_432 dX12_facing_68 g_60 rfl rfl rfl (by decide) (Nat.le_of_ble_eq_true rfl) rfl (s_X12_ludlowFaces sx a0 b0  σ1 _ h) (fun r6 σ5 h => ?_)
        refine X_goto (tgt := 80) dX12_facing_71 (by decide) ?_
        exact X_reti rfl dX12_facing_80 h
    · refine X_aload_n dX12_facing_39 rfl rfl ?_
      refine X_bipush (v := 81) dX12_facing_40 bipush_81 ?_
      refine X_callVv [.int (81 : Int32)] [] c_X12_ran v_X12_ran lk_X12_423 dX12_facing_42 g_60 rfl rfl rfl (by decide) (Nat.le_of_ble_eq_true rfl) rfl (s_X12_ran sx (81 : Int32)  σ1 _ h) (fun  σ7 h => ?_)
      refine X_aload_n dX12_facing_45 rfl rfl ?_
      refine X_iload_n dX12_facing_46 rfl rfl ?_
      refine X_iload_n dX12_facing_47 rfl rfl ?_
      refine X_callVi [.int a0, .int b0] [] c_X12_ludlowFaces v_X12_ludlowFaces lk_X12_432 dX12_facing_48 g_60 rfl rfl rfl (by decide) (Nat.le_of_ble_eq_true rfl) rfl (s_X12_ludlowFaces sx a0 b0  σ7 _ h) (fun r9 σ8 h => ?_)
      refine X_iconst (v := 1) dX12_facing_51 iconst_1 ?_
      refine X_isub dX12_facing_52 ?_
      exact X_reti rfl dX12_facing_53 h
  · refine X_aload_n dX12_facing_13 rfl rfl ?_
    refine X_bipush (v := 20) dX12_facing_14 bipush_20 ?_
    refine X_callVv [.int (20 : Int32)] [] c_X12_ran v_X12_ran lk_X12_423 dX12_facing_16 g_60 rfl rfl rfl (by decide) (Nat.le_of_ble_eq_true rfl) rfl (s_X12_ran sx (20 : Int32)  σ1 _ h) (fun  σ10 h => ?_)
    refine X_aload_n dX12_facing_19 rfl rfl ?_
    refine X_iload_n dX12_facing_20 rfl rfl ?_
    refine X_iload_n dX12_facing_21 rfl rfl ?_
    refine X_callVi [.int a0, .int b0] [] c_X12_plainFaces v_X12_plainFaces lk_X12_426 dX12_facing_22 g_60 rfl rfl rfl (by decide) (Nat.le_of_ble_eq_true rfl) rfl (s_X12_plainFaces sx a0 b0  σ10 _ h) (fun r12 σ11 h => ?_)
    refine X_iconst (v := 3) dX12_facing_25 iconst_3 ?_
    refine X_iadd dX12_facing_26 ?_
    exact X_reti rfl dX12_facing_27 h
def w_X12_plainDrives (a0 : Int32) (b0 : Int32) (σ : Sg) (Q : Int32 → Sg → Prop) : Prop := w_X12_ran (10 : Int32) σ (fun  σ1 => w_X12_facing a0 b0 σ1 (fun r3 σ2 => Q (r3 * (2 : Int32)) σ2))
set_option maxRecDepth 100000 in
set_option maxHeartbeats 4000000 in
theorem s_X12_plainDrives (sx : Nat × (Nat → Int32)) (a0 : Int32) (b0 : Int32) (σ : Sg) (Q : Int32 → Sg → Prop) (h : w_X12_plainDrives a0 b0 σ Q) : Ct mX12_plainDrives 4 false (0, 0) sx G0 [.ref 60, .int a0, .int b0] σ (qI Q) := by
  refine Ct.of (L := [some (.ref 60), some (.int a0), some (.int b0)]) (by decide) (Nat.le_of_ble_eq_true rfl) rfl ?_
  unfold w_X12_plainDrives at h
  refine X_aload_n dX12_plainDrives_0 rfl rfl ?_
  refine X_bipush (v := 10) dX12_plainDrives_1 bipush_10 ?_
  refine X_callVv [.int (10 : Int32)] [] c_X12_ran v_X12_ran lk_X12_423 dX12_plainDrives_3 g_60 rfl rfl rfl (by decide) (Nat.le_of_ble_eq_true rfl) rfl (s_X12_ran sx (10 : Int32)  σ _ h) (fun  σ1 h => ?_)
  refine X_aload_n dX12_plainDrives_6 rfl rfl ?_
  refine X_iload_n dX12_plainDrives_7 rfl rfl ?_
  refine X_iload_n dX12_plainDrives_8 rfl rfl ?_
  refine X_callVi [.int a0, .int b0] [] c_X12_facing v_X12_facing lk_X12_435 dX12_plainDrives_9 g_60 rfl rfl rfl (by decide) (Nat.le_of_ble_eq_true rfl) rfl (s_X12_facing sx a0 b0  σ1 _ h) (fun r3 σ2 h => ?_)
  refine X_iconst (v := 2) dX12_plainDrives_12 iconst_2 ?_
  refine X_imul dX12_plainDrives_13 ?_
  exact X_reti rfl dX12_plainDrives_14 h
def w_X12_buddDrives (a0 : Int32) (b0 : Int32) (σ : Sg) (Q : Int32 → Sg → Prop) : Prop := w_X12_ran (30 : Int32) σ (fun  σ1 => w_X12_plainDrives a0 b0 σ1 (fun r3 σ2 => Q (-r3) σ2))
set_option maxRecDepth 100000 in
set_option maxHeartbeats 4000000 in
theorem s_X12_buddDrives (sx : Nat × (Nat → Int32)) (a0 : Int32) (b0 : Int32) (σ : Sg) (Q : Int32 → Sg → Prop) (h : w_X12_buddDrives a0 b0 σ Q) : Ct mX12_buddDrives 5 false (0, 0) sx G0 [.ref 60, .int a0, .int b0] σ (qI Q) := by
  refine Ct.of (L := [some (.ref 60), some (.int a0), some (.int b0)]) (by decide) (Nat.le_of_ble_eq_true rfl) rfl ?_
  unfold w_X12_buddDrives at h
  refine X_aload_n dX12_buddDrives_0 rfl rfl ?_
  refine X_bipush (v := 30) dX12_buddDrives_1 bipush_30 ?_
  refine X_callVv [.int (30 : Int32)] [] c_X12_ran v_X12_ran lk_X12_423 dX12_buddDrives_3 g_60 rfl rfl rfl (by decide) (Nat.le_of_ble_eq_true rfl) rfl (s_X12_ran sx (30 : Int32)  σ _ h) (fun  σ1 h => ?_)
  refine X_aload_n dX12_buddDrives_6 rfl rfl ?_
  refine X_iload_n dX12_buddDrives_7 rfl rfl ?_
  refine X_iload_n dX12_buddDrives_8 rfl rfl ?_
  refine X_callVi [.int a0, .int b0] [] c_X12_plainDrives v_X12_plainDrives lk_X12_438 dX12_buddDrives_9 g_60 rfl rfl rfl (by decide) (Nat.le_of_ble_eq_true rfl) rfl (s_X12_plainDrives sx a0 b0  σ1 _ h) (fun r3 σ2 h => ?_)
  refine X_ineg dX12_buddDrives_12 ?_
  exact X_reti rfl dX12_buddDrives_13 h
def w_X12_plainWeeps (a0 : Int32) (b0 : Int32) (σ : Sg) (Q : Int32 → Sg → Prop) : Prop := w_X12_ran (11 : Int32) σ (fun  σ1 => Q (b0 ^^^ a0) σ1)
set_option maxRecDepth 100000 in
set_option maxHeartbeats 4000000 in
theorem s_X12_plainWeeps (sx : Nat × (Nat → Int32)) (a0 : Int32) (b0 : Int32) (σ : Sg) (Q : Int32 → Sg → Prop) (h : w_X12_plainWeeps a0 b0 σ Q) : Ct mX12_plainWeeps 1 false (0, 0) sx G0 [.ref 60, .int a0, .int b0] σ (qI Q) := by
  refine Ct.of (L := [some (.ref 60), some (.int a0), some (.int b0)]) (by decide) (Nat.le_of_ble_eq_true rfl) rfl ?_
  unfold w_X12_plainWeeps at h
  refine X_aload_n dX12_plainWeeps_0 rfl rfl ?_
  refine X_bipush (v := 11) dX12_plainWeeps_1 bipush_11 ?_
  refine X_callVv [.int (11 : Int32)] [] c_X12_ran v_X12_ran lk_X12_423 dX12_plainWeeps_3 g_60 rfl rfl rfl (by decide) (Nat.le_of_ble_eq_true rfl) rfl (s_X12_ran sx (11 : Int32)  σ _ h) (fun  σ1 h => ?_)
  refine X_iload_n dX12_plainWeeps_6 rfl rfl ?_
  refine X_iload_n dX12_plainWeeps_7 rfl rfl ?_
  refine X_ixor dX12_plainWeeps_8 ?_
  exact X_reti rfl dX12_plainWeeps_9 h
def w_X12_farmWeeps (a0 : Int32) (b0 : Int32) (σ : Sg) (Q : Int32 → Sg → Prop) : Prop := w_X12_ran (40 : Int32) σ (fun  σ1 => w_X12_plainWeeps a0 b0 σ1 (fun r3 σ2 => Q (r3 * (3 : Int32)) σ2))
set_option maxRecDepth 100000 in
set_option maxHeartbeats 4000000 in
theorem s_X12_farmWeeps (sx : Nat × (Nat → Int32)) (a0 : Int32) (b0 : Int32) (σ : Sg) (Q : Int32 → Sg → Prop) (h : w_X12_farmWeeps a0 b0 σ Q) : Ct mX12_farmWeeps 2 false (0, 0) sx G0 [.ref 60, .int a0, .int b0] σ (qI Q) := by
  refine Ct.of (L := [some (.ref 60), some (.int a0), some (.int b0)]) (by decide) (Nat.le_of_ble_eq_true rfl) rfl ?_
  unfold w_X12_farmWeeps at h
  refine X_aload_n dX12_farmWeeps_0 rfl rfl ?_
  refine X_bipush (v := 40) dX12_farmWeeps_1 bipush_40 ?_
  refine X_callVv [.int (40 : Int32)] [] c_X12_ran v_X12_ran lk_X12_423 dX12_farmWeeps_3 g_60 rfl rfl rfl (by decide) (Nat.le_of_ble_eq_true rfl) rfl (s_X12_ran sx (40 : Int32)  σ _ h) (fun  σ1 h => ?_)
  refine X_aload_n dX12_farmWeeps_6 rfl rfl ?_
  refine X_iload_n dX12_farmWeeps_7 rfl rfl ?_
  refine X_iload_n dX12_farmWeeps_8 rfl rfl ?_
  refine X_callVi [.int a0, .int b0] [] c_X12_plainWeeps v_X12_plainWeeps lk_X12_447 dX12_farmWeeps_9 g_60 rfl rfl rfl (by decide) (Nat.le_of_ble_eq_true rfl) rfl (s_X12_plainWeeps sx a0 b0  σ1 _ h) (fun r3 σ2 h => ?_)
  refine X_iconst (v := 3) dX12_farmWeeps_12 iconst_3 ?_
  refine X_imul dX12_farmWeeps_13 ?_
  exact X_reti rfl dX12_farmWeeps_14 h
def w_X12_weeping (a0 : Int32) (b0 : Int32) (σ : Sg) (Q : Int32 → Sg → Prop) : Prop := vp_in a0 50 ∧ if (σ.1 89 (Int32.toNatClampNeg a0)) = (5 : Int32) then (w_X12_ran (60 : Int32) σ (fun  σ5 => w_X12_farmWeeps a0 b0 σ5 (fun r7 σ6 => w_X12_facing a0 (2 : Int32) σ6 (fun r9 σ8 => Q (r7 - r9) σ8)))) else (vp_in a0 50 ∧ if (σ.1 89 (Int32.toNatClampNeg a0)) = (3 : Int32) then (w_X12_farmWeeps a0 b0 σ (fun r4 σ3 => Q r4 σ3)) else (w_X12_plainWeeps a0 b0 σ (fun r2 σ1 => Q r2 σ1)))
set_option maxRecDepth 100000 in
set_option maxHeartbeats 4000000 in
theorem s_X12_weeping (sx : Nat × (Nat → Int32)) (a0 : Int32) (b0 : Int32) (σ : Sg) (Q : Int32 → Sg → Prop) (h : w_X12_weeping a0 b0 σ Q) : Ct mX12_weeping 4 false (0, 0) sx G0 [.ref 60, .int a0, .int b0] σ (qI Q) := by
  refine Ct.of (L := [some (.ref 60), some (.int a0), some (.int b0), none]) (by decide) (Nat.le_of_ble_eq_true rfl) rfl ?_
  unfold w_X12_weeping at h
  refine X_aload_n dX12_weeping_0 rfl rfl ?_
  refine X_get (v := .ref 89) ck_X12 f_X12_98 g_60 rfl (fun _ => rfl) dX12_weeping_1 ?_
  refine X_iload_n dX12_weeping_4 rfl rfl ?_
  refine X_iald g_89 dX12_weeping_5 h (fun h => ?_)
  refine X_iconst (v := 5) dX12_weeping_6 iconst_5 ?_
  refine X_icmp_ne (tgt := 32) dX12_weeping_7 (by decide) h (fun h => ?_) (fun h => ?_)
  · refine X_aload_n dX12_weeping_32 rfl rfl ?_
    refine X_get (v := .ref 89) ck_X12 f_X12_98 g_60 rfl (fun _ => rfl) dX12_weeping_33 ?_
    refine X_iload_n dX12_weeping_36 rfl rfl ?_
    refine X_iald g_89 dX12_weeping_37 h (fun h => ?_)
    refine X_iconst (v := 3) dX12_weeping_38 iconst_3 ?_
    refine X_icmp_ne (tgt := 51) dX12_weeping_39 (by decide) h (fun h => ?_) (fun h => ?_)
    · refine X_aload_n dX12_weeping_51 rfl rfl ?_
      refine X_iload_n dX12_weeping_52 rfl rfl ?_
      refine X_iload_n dX12_weeping_53 rfl rfl ?_
      refine X_callVi [.int a0, .int b0] [] c_X12_plainWeeps v_X12_plainWeeps lk_X12_447 dX12_weeping_54 g_60 rfl rfl rfl (by decide) (Nat.le_of_ble_eq_true rfl) rfl (s_X12_plainWeeps sx a0 b0  σ _ h) (fun r2 σ1 h => ?_)
      exact X_reti rfl dX12_weeping_57 h
    · refine X_aload_n dX12_weeping_42 rfl rfl ?_
      refine X_iload_n dX12_weeping_43 rfl rfl ?_
      refine X_iload_n dX12_weeping_44 rfl rfl ?_
      refine X_callVi [.int a0, .int b0] [] c_X12_farmWeeps v_X12_farmWeeps lk_X12_450 dX12_weeping_45 g_60 rfl rfl rfl (by decide) (Nat.le_of_ble_eq_true rfl) rfl (s_X12_farmWeeps sx a0 b0  σ _ h) (fun r4 σ3 h => ?_)
      refine X_goto (tgt := 57) dX12_weeping_48 (by decide) ?_
      exact X_reti rfl dX12_weeping_57 h
  · refine X_aload_n dX12_weeping_10 rfl rfl ?_
    refine X_bipush (v := 60) dX12_weeping_11 bipush_60 ?_
    refine X_callVv [.int (60 : Int32)] [] c_X12_ran v_X12_ran lk_X12_423 dX12_weeping_13 g_60 rfl rfl rfl (by decide) (Nat.le_of_ble_eq_true rfl) rfl (s_X12_ran sx (60 : Int32)  σ _ h) (fun  σ5 h => ?_)
    refine X_aload_n dX12_weeping_16 rfl rfl ?_
    refine X_iload_n dX12_weeping_17 rfl rfl ?_
    refine X_iload_n dX12_weeping_18 rfl rfl ?_
    refine X_callVi [.int a0, .int b0] [] c_X12_farmWeeps v_X12_farmWeeps lk_X12_450 dX12_weeping_19 g_60 rfl rfl rfl (by decide) (Nat.le_of_ble_eq_true rfl) rfl (s_X12_farmWeeps sx a0 b0  σ5 _ h) (fun r7 σ6 h => ?_)
    refine X_istore_n (L' := [some (.ref 60), some (.int a0), some (.int b0), some (.int r7)]) dX12_weeping_22 rfl (by decide) rfl ?_
    refine X_iload_n dX12_weeping_23 rfl rfl ?_
    refine X_aload_n dX12_weeping_24 rfl rfl ?_
    refine X_iload_n dX12_weeping_25 rfl rfl ?_
    refine X_iconst (v := 2) dX12_weeping_26 iconst_2 ?_
    refine X_callVi [.int a0, .int (2 : Int32)] [.int r7] c_X12_facing v_X12_facing lk_X12_435 dX12_weeping_27 g_60 rfl rfl rfl (by decide) (Nat.le_of_ble_eq_true rfl) rfl (s_X12_facing sx a0 (2 : Int32)  σ6 _ h) (fun r9 σ8 h => ?_)
    refine X_isub dX12_weeping_30 ?_
    exact X_reti rfl dX12_weeping_31 h
def w_X12_driving (a0 : Int32) (b0 : Int32) (σ : Sg) (Q : Int32 → Sg → Prop) : Prop := vp_in a0 50 ∧ w_X12_isUnder (σ.1 89 (Int32.toNatClampNeg a0)) (3 : Int32) σ (fun r2 σ1 => if r2 = 0 then (vp_in a0 50 ∧ if (σ1.1 89 (Int32.toNatClampNeg a0)) = (7 : Int32) then (w_X12_ran (80 : Int32) σ1 (fun  σ7 => w_X12_plainDrives a0 b0 σ7 (fun r9 σ8 => w_X12_weeping a0 (2 : Int32) σ8 (fun r11 σ10 => Q (r9 + r11) σ10)))) else (vp_in a0 50 ∧ if (σ1.1 89 (Int32.toNatClampNeg a0)) = (2 : Int32) then (w_X12_buddDrives a0 b0 σ1 (fun r6 σ5 => Q r6 σ5)) else (w_X12_plainDrives a0 b0 σ1 (fun r4 σ3 => Q r4 σ3)))) else (w_X12_ran (41 : Int32) σ1 (fun  σ12 => w_X12_buddDrives a0 (b0 + (1 : Int32)) σ12 (fun r14 σ13 => Q r14 σ13))))
set_option maxRecDepth 100000 in
set_option maxHeartbeats 4000000 in
theorem s_X12_driving (sx : Nat × (Nat → Int32)) (a0 : Int32) (b0 : Int32) (σ : Sg) (Q : Int32 → Sg → Prop) (h : w_X12_driving a0 b0 σ Q) : Ct mX12_driving 6 false (0, 0) sx G0 [.ref 60, .int a0, .int b0] σ (qI Q) := by
  refine Ct.of (L := [some (.ref 60), some (.int a0), some (.int b0), none]) (by decide) (Nat.le_of_ble_eq_true rfl) rfl ?_
  unfold w_X12_driving at h
  refine X_aload_n dX12_driving_0 rfl rfl ?_
  refine X_get (v := .ref 89) ck_X12 f_X12_98 g_60 rfl (fun _ => rfl) dX12_driving_1 ?_
  refine X_iload_n dX12_driving_4 rfl rfl ?_
  refine X_iald g_89 dX12_driving_5 h (fun h => ?_)
  refine X_iconst (v := 3) dX12_driving_6 iconst_3 ?_
  refine X_callSi [.int (σ.1 89 (Int32.toNatClampNeg a0)), .int (3 : Int32)] [] c_X12_isUnder t_X12_isUnder lk_X12_429 dX12_driving_7 rfl (by decide) (Nat.le_of_ble_eq_true rfl) rfl (s_X12_isUnder sx (σ.1 89 (Int32.toNatClampNeg a0)) (3 : Int32)  σ _ h) (fun r2 σ1 h => ?_)
  refine X_if_eq (tgt := 28) dX12_driving_10 (by decide) h (fun h => ?_) (fun h => ?_)
  · refine X_aload_n dX12_driving_28 rfl rfl ?_
    refine X_get (v := .ref 89) ck_X12 f_X12_98 g_60 rfl (fun _ => rfl) dX12_driving_29 ?_
    refine X_iload_n dX12_driving_32 rfl rfl ?_
    refine X_iald g_89 dX12_driving_33 h (fun h => ?_)
    refine X_bipush (v := 7) dX12_driving_34 bipush_7 ?_
    refine X_icmp_ne (tgt := 61) dX12_driving_36 (by decide) h (fun h => ?_) (fun h => ?_)
    · refine X_aload_n dX12_driving_61 rfl rfl ?_
      refine X_get (v := .ref 89) ck_X12 f_X12_98 g_60 rfl (fun _ => rfl) dX12_driving_62 ?_
      refine X_iload_n dX12_driving_65 rfl rfl ?_
      refine X_iald g_89 dX12_driving_66 h (fun h => ?_)
      refine X_iconst (v := 2) dX12_driving_67 iconst_2 ?_
      refine X_icmp_ne (tgt := 80) dX12_driving_68 (by decide) h (fun h => ?_) (fun h => ?_)
      · refine X_aload_n dX12_driving_80 rfl rfl ?_
        refine X_iload_n dX12_driving_81 rfl rfl ?_
        refine X_iload_n dX12_driving_82 rfl rfl ?_
        refine X_callVi [.int a0, .int b0] [] c_X12_plainDrives v_X12_plainDrives lk_X12_438 dX12_driving_83 g_60 rfl rfl rfl (by decide) (Nat.le_of_ble_eq_true rfl) rfl (s_X12_plainDrives sx a0 b0  σ1 _ h) (fun r4 σ3 h => ?_)
        exact X_reti rfl dX12_driving_86 h
      · refine X_aload_n dX12_driving_71 rfl rfl ?_
        refine X_iload_n dX12_driving_72 rfl rfl ?_
        refine X_iload_n dX12_driving_73 rfl rfl ?_
        refine X_callVi [.int a0, .int b0] [] c_X12_buddDrives v_X12_buddDrives lk_X12_441 dX12_driving_74 g_60 rfl rfl rfl (by decide) (Nat.le_of_ble_eq_true rfl) rfl (s_X12_buddDrives sx a0 b0  σ1 _ h) (fun r6 σ5 h => ?_)
        refine X_goto (tgt := 86) dX12_driving_77 (by decide) ?_
        exact X_reti rfl dX12_driving_86 h
    · refine X_aload_n dX12_driving_39 rfl rfl ?_
      refine X_bipush (v := 80) dX12_driving_40 bipush_80 ?_
      refine X_callVv [.int (80 : Int32)] [] c_X12_ran v_X12_ran lk_X12_423 dX12_driving_42 g_60 rfl rfl rfl (by decide) (Nat.le_of_ble_eq_true rfl) rfl (s_X12_ran sx (80 : Int32)  σ1 _ h) (fun  σ7 h => ?_)
      refine X_aload_n dX12_driving_45 rfl rfl ?_
      refine X_iload_n dX12_driving_46 rfl rfl ?_
      refine X_iload_n dX12_driving_47 rfl rfl ?_
      refine X_callVi [.int a0, .int b0] [] c_X12_plainDrives v_X12_plainDrives lk_X12_438 dX12_driving_48 g_60 rfl rfl rfl (by decide) (Nat.le_of_ble_eq_true rfl) rfl (s_X12_plainDrives sx a0 b0  σ7 _ h) (fun r9 σ8 h => ?_)
      refine X_istore_n (L' := [some (.ref 60), some (.int a0), some (.int b0), some (.int r9)]) dX12_driving_51 rfl (by decide) rfl ?_
      refine X_iload_n dX12_driving_52 rfl rfl ?_
      refine X_aload_n dX12_driving_53 rfl rfl ?_
      refine X_iload_n dX12_driving_54 rfl rfl ?_
      refine X_iconst (v := 2) dX12_driving_55 iconst_2 ?_
      refine X_callVi [.int a0, .int (2 : Int32)] [.int r9] c_X12_weeping v_X12_weeping lk_X12_444 dX12_driving_56 g_60 rfl rfl rfl (by decide) (Nat.le_of_ble_eq_true rfl) rfl (s_X12_weeping sx a0 (2 : Int32)  σ8 _ h) (fun r11 σ10 h => ?_)
      refine X_iadd dX12_driving_59 ?_
      exact X_reti rfl dX12_driving_60 h
  · refine X_aload_n dX12_driving_13 rfl rfl ?_
    refine X_bipush (v := 41) dX12_driving_14 bipush_41 ?_
    refine X_callVv [.int (41 : Int32)] [] c_X12_ran v_X12_ran lk_X12_423 dX12_driving_16 g_60 rfl rfl rfl (by decide) (Nat.le_of_ble_eq_true rfl) rfl (s_X12_ran sx (41 : Int32)  σ1 _ h) (fun  σ12 h => ?_)
    refine X_aload_n dX12_driving_19 rfl rfl ?_
    refine X_iload_n dX12_driving_20 rfl rfl ?_
    refine X_iload_n dX12_driving_21 rfl rfl ?_
    refine X_iconst (v := 1) dX12_driving_22 iconst_1 ?_
    refine X_iadd dX12_driving_23 ?_
    refine X_callVi [.int a0, .int (b0 + (1 : Int32))] [] c_X12_buddDrives v_X12_buddDrives lk_X12_441 dX12_driving_24 g_60 rfl rfl rfl (by decide) (Nat.le_of_ble_eq_true rfl) rfl (s_X12_buddDrives sx a0 (b0 + (1 : Int32))  σ12 _ h) (fun r14 σ13 h => ?_)
    exact X_reti rfl dX12_driving_27 h
def w_X12_plainTells (a0 : Int32) (b0 : Int32) (σ : Sg) (Q : Int32 → Sg → Prop) : Prop := w_X12_ran (2 : Int32) σ (fun  σ1 => w_X12_driving a0 b0 σ1 (fun r3 σ2 => w_X12_weeping a0 (1 : Int32) σ2 (fun r5 σ4 => Q (r3 - r5) σ4)))
set_option maxRecDepth 100000 in
set_option maxHeartbeats 4000000 in
theorem s_X12_plainTells (sx : Nat × (Nat → Int32)) (a0 : Int32) (b0 : Int32) (σ : Sg) (Q : Int32 → Sg → Prop) (h : w_X12_plainTells a0 b0 σ Q) : Ct mX12_plainTells 7 false (0, 0) sx G0 [.ref 60, .int a0, .int b0] σ (qI Q) := by
  refine Ct.of (L := [some (.ref 60), some (.int a0), some (.int b0), none]) (by decide) (Nat.le_of_ble_eq_true rfl) rfl ?_
  unfold w_X12_plainTells at h
  refine X_aload_n dX12_plainTells_0 rfl rfl ?_
  refine X_iconst (v := 2) dX12_plainTells_1 iconst_2 ?_
  refine X_callVv [.int (2 : Int32)] [] c_X12_ran v_X12_ran lk_X12_423 dX12_plainTells_2 g_60 rfl rfl rfl (by decide) (Nat.le_of_ble_eq_true rfl) rfl (s_X12_ran sx (2 : Int32)  σ _ h) (fun  σ1 h => ?_)
  refine X_aload_n dX12_plainTells_5 rfl rfl ?_
  refine X_iload_n dX12_plainTells_6 rfl rfl ?_
  refine X_iload_n dX12_plainTells_7 rfl rfl ?_
  refine X_callVi [.int a0, .int b0] [] c_X12_driving v_X12_driving lk_X12_453 dX12_plainTells_8 g_60 rfl rfl rfl (by decide) (Nat.le_of_ble_eq_true rfl) rfl (s_X12_driving sx a0 b0  σ1 _ h) (fun r3 σ2 h => ?_)
  refine X_istore_n (L' := [some (.ref 60), some (.int a0), some (.int b0), some (.int r3)]) dX12_plainTells_11 rfl (by decide) rfl ?_
  refine X_iload_n dX12_plainTells_12 rfl rfl ?_
  refine X_aload_n dX12_plainTells_13 rfl rfl ?_
  refine X_iload_n dX12_plainTells_14 rfl rfl ?_
  refine X_iconst (v := 1) dX12_plainTells_15 iconst_1 ?_
  refine X_callVi [.int a0, .int (1 : Int32)] [.int r3] c_X12_weeping v_X12_weeping lk_X12_444 dX12_plainTells_16 g_60 rfl rfl rfl (by decide) (Nat.le_of_ble_eq_true rfl) rfl (s_X12_weeping sx a0 (1 : Int32)  σ2 _ h) (fun r5 σ4 h => ?_)
  refine X_isub dX12_plainTells_19 ?_
  exact X_reti rfl dX12_plainTells_20 h
def w_X12_telling (a0 : Int32) (b0 : Int32) (σ : Sg) (Q : Int32 → Sg → Prop) : Prop := vp_in a0 50 ∧ if (σ.1 89 (Int32.toNatClampNeg a0)) = (4 : Int32) then (w_X12_ran (50 : Int32) σ (fun  σ6 => w_X12_plainTells a0 b0 σ6 (fun r8 σ7 => Q (r8 ^^^ (5 : Int32)) σ7))) else (vp_in a0 50 ∧ if (σ.1 89 (Int32.toNatClampNeg a0)) = (5 : Int32) then (w_X12_ran (61 : Int32) σ (fun  σ3 => w_X12_plainTells a0 b0 σ3 (fun r5 σ4 => Q (r5 + (1 : Int32)) σ4))) else (w_X12_plainTells a0 b0 σ (fun r2 σ1 => Q r2 σ1)))
set_option maxRecDepth 100000 in
set_option maxHeartbeats 4000000 in
theorem s_X12_telling (sx : Nat × (Nat → Int32)) (a0 : Int32) (b0 : Int32) (σ : Sg) (Q : Int32 → Sg → Prop) (h : w_X12_telling a0 b0 σ Q) : Ct mX12_telling 8 false (0, 0) sx G0 [.ref 60, .int a0, .int b0] σ (qI Q) := by
  refine Ct.of (L := [some (.ref 60), some (.int a0), some (.int b0)]) (by decide) (Nat.le_of_ble_eq_true rfl) rfl ?_
  unfold w_X12_telling at h
  refine X_aload_n dX12_telling_0 rfl rfl ?_
  refine X_get (v := .ref 89) ck_X12 f_X12_98 g_60 rfl (fun _ => rfl) dX12_telling_1 ?_
  refine X_iload_n dX12_telling_4 rfl rfl ?_
  refine X_iald g_89 dX12_telling_5 h (fun h => ?_)
  refine X_iconst (v := 4) dX12_telling_6 iconst_4 ?_
  refine X_icmp_ne (tgt := 25) dX12_telling_7 (by decide) h (fun h => ?_) (fun h => ?_)
  · refine X_aload_n dX12_telling_25 rfl rfl ?_
    refine X_get (v := .ref 89) ck_X12 f_X12_98 g_60 rfl (fun _ => rfl) dX12_telling_26 ?_
    refine X_iload_n dX12_telling_29 rfl rfl ?_
    refine X_iald g_89 dX12_telling_30 h (fun h => ?_)
    refine X_iconst (v := 5) dX12_telling_31 iconst_5 ?_
    refine X_icmp_ne (tgt := 50) dX12_telling_32 (by decide) h (fun h => ?_) (fun h => ?_)
    · refine X_aload_n dX12_telling_50 rfl rfl ?_
      refine X_iload_n dX12_telling_51 rfl rfl ?_
      refine X_iload_n dX12_telling_52 rfl rfl ?_
      refine X_callVi [.int a0, .int b0] [] c_X12_plainTells v_X12_plainTells lk_X12_456 dX12_telling_53 g_60 rfl rfl rfl (by decide) (Nat.le_of_ble_eq_true rfl) rfl (s_X12_plainTells sx a0 b0  σ _ h) (fun r2 σ1 h => ?_)
      exact X_reti rfl dX12_telling_56 h
    · refine X_aload_n dX12_telling_35 rfl rfl ?_
      refine X_bipush (v := 61) dX12_telling_36 bipush_61 ?_
      refine X_callVv [.int (61 : Int32)] [] c_X12_ran v_X12_ran lk_X12_423 dX12_telling_38 g_60 rfl rfl rfl (by decide) (Nat.le_of_ble_eq_true rfl) rfl (s_X12_ran sx (61 : Int32)  σ _ h) (fun  σ3 h => ?_)
      refine X_aload_n dX12_telling_41 rfl rfl ?_
      refine X_iload_n dX12_telling_42 rfl rfl ?_
      refine X_iload_n dX12_telling_43 rfl rfl ?_
      refine X_callVi [.int a0, .int b0] [] c_X12_plainTells v_X12_plainTells lk_X12_456 dX12_telling_44 g_60 rfl rfl rfl (by decide) (Nat.le_of_ble_eq_true rfl) rfl (s_X12_plainTells sx a0 b0  σ3 _ h) (fun r5 σ4 h => ?_)
      refine X_iconst (v := 1) dX12_telling_47 iconst_1 ?_
      refine X_iadd dX12_telling_48 ?_
      exact X_reti rfl dX12_telling_49 h
  · refine X_aload_n dX12_telling_10 rfl rfl ?_
    refine X_bipush (v := 50) dX12_telling_11 bipush_50 ?_
    refine X_callVv [.int (50 : Int32)] [] c_X12_ran v_X12_ran lk_X12_423 dX12_telling_13 g_60 rfl rfl rfl (by decide) (Nat.le_of_ble_eq_true rfl) rfl (s_X12_ran sx (50 : Int32)  σ _ h) (fun  σ6 h => ?_)
    refine X_aload_n dX12_telling_16 rfl rfl ?_
    refine X_iload_n dX12_telling_17 rfl rfl ?_
    refine X_iload_n dX12_telling_18 rfl rfl ?_
    refine X_callVi [.int a0, .int b0] [] c_X12_plainTells v_X12_plainTells lk_X12_456 dX12_telling_19 g_60 rfl rfl rfl (by decide) (Nat.le_of_ble_eq_true rfl) rfl (s_X12_plainTells sx a0 b0  σ6 _ h) (fun r8 σ7 h => ?_)
    refine X_iconst (v := 5) dX12_telling_22 iconst_5 ?_
    refine X_ixor dX12_telling_23 ?_
    exact X_reti rfl dX12_telling_24 h
def w_X12_act (a0 : Int32) (b0 : Int32) (c0 : Int32) (σ : Sg) (Q : Int32 → Sg → Prop) : Prop := bd (sI σ 60 49 (0 : Int32)) fun σ1 => w_X12_isBody a0 σ1 (fun r3 σ2 => if r3 = 0 then (Q (0 : Int32) σ2) else (w_X12_in b0 (0 : Int32) (3 : Int32) σ2 (fun r5 σ4 => if r5 = 0 then (Q (0 : Int32) σ4) else (if b0 = 0 then (w_X12_facing a0 c0 σ4 (fun r13 σ12 => Q r13 σ12)) else (if b0 = (1 : Int32) then (w_X12_driving a0 c0 σ4 (fun r11 σ10 => Q r11 σ10)) else (if b0 = (2 : Int32) then (w_X12_weeping a0 c0 σ4 (fun r9 σ8 => Q r9 σ8)) else (w_X12_telling a0 c0 σ4 (fun r7 σ6 => Q r7 σ6))))))))
set_option maxRecDepth 100000 in
set_option maxHeartbeats 4000000 in
theorem s_X12_act (sx : Nat × (Nat → Int32)) (a0 : Int32) (b0 : Int32) (c0 : Int32) (σ : Sg) (Q : Int32 → Sg → Prop) (h : w_X12_act a0 b0 c0 σ Q) : Ct mX12_act 9 false (0, 0) sx G0 [.ref 60, .int a0, .int b0, .int c0] σ (qI Q) := by
  refine Ct.of (L := [some (.ref 60), some (.int a0), some (.int b0), some (.int c0)]) (by decide) (Nat.le_of_ble_eq_true rfl) rfl ?_
  unfold w_X12_act at h
  refine X_aload_n dX12_act_0 rfl rfl ?_
  refine X_iconst (v := 0) dX12_act_1 iconst_0 ?_
  refine X_putI ck_X12 f_X12_420 rfl g_60 rfl rfl rfl dX12_act_2 h (fun σ1 h => ?_)
  refine X_aload_n dX12_act_5 rfl rfl ?_
  refine X_iload_n dX12_act_6 rfl rfl ?_
  refine X_callVi [.int a0] [] c_X12_isBody v_X12_isBody lk_X12_459 dX12_act_7 g_60 rfl rfl rfl (by decide) (Nat.le_of_ble_eq_true rfl) rfl (s_X12_isBody sx a0  σ1 _ h) (fun r3 σ2 h => ?_)
  refine X_if_eq (tgt := 22) dX12_act_10 (by decide) h (fun h => ?_) (fun h => ?_)
  · refine X_iconst (v := 0) dX12_act_22 iconst_0 ?_
    exact X_reti rfl dX12_act_23 h
  · refine X_iload_n dX12_act_13 rfl rfl ?_
    refine X_iconst (v := 0) dX12_act_14 iconst_0 ?_
    refine X_iconst (v := 3) dX12_act_15 iconst_3 ?_
    refine X_callSi [.int b0, .int (0 : Int32), .int (3 : Int32)] [] c_X12_in t_X12_in lk_X12_128 dX12_act_16 rfl (by decide) (Nat.le_of_ble_eq_true rfl) rfl (s_X12_in sx b0 (0 : Int32) (3 : Int32)  σ2 _ h) (fun r5 σ4 h => ?_)
    refine X_if_ne (tgt := 24) dX12_act_19 (by decide) h (fun h => ?_) (fun h => ?_)
    · refine X_iload_n dX12_act_24 rfl rfl ?_
      refine X_if_ne (tgt := 37) dX12_act_25 (by decide) h (fun h => ?_) (fun h => ?_)
      · refine X_iload_n dX12_act_37 rfl rfl ?_
        refine X_iconst (v := 1) dX12_act_38 iconst_1 ?_
        refine X_icmp_ne (tgt := 51) dX12_act_39 (by decide) h (fun h => ?_) (fun h => ?_)
        · refine X_iload_n dX12_act_51 rfl rfl ?_
          refine X_iconst (v := 2) dX12_act_52 iconst_2 ?_
          refine X_icmp_ne (tgt := 65) dX12_act_53 (by decide) h (fun h => ?_) (fun h => ?_)
          · refine X_aload_n dX12_act_65 rfl rfl ?_
            refine X_iload_n dX12_act_66 rfl rfl ?_
            refine X_iload_n dX12_act_67 rfl rfl ?_
            refine X_callVi [.int a0, .int c0] [] c_X12_telling v_X12_telling lk_X12_462 dX12_act_68 g_60 rfl rfl rfl (by decide) (Nat.le_of_ble_eq_true rfl) rfl (s_X12_telling sx a0 c0  σ4 _ h) (fun r7 σ6 h => ?_)
            exact X_reti rfl dX12_act_71 h
          · refine X_aload_n dX12_act_56 rfl rfl ?_
            refine X_iload_n dX12_act_57 rfl rfl ?_
            refine X_iload_n dX12_act_58 rfl rfl ?_
            refine X_callVi [.int a0, .int c0] [] c_X12_weeping v_X12_weeping lk_X12_444 dX12_act_59 g_60 rfl rfl rfl (by decide) (Nat.le_of_ble_eq_true rfl) rfl (s_X12_weeping sx a0 c0  σ4 _ h) (fun r9 σ8 h => ?_)
            refine X_goto (tgt := 71) dX12_act_62 (by decide) ?_
            exact X_reti rfl dX12_act_71 h
        · refine X_aload_n dX12_act_42 rfl rfl ?_
          refine X_iload_n dX12_act_43 rfl rfl ?_
          refine X_iload_n dX12_act_44 rfl rfl ?_
          refine X_callVi [.int a0, .int c0] [] c_X12_driving v_X12_driving lk_X12_453 dX12_act_45 g_60 rfl rfl rfl (by decide) (Nat.le_of_ble_eq_true rfl) rfl (s_X12_driving sx a0 c0  σ4 _ h) (fun r11 σ10 h => ?_)
          refine X_goto (tgt := 71) dX12_act_48 (by decide) ?_
          exact X_reti rfl dX12_act_71 h
      · refine X_aload_n dX12_act_28 rfl rfl ?_
        refine X_iload_n dX12_act_29 rfl rfl ?_
        refine X_iload_n dX12_act_30 rfl rfl ?_
        refine X_callVi [.int a0, .int c0] [] c_X12_facing v_X12_facing lk_X12_435 dX12_act_31 g_60 rfl rfl rfl (by decide) (Nat.le_of_ble_eq_true rfl) rfl (s_X12_facing sx a0 c0  σ4 _ h) (fun r13 σ12 h => ?_)
        refine X_goto (tgt := 71) dX12_act_34 (by decide) ?_
        exact X_reti rfl dX12_act_71 h
    · refine X_iconst (v := 0) dX12_act_22 iconst_0 ?_
      exact X_reti rfl dX12_act_23 h
def w_X12_count (a0 : Int32) (σ : Sg) (Q : Int32 → Sg → Prop) : Prop := if a0 = (0 : Int32) then (Q (σ.1 60 1) σ) else (if a0 = (1 : Int32) then (Q (σ.1 60 6) σ) else (if a0 = (2 : Int32) then (Q (σ.1 60 17) σ) else (if a0 = (3 : Int32) then (Q (σ.1 60 10) σ) else (if a0 = (4 : Int32) then (Q (σ.1 60 47) σ) else (if a0 = (5 : Int32) then (Q (σ.1 60 49) σ) else (Q (-1 : Int32) σ))))))
set_option maxRecDepth 100000 in
set_option maxHeartbeats 4000000 in
theorem s_X12_count (sx : Nat × (Nat → Int32)) (a0 : Int32) (σ : Sg) (Q : Int32 → Sg → Prop) (h : w_X12_count a0 σ Q) : Ct mX12_count 0 false (0, 0) sx G0 [.ref 60, .int a0] σ (qI Q) := by
  refine Ct.of (L := [some (.ref 60), some (.int a0)]) (by decide) (Nat.le_of_ble_eq_true rfl) rfl ?_
  unfold w_X12_count at h
  refine X_iload_n dX12_count_0 rfl rfl ?_
  by_cases hc1_0 : a0 = (0 : Int32)
  · replace h := if_t h hc1_0
    refine X_tableIn (tgt := 40) dX12_count_1 (by rw [hc1_0] <;> decide) (by rw [hc1_0] <;> decide) (by rw [hc1_0] <;> rfl) (by decide) ?_
    refine X_aload_n dX12_count_40 rfl rfl ?_
    refine X_get (v := .int (σ.1 60 1)) ck_X12 f_X12_125 g_60 rfl (fun _ => rfl) dX12_count_41 ?_
    exact X_reti rfl dX12_count_44 h
  replace h := if_f h hc1_0
  by_cases hc1_1 : a0 = (1 : Int32)
  · replace h := if_t h hc1_1
    refine X_tableIn (tgt := 45) dX12_count_1 (by rw [hc1_1] <;> decide) (by rw [hc1_1] <;> decide) (by rw [hc1_1] <;> rfl) (by decide) ?_
    refine X_aload_n dX12_count_45 rfl rfl ?_
    refine X_get (v := .int (σ.1 60 6)) ck_X12 f_X12_132 g_60 rfl (fun _ => rfl) dX12_count_46 ?_
    exact X_reti rfl dX12_count_49 h
  replace h := if_f h hc1_1
  by_cases hc1_2 : a0 = (2 : Int32)
  · replace h := if_t h hc1_2
    refine X_tableIn (tgt := 50) dX12_count_1 (by rw [hc1_2] <;> decide) (by rw [hc1_2] <;> decide) (by rw [hc1_2] <;> rfl) (by decide) ?_
    refine X_aload_n dX12_count_50 rfl rfl ?_
    refine X_get (v := .int (σ.1 60 17)) ck_X12 f_X12_178 g_60 rfl (fun _ => rfl) dX12_count_51 ?_
    exact X_reti rfl dX12_count_54 h
  replace h := if_f h hc1_2
  by_cases hc1_3 : a0 = (3 : Int32)
  · replace h := if_t h hc1_3
    refine X_tableIn (tgt := 55) dX12_count_1 (by rw [hc1_3] <;> decide) (by rw [hc1_3] <;> decide) (by rw [hc1_3] <;> rfl) (by decide) ?_
    refine X_aload_n dX12_count_55 rfl rfl ?_
    refine X_get (v := .int (σ.1 60 10)) ck_X12 f_X12_160 g_60 rfl (fun _ => rfl) dX12_count_56 ?_
    exact X_reti rfl dX12_count_59 h
  replace h := if_f h hc1_3
  by_cases hc1_4 : a0 = (4 : Int32)
  · replace h := if_t h hc1_4
    refine X_tableIn (tgt := 60) dX12_count_1 (by rw [hc1_4] <;> decide) (by rw [hc1_4] <;> decide) (by rw [hc1_4] <;> rfl) (by decide) ?_
    refine X_aload_n dX12_count_60 rfl rfl ?_
    refine X_get (v := .int (σ.1 60 47)) ck_X12 f_X12_417 g_60 rfl (fun _ => rfl) dX12_count_61 ?_
    exact X_reti rfl dX12_count_64 h
  replace h := if_f h hc1_4
  by_cases hc1_5 : a0 = (5 : Int32)
  · replace h := if_t h hc1_5
    refine X_tableIn (tgt := 65) dX12_count_1 (by rw [hc1_5] <;> decide) (by rw [hc1_5] <;> decide) (by rw [hc1_5] <;> rfl) (by decide) ?_
    refine X_aload_n dX12_count_65 rfl rfl ?_
    refine X_get (v := .int (σ.1 60 49)) ck_X12 f_X12_420 g_60 rfl (fun _ => rfl) dX12_count_66 ?_
    exact X_reti rfl dX12_count_69 h
  replace h := if_f h hc1_5
  refine X_tableOut (tgt := 70) dX12_count_1 (tbl_out (fun j h1 h2 e => ?_)) (by decide) ?_
  · rcases (show j = 0 ∨ j = 1 ∨ j = 2 ∨ j = 3 ∨ j = 4 ∨ j = 5 by omega) with rfl | rfl | rfl | rfl | rfl | rfl
    · exact ne_toInt hc1_0 e
    · exact ne_toInt hc1_1 e
    · exact ne_toInt hc1_2 e
    · exact ne_toInt hc1_3 e
    · exact ne_toInt hc1_4 e
    · exact ne_toInt hc1_5 e
  refine X_iconst (v := -1) dX12_count_70 iconst_m1 ?_
  exact X_reti rfl dX12_count_71 h
def w_X12_keep (a0 : Int32) (b0 : Int32) (σ : Sg) (Q : Int32 → Sg → Prop) : Prop := w_X12_isShelf a0 σ (fun r2 σ1 => if r2 = 0 then (Q (-1 : Int32) σ1) else (bd (fun (σ3 : Sg) => vp_in a0 6 ∧ bd (sI σ3 91 (Int32.toNatClampNeg a0) b0) fun σ4 => Q (1 : Int32) σ4) fun J22 => if b0 = (-1 : Int32) then (J22 σ1) else (w_X12_isBody b0 σ1 (fun r6 σ5 => if r6 = 0 then (Q (-1 : Int32) σ5) else (J22 σ5)))))
set_option maxRecDepth 100000 in
set_option maxHeartbeats 4000000 in
theorem s_X12_keep (sx : Nat × (Nat → Int32)) (a0 : Int32) (b0 : Int32) (σ : Sg) (Q : Int32 → Sg → Prop) (h : w_X12_keep a0 b0 σ Q) : Ct mX12_keep 2 false (0, 0) sx G0 [.ref 60, .int a0, .int b0] σ (qI Q) := by
  refine Ct.of (L := [some (.ref 60), some (.int a0), some (.int b0)]) (by decide) (Nat.le_of_ble_eq_true rfl) rfl ?_
  unfold w_X12_keep at h
  refine X_iload_n dX12_keep_0 rfl rfl ?_
  refine X_callSi [.int a0] [] c_X12_isShelf t_X12_isShelf lk_X12_149 dX12_keep_1 rfl (by decide) (Nat.le_of_ble_eq_true rfl) rfl (s_X12_isShelf sx a0  σ _ h) (fun r2 σ1 h => ?_)
  refine X_if_eq (tgt := 20) dX12_keep_4 (by decide) h (fun h => ?_) (fun h => ?_)
  · refine X_iconst (v := -1) dX12_keep_20 iconst_m1 ?_
    exact X_reti rfl dX12_keep_21 h
  · refine X_iload_n dX12_keep_7 rfl rfl ?_
    refine X_iconst (v := -1) dX12_keep_8 iconst_m1 ?_
    refine bd_j h (fun J22 e22 h => ?_)
    have j22 : ∀ (σ3 : Sg) , J22  σ3 → Ex mX12_keep 2 false (0, 0) sx G0 22 [some (.ref 60), some (.int a0), some (.int b0)] [] σ3 (qI Q) := by
      intro  σ3  h
      subst e22
      replace h := h
      refine X_aload_n dX12_keep_22 rfl rfl ?_
      refine X_get (v := .ref 91) ck_X12 f_X12_104 g_60 rfl (fun _ => rfl) dX12_keep_23 ?_
      refine X_iload_n dX12_keep_26 rfl rfl ?_
      refine X_iload_n dX12_keep_27 rfl rfl ?_
      refine X_iast g_91 dX12_keep_28 h (fun σ4 h => ?_)
      refine X_iconst (v := 1) dX12_keep_29 iconst_1 ?_
      exact X_reti rfl dX12_keep_30 h
    refine X_icmp_eq (tgt := 22) dX12_keep_9 (by decide) h (fun h => ?_) (fun h => ?_)
    · exact j22 _  h
    · refine X_aload_n dX12_keep_12 rfl rfl ?_
      refine X_iload_n dX12_keep_13 rfl rfl ?_
      refine X_callVi [.int b0] [] c_X12_isBody v_X12_isBody lk_X12_459 dX12_keep_14 g_60 rfl rfl rfl (by decide) (Nat.le_of_ble_eq_true rfl) rfl (s_X12_isBody sx b0  σ1 _ h) (fun r6 σ5 h => ?_)
      refine X_if_ne (tgt := 22) dX12_keep_17 (by decide) h (fun h => ?_) (fun h => ?_)
      · exact j22 _  h
      · refine X_iconst (v := -1) dX12_keep_20 iconst_m1 ?_
        exact X_reti rfl dX12_keep_21 h
def w_X12_row_l54 (a0 : Int32) (Q : Int32 → Sg → Prop) : Nat → Int32 → Sg → Prop
  | 0, _, _ => False
  | n54 + 1, x8, σ9 => if (((60 : Int32) * a0) + (60 : Int32)) ≤ x8 then (Q (1 : Int32) σ9) else (vp_in x8 360 ∧ bd (sJ σ9 93 (Int32.toNatClampNeg x8) (0 : Int64)) fun σ10 => w_X12_row_l54 a0 Q n54 (x8 + 1) σ10)
def w_X12_row (a0 : Int32) (b0 : Int32) (c0 : Int32) (σ : Sg) (Q : Int32 → Sg → Prop) : Prop := w_X12_isShelf a0 σ (fun r2 σ1 => if r2 = 0 then (Q (-1 : Int32) σ1) else (w_X12_in b0 (0 : Int32) (4 : Int32) σ1 (fun r4 σ3 => if r4 = 0 then (Q (-1 : Int32) σ3) else (if c0 ≤ (60 : Int32) then (if 0 ≤ c0 then (vp_in a0 6 ∧ bd (sI σ3 91 (Int32.toNatClampNeg a0) ((-2 : Int32) - b0)) fun σ5 => vp_in a0 6 ∧ bd (sI σ5 92 (Int32.toNatClampNeg a0) c0) fun σ6 => bd ((60 : Int32) * a0) fun x7 => ∃ n, w_X12_row_l54 a0 Q n x7 σ6) else (Q (-14 : Int32) σ3)) else (Q (-1 : Int32) σ3)))))
set_option maxRecDepth 100000 in
set_option maxHeartbeats 4000000 in
theorem s_X12_row (sx : Nat × (Nat → Int32)) (a0 : Int32) (b0 : Int32) (c0 : Int32) (σ : Sg) (Q : Int32 → Sg → Prop) (h : w_X12_row a0 b0 c0 σ Q) : Ct mX12_row 2 false (0, 0) sx G0 [.ref 60, .int a0, .int b0, .int c0] σ (qI Q) := by
  refine Ct.of (L := [some (.ref 60), some (.int a0), some (.int b0), some (.int c0), none]) (by decide) (Nat.le_of_ble_eq_true rfl) rfl ?_
  unfold w_X12_row at h
  refine X_iload_n dX12_row_0 rfl rfl ?_
  refine X_callSi [.int a0] [] c_X12_isShelf t_X12_isShelf lk_X12_149 dX12_row_1 rfl (by decide) (Nat.le_of_ble_eq_true rfl) rfl (s_X12_isShelf sx a0  σ _ h) (fun r2 σ1 h => ?_)
  refine X_if_eq (tgt := 22) dX12_row_4 (by decide) h (fun h => ?_) (fun h => ?_)
  · refine X_iconst (v := -1) dX12_row_22 iconst_m1 ?_
    exact X_reti rfl dX12_row_23 h
  · refine X_iload_n dX12_row_7 rfl rfl ?_
    refine X_iconst (v := 0) dX12_row_8 iconst_0 ?_
    refine X_iconst (v := 4) dX12_row_9 iconst_4 ?_
    refine X_callSi [.int b0, .int (0 : Int32), .int (4 : Int32)] [] c_X12_in t_X12_in lk_X12_128 dX12_row_10 rfl (by decide) (Nat.le_of_ble_eq_true rfl) rfl (s_X12_in sx b0 (0 : Int32) (4 : Int32)  σ1 _ h) (fun r4 σ3 h => ?_)
    refine X_if_eq (tgt := 22) dX12_row_13 (by decide) h (fun h => ?_) (fun h => ?_)
    · refine X_iconst (v := -1) dX12_row_22 iconst_m1 ?_
      exact X_reti rfl dX12_row_23 h
    · refine X_iload_n dX12_row_16 rfl rfl ?_
      refine X_bipush (v := 60) dX12_row_17 bipush_60 ?_
      refine X_icmp_le (tgt := 24) dX12_row_19 (by decide) h (fun h => ?_) (fun h => ?_)
      · refine X_iload_n dX12_row_24 rfl rfl ?_
        refine X_if_ge (tgt := 31) dX12_row_25 (by decide) h (fun h => ?_) (fun h => ?_)
        · refine X_aload_n dX12_row_31 rfl rfl ?_
          refine X_get (v := .ref 91) ck_X12 f_X12_104 g_60 rfl (fun _ => rfl) dX12_row_32 ?_
          refine X_iload_n dX12_row_35 rfl rfl ?_
          refine X_bipush (v := -2) dX12_row_36 bipush_m2 ?_
          refine X_iload_n dX12_row_38 rfl rfl ?_
          refine X_isub dX12_row_39 ?_
          refine X_iast g_91 dX12_row_40 h (fun σ5 h => ?_)
          refine X_aload_n dX12_row_41 rfl rfl ?_
          refine X_get (v := .ref 92) ck_X12 f_X12_107 g_60 rfl (fun _ => rfl) dX12_row_42 ?_
          refine X_iload_n dX12_row_45 rfl rfl ?_
          refine X_iload_n dX12_row_46 rfl rfl ?_
          refine X_iast g_92 dX12_row_47 h (fun σ6 h => ?_)
          refine X_bipush (v := 60) dX12_row_48 bipush_60 ?_
          refine X_iload_n dX12_row_50 rfl rfl ?_
          refine X_imul dX12_row_51 ?_
          refine X_topI h (fun x7 h => ?_)
          refine X_istore (L' := [some (.ref 60), some (.int a0), some (.int b0), some (.int c0), some (.int x7)]) dX12_row_52 (by decide) rfl ?_
          obtain ⟨n54, h⟩ := h
          have key54 : ∀ (n : Nat) (x8 : Int32) (σ9 : Sg) , w_X12_row_l54 a0 Q n x8 σ9 → Ex mX12_row 2 false (0, 0) sx G0 54 [some (.ref 60), some (.int a0), none, none, some (.int x8)] [] σ9 (qI Q) := by
            intro n54
            induction n54 with
            | zero => intro _ _  h; exact h.elim
            | succ n54 ih54 =>
              intro x8 σ9  h
              unfold w_X12_row_l54 at h
              refine X_iload dX12_row_54 rfl ?_
              refine X_bipush (v := 60) dX12_row_56 bipush_60 ?_
              refine X_iload_n dX12_row_58 rfl rfl ?_
              refine X_imul dX12_row_59 ?_
              refine X_bipush (v := 60) dX12_row_60 bipush_60 ?_
              refine X_iadd dX12_row_62 ?_
              refine X_icmp_ge (tgt := 80) dX12_row_63 (by decide) h (fun h => ?_) (fun h => ?_)
              · refine X_iconst (v := 1) dX12_row_80 iconst_1 ?_
                exact X_reti rfl dX12_row_81 h
              · refine X_aload_n dX12_row_66 rfl rfl ?_
                refine X_get (v := .ref 93) ck_X12 f_X12_110 g_60 rfl (fun _ => rfl) dX12_row_67 ?_
                refine X_iload dX12_row_70 rfl ?_
                refine X_lconst (v := 0) dX12_row_72 rfl ?_
                refine X_last g_93 dX12_row_73 h (fun σ10 h => ?_)
                refine X_iinc (v := (x8 + 1)) (L' := [some (.ref 60), some (.int a0), none, none, some (.int (x8 + 1))]) dX12_row_74 rfl rfl (by decide) rfl ?_
                refine X_goto (tgt := 54) dX12_row_77 (by decide) ?_
                exact ih54 _ _  h
          refine X_drop (L' := [some (.ref 60), some (.int a0), none, none, some (.int x7)]) ⟨rfl, ⟨rfl, ⟨rfl, trivial⟩⟩⟩ ?_
          exact key54 _ _ _  h
        · refine X_bipush (v := -14) dX12_row_28 bipush_m14 ?_
          exact X_reti rfl dX12_row_30 h
      · refine X_iconst (v := -1) dX12_row_22 iconst_m1 ?_
        exact X_reti rfl dX12_row_23 h
def w_X12_whyNoPlace (a0 : Int32) (b0 : Int32) (σ : Sg) (Q : Int32 → Sg → Prop) : Prop := w_X12_isShelf a0 σ (fun r2 σ1 => if r2 = 0 then (Q (-1 : Int32) σ1) else (vp_in a0 6 ∧ if (σ1.1 91 (Int32.toNatClampNeg a0)) = (-1 : Int32) then (Q (-11 : Int32) σ1) else (vp_in a0 6 ∧ if (σ1.1 91 (Int32.toNatClampNeg a0)) < 0 then (vp_in a0 6 ∧ w_X12_in b0 (0 : Int32) ((σ1.1 92 (Int32.toNatClampNeg a0)) - (1 : Int32)) σ1 (fun r4 σ3 => if r4 = 0 then (Q (-13 : Int32) σ3) else (Q (0 : Int32) σ3))) else (Q (-12 : Int32) σ1))))
set_option maxRecDepth 100000 in
set_option maxHeartbeats 4000000 in
theorem s_X12_whyNoPlace (sx : Nat × (Nat → Int32)) (a0 : Int32) (b0 : Int32) (σ : Sg) (Q : Int32 → Sg → Prop) (h : w_X12_whyNoPlace a0 b0 σ Q) : Ct mX12_whyNoPlace 2 false (0, 0) sx G0 [.ref 60, .int a0, .int b0] σ (qI Q) := by
  refine Ct.of (L := [some (.ref 60), some (.int a0), some (.int b0)]) (by decide) (Nat.le_of_ble_eq_true rfl) rfl ?_
  unfold w_X12_whyNoPlace at h
  refine X_iload_n dX12_whyNoPlace_0 rfl rfl ?_
  refine X_callSi [.int a0] [] c_X12_isShelf t_X12_isShelf lk_X12_149 dX12_whyNoPlace_1 rfl (by decide) (Nat.le_of_ble_eq_true rfl) rfl (s_X12_isShelf sx a0  σ _ h) (fun r2 σ1 h => ?_)
  refine X_if_ne (tgt := 9) dX12_whyNoPlace_4 (by decide) h (fun h => ?_) (fun h => ?_)
  · refine X_aload_n dX12_whyNoPlace_9 rfl rfl ?_
    refine X_get (v := .ref 91) ck_X12 f_X12_104 g_60 rfl (fun _ => rfl) dX12_whyNoPlace_10 ?_
    refine X_iload_n dX12_whyNoPlace_13 rfl rfl ?_
    refine X_iald g_91 dX12_whyNoPlace_14 h (fun h => ?_)
    refine X_iconst (v := -1) dX12_whyNoPlace_15 iconst_m1 ?_
    refine X_icmp_ne (tgt := 22) dX12_whyNoPlace_16 (by decide) h (fun h => ?_) (fun h => ?_)
    · refine X_aload_n dX12_whyNoPlace_22 rfl rfl ?_
      refine X_get (v := .ref 91) ck_X12 f_X12_104 g_60 rfl (fun _ => rfl) dX12_whyNoPlace_23 ?_
      refine X_iload_n dX12_whyNoPlace_26 rfl rfl ?_
      refine X_iald g_91 dX12_whyNoPlace_27 h (fun h => ?_)
      refine X_if_lt (tgt := 34) dX12_whyNoPlace_28 (by decide) h (fun h => ?_) (fun h => ?_)
      · refine X_iload_n dX12_whyNoPlace_34 rfl rfl ?_
        refine X_iconst (v := 0) dX12_whyNoPlace_35 iconst_0 ?_
        refine X_aload_n dX12_whyNoPlace_36 rfl rfl ?_
        refine X_get (v := .ref 92) ck_X12 f_X12_107 g_60 rfl (fun _ => rfl) dX12_whyNoPlace_37 ?_
        refine X_iload_n dX12_whyNoPlace_40 rfl rfl ?_
        refine X_iald g_92 dX12_whyNoPlace_41 h (fun h => ?_)
        refine X_iconst (v := 1) dX12_whyNoPlace_42 iconst_1 ?_
        refine X_isub dX12_whyNoPlace_43 ?_
        refine X_callSi [.int b0, .int (0 : Int32), .int ((σ1.1 92 (Int32.toNatClampNeg a0)) - (1 : Int32))] [] c_X12_in t_X12_in lk_X12_128 dX12_whyNoPlace_44 rfl (by decide) (Nat.le_of_ble_eq_true rfl) rfl (s_X12_in sx b0 (0 : Int32) ((σ1.1 92 (Int32.toNatClampNeg a0)) - (1 : Int32))  σ1 _ h) (fun r4 σ3 h => ?_)
        refine X_if_eq (tgt := 54) dX12_whyNoPlace_47 (by decide) h (fun h => ?_) (fun h => ?_)
        · refine X_bipush (v := -13) dX12_whyNoPlace_54 bipush_m13 ?_
          exact X_reti rfl dX12_whyNoPlace_56 h
        · refine X_iconst (v := 0) dX12_whyNoPlace_50 iconst_0 ?_
          refine X_goto (tgt := 56) dX12_whyNoPlace_51 (by decide) ?_
          exact X_reti rfl dX12_whyNoPlace_56 h
      · refine X_bipush (v := -12) dX12_whyNoPlace_31 bipush_m12 ?_
        exact X_reti rfl dX12_whyNoPlace_33 h
    · refine X_bipush (v := -11) dX12_whyNoPlace_19 bipush_m11 ?_
      exact X_reti rfl dX12_whyNoPlace_21 h
  · refine X_iconst (v := -1) dX12_whyNoPlace_7 iconst_m1 ?_
    exact X_reti rfl dX12_whyNoPlace_8 h
def w_X12_put (a0 : Int32) (b0 : Int32) (c0 : Int64) (σ : Sg) (Q : Int32 → Sg → Prop) : Prop := w_X12_whyNoPlace a0 b0 σ (fun r2 σ1 => if 0 ≤ r2 then (vp_in a0 6 ∧ bd ((-2 : Int32) - (σ1.1 91 (Int32.toNatClampNeg a0))) fun x3 => if x3 = 0 then (vp_in (((60 : Int32) * a0) + b0) 360 ∧ bd (sJ σ1 93 (Int32.toNatClampNeg (((60 : Int32) * a0) + b0)) (Int32.toInt64 (Int8.toInt32 (Int32.toInt8 (Int64.toInt32 c0))))) fun σ9 => Q (1 : Int32) σ9) else (if x3 = (1 : Int32) then (vp_in (((60 : Int32) * a0) + b0) 360 ∧ bd (sJ σ1 93 (Int32.toNatClampNeg (((60 : Int32) * a0) + b0)) (Int32.toInt64 (Int16.toInt32 (Int32.toInt16 (Int64.toInt32 c0))))) fun σ8 => Q (1 : Int32) σ8) else (if x3 = (2 : Int32) then (vp_in (((60 : Int32) * a0) + b0) 360 ∧ bd (sJ σ1 93 (Int32.toNatClampNeg (((60 : Int32) * a0) + b0)) (Int32.toInt64 (Int64.toInt32 c0))) fun σ7 => Q (1 : Int32) σ7) else (if x3 = (3 : Int32) then (vp_in (((60 : Int32) * a0) + b0) 360 ∧ bd (sJ σ1 93 (Int32.toNatClampNeg (((60 : Int32) * a0) + b0)) c0) fun σ6 => Q (1 : Int32) σ6) else (if (lg_cmp c0 (0 : Int64)) = 0 then (vp_in (((60 : Int32) * a0) + b0) 360 ∧ bd (sJ σ1 93 (Int32.toNatClampNeg (((60 : Int32) * a0) + b0)) (0 : Int64)) fun σ4 => Q (1 : Int32) σ4) else (vp_in (((60 : Int32) * a0) + b0) 360 ∧ bd (sJ σ1 93 (Int32.toNatClampNeg (((60 : Int32) * a0) + b0)) (1 : Int64)) fun σ5 => Q (1 : Int32) σ5)))))) else (Q r2 σ1))
set_option maxRecDepth 100000 in
set_option maxHeartbeats 4000000 in
theorem s_X12_put (sx : Nat × (Nat → Int32)) (a0 : Int32) (b0 : Int32) (c0 : Int64) (σ : Sg) (Q : Int32 → Sg → Prop) (h : w_X12_put a0 b0 c0 σ Q) : Ct mX12_put 3 false (0, 0) sx G0 [.ref 60, .int a0, .int b0, .long c0] σ (qI Q) := by
  refine Ct.of (L := [some (.ref 60), some (.int a0), some (.int b0), some (.long c0), none, none, none]) (by decide) (Nat.le_of_ble_eq_true rfl) rfl ?_
  unfold w_X12_put at h
  refine X_aload_n dX12_put_0 rfl rfl ?_
  refine X_iload_n dX12_put_1 rfl rfl ?_
  refine X_iload_n dX12_put_2 rfl rfl ?_
  refine X_callVi [.int a0, .int b0] [] c_X12_whyNoPlace v_X12_whyNoPlace lk_X12_465 dX12_put_3 g_60 rfl rfl rfl (by decide) (Nat.le_of_ble_eq_true rfl) rfl (s_X12_whyNoPlace sx a0 b0  σ _ h) (fun r2 σ1 h => ?_)
  refine X_istore (L' := [some (.ref 60), some (.int a0), some (.int b0), some (.long c0), none, some (.int r2), none]) dX12_put_6 (by decide) rfl ?_
  refine X_iload dX12_put_8 rfl ?_
  refine X_if_ge (tgt := 16) dX12_put_10 (by decide) h (fun h => ?_) (fun h => ?_)
  · refine X_bipush (v := -2) dX12_put_16 bipush_m2 ?_
    refine X_aload_n dX12_put_18 rfl rfl ?_
    refine X_get (v := .ref 91) ck_X12 f_X12_104 g_60 rfl (fun _ => rfl) dX12_put_19 ?_
    refine X_iload_n dX12_put_22 rfl rfl ?_
    refine X_iald g_91 dX12_put_23 h (fun h => ?_)
    refine X_isub dX12_put_24 ?_
    refine X_topI h (fun x3 h => ?_)
    refine X_istore (L' := [some (.ref 60), some (.int a0), some (.int b0), some (.long c0), none, some (.int r2), some (.int x3)]) dX12_put_25 (by decide) rfl ?_
    refine X_aload_n dX12_put_27 rfl rfl ?_
    refine X_get (v := .ref 93) ck_X12 f_X12_110 g_60 rfl (fun _ => rfl) dX12_put_28 ?_
    refine X_bipush (v := 60) dX12_put_31 bipush_60 ?_
    refine X_iload_n dX12_put_33 rfl rfl ?_
    refine X_imul dX12_put_34 ?_
    refine X_iload_n dX12_put_35 rfl rfl ?_
    refine X_iadd dX12_put_36 ?_
    refine X_iload dX12_put_37 rfl ?_
    refine X_if_ne (tgt := 49) dX12_put_39 (by decide) h (fun h => ?_) (fun h => ?_)
    · refine X_iload dX12_put_49 rfl ?_
      refine X_iconst (v := 1) dX12_put_51 iconst_1 ?_
      refine X_icmp_ne (tgt := 62) dX12_put_52 (by decide) h (fun h => ?_) (fun h => ?_)
      · refine X_iload dX12_put_62 rfl ?_
        refine X_iconst (v := 2) dX12_put_64 iconst_2 ?_
        refine X_icmp_ne (tgt := 74) dX12_put_65 (by decide) h (fun h => ?_) (fun h => ?_)
        · refine X_iload dX12_put_74 rfl ?_
          refine X_iconst (v := 3) dX12_put_76 iconst_3 ?_
          refine X_icmp_ne (tgt := 84) dX12_put_77 (by decide) h (fun h => ?_) (fun h => ?_)
          · refine X_lload_n dX12_put_84 rfl rfl ?_
            refine X_lconst (v := 0) dX12_put_85 rfl ?_
            refine X_lcmp dX12_put_86 ?_
            refine X_if_eq (tgt := 94) dX12_put_87 (by decide) h (fun h => ?_) (fun h => ?_)
            · refine X_lconst (v := 0) dX12_put_94 rfl ?_
              refine X_last g_93 dX12_put_95 h (fun σ4 h => ?_)
              refine X_iconst (v := 1) dX12_put_96 iconst_1 ?_
              exact X_reti rfl dX12_put_97 h
            · refine X_lconst (v := 1) dX12_put_90 rfl ?_
              refine X_goto (tgt := 95) dX12_put_91 (by decide) ?_
              refine X_last g_93 dX12_put_95 h (fun σ5 h => ?_)
              refine X_iconst (v := 1) dX12_put_96 iconst_1 ?_
              exact X_reti rfl dX12_put_97 h
          · refine X_lload_n dX12_put_80 rfl rfl ?_
            refine X_goto (tgt := 95) dX12_put_81 (by decide) ?_
            refine X_last g_93 dX12_put_95 h (fun σ6 h => ?_)
            refine X_iconst (v := 1) dX12_put_96 iconst_1 ?_
            exact X_reti rfl dX12_put_97 h
        · refine X_lload_n dX12_put_68 rfl rfl ?_
          refine X_l2i dX12_put_69 ?_
          refine X_i2l dX12_put_70 ?_
          refine X_goto (tgt := 95) dX12_put_71 (by decide) ?_
          refine X_last g_93 dX12_put_95 h (fun σ7 h => ?_)
          refine X_iconst (v := 1) dX12_put_96 iconst_1 ?_
          exact X_reti rfl dX12_put_97 h
      · refine X_lload_n dX12_put_55 rfl rfl ?_
        refine X_l2i dX12_put_56 ?_
        refine X_i2s dX12_put_57 ?_
        refine X_i2l dX12_put_58 ?_
        refine X_goto (tgt := 95) dX12_put_59 (by decide) ?_
        refine X_last g_93 dX12_put_95 h (fun σ8 h => ?_)
        refine X_iconst (v := 1) dX12_put_96 iconst_1 ?_
        exact X_reti rfl dX12_put_97 h
    · refine X_lload_n dX12_put_42 rfl rfl ?_
      refine X_l2i dX12_put_43 ?_
      refine X_i2b dX12_put_44 ?_
      refine X_i2l dX12_put_45 ?_
      refine X_goto (tgt := 95) dX12_put_46 (by decide) ?_
      refine X_last g_93 dX12_put_95 h (fun σ9 h => ?_)
      refine X_iconst (v := 1) dX12_put_96 iconst_1 ?_
      exact X_reti rfl dX12_put_97 h
  · refine X_iload dX12_put_13 rfl ?_
    exact X_reti rfl dX12_put_15 h
def w_X12_element (a0 : Int32) (b0 : Int32) (σ : Sg) (Q : Int64 → Sg → Prop) : Prop := w_X12_whyNoPlace a0 b0 σ (fun r2 σ1 => if 0 ≤ r2 then (vp_in (((60 : Int32) * a0) + b0) 360 ∧ Q (σ1.2 93 (Int32.toNatClampNeg (((60 : Int32) * a0) + b0))) σ1) else (Q (-9223372036854775808 : Int64) σ1))
set_option maxRecDepth 100000 in
set_option maxHeartbeats 4000000 in
theorem s_X12_element (sx : Nat × (Nat → Int32)) (a0 : Int32) (b0 : Int32) (σ : Sg) (Q : Int64 → Sg → Prop) (h : w_X12_element a0 b0 σ Q) : Ct mX12_element 3 false (0, 0) sx G0 [.ref 60, .int a0, .int b0] σ (qJ Q) := by
  refine Ct.of (L := [some (.ref 60), some (.int a0), some (.int b0)]) (by decide) (Nat.le_of_ble_eq_true rfl) rfl ?_
  unfold w_X12_element at h
  refine X_aload_n dX12_element_0 rfl rfl ?_
  refine X_iload_n dX12_element_1 rfl rfl ?_
  refine X_iload_n dX12_element_2 rfl rfl ?_
  refine X_callVi [.int a0, .int b0] [] c_X12_whyNoPlace v_X12_whyNoPlace lk_X12_465 dX12_element_3 g_60 rfl rfl rfl (by decide) (Nat.le_of_ble_eq_true rfl) rfl (s_X12_whyNoPlace sx a0 b0  σ _ h) (fun r2 σ1 h => ?_)
  refine X_if_ge (tgt := 15) dX12_element_6 (by decide) h (fun h => ?_) (fun h => ?_)
  · refine X_aload_n dX12_element_15 rfl rfl ?_
    refine X_get (v := .ref 93) ck_X12 f_X12_110 g_60 rfl (fun _ => rfl) dX12_element_16 ?_
    refine X_bipush (v := 60) dX12_element_19 bipush_60 ?_
    refine X_iload_n dX12_element_21 rfl rfl ?_
    refine X_imul dX12_element_22 ?_
    refine X_iload_n dX12_element_23 rfl rfl ?_
    refine X_iadd dX12_element_24 ?_
    refine X_lald g_93 dX12_element_25 h (fun h => ?_)
    exact X_retl rfl dX12_element_26 h
  · refine X_ldc2 (v := -9223372036854775808) dX12_element_9 k_X12_384 ?_
    refine X_goto (tgt := 26) dX12_element_12 (by decide) ?_
    exact X_retl rfl dX12_element_26 h
def w_X12_shift_l150 (c0 : Int32) (d0 : Int32) (e0 : Int32) (Q : Int32 → Sg → Prop) : Nat → Int32 → Sg → Prop
  | 0, _, _ => False
  | n150 + 1, x6, σ7 => if e0 ≤ x6 then (Q e0 σ7) else (vp_in x6 60 ∧ vp_in ((((60 : Int32) * c0) + d0) + x6) 360 ∧ bd (sJ σ7 93 (Int32.toNatClampNeg ((((60 : Int32) * c0) + d0) + x6)) (σ7.2 94 (Int32.toNatClampNeg x6))) fun σ8 => w_X12_shift_l150 c0 d0 e0 Q n150 (x6 + 1) σ8)
def w_X12_shift_l113 (a0 : Int32) (b0 : Int32) (e0 : Int32) (J147 : Sg → Prop) : Nat → Int32 → Sg → Prop
  | 0, _, _ => False
  | n113 + 1, x9, σ10 => if e0 ≤ x9 then (J147 σ10) else (vp_in ((((60 : Int32) * a0) + b0) + x9) 360 ∧ vp_in x9 60 ∧ bd (sJ σ10 94 (Int32.toNatClampNeg x9) (σ10.2 93 (Int32.toNatClampNeg ((((60 : Int32) * a0) + b0) + x9)))) fun σ11 => w_X12_shift_l113 a0 b0 e0 J147 n113 (x9 + 1) σ11)
def w_X12_shift (a0 : Int32) (b0 : Int32) (c0 : Int32) (d0 : Int32) (e0 : Int32) (σ : Sg) (Q : Int32 → Sg → Prop) : Prop := w_X12_isShelf a0 σ (fun r2 σ1 => if r2 = 0 then (Q (-1 : Int32) σ1) else (w_X12_isShelf c0 σ1 (fun r4 σ3 => if r4 = 0 then (Q (-1 : Int32) σ3) else (vp_in a0 6 ∧ if (σ3.1 91 (Int32.toNatClampNeg a0)) = (-1 : Int32) then (Q (-11 : Int32) σ3) else (vp_in c0 6 ∧ if (σ3.1 91 (Int32.toNatClampNeg c0)) = (-1 : Int32) then (Q (-11 : Int32) σ3) else (vp_in a0 6 ∧ if 0 ≤ (σ3.1 91 (Int32.toNatClampNeg a0)) then (Q (-12 : Int32) σ3) else (vp_in a0 6 ∧ vp_in c0 6 ∧ if (σ3.1 91 (Int32.toNatClampNeg a0)) = (σ3.1 91 (Int32.toNatClampNeg c0)) then (if e0 < 0 then (Q (-13 : Int32) σ3) else (if b0 < 0 then (Q (-13 : Int32) σ3) else (if d0 < 0 then (Q (-13 : Int32) σ3) else (vp_in a0 6 ∧ if ((σ3.1 92 (Int32.toNatClampNeg a0)) - e0) < b0 then (Q (-13 : Int32) σ3) else (vp_in c0 6 ∧ if d0 ≤ ((σ3.1 92 (Int32.toNatClampNeg c0)) - e0) then (bd (fun (σ5 : Sg) => ∃ n, w_X12_shift_l150 c0 d0 e0 Q n (0 : Int32) σ5) fun J147 => ∃ n, w_X12_shift_l113 a0 b0 e0 J147 n (0 : Int32) σ3) else (Q (-13 : Int32) σ3)))))) else (Q (-12 : Int32) σ3))))))))
set_option maxRecDepth 100000 in
set_option maxHeartbeats 4000000 in
theorem s_X12_shift (sx : Nat × (Nat → Int32)) (a0 : Int32) (b0 : Int32) (c0 : Int32) (d0 : Int32) (e0 : Int32) (σ : Sg) (Q : Int32 → Sg → Prop) (h : w_X12_shift a0 b0 c0 d0 e0 σ Q) : Ct mX12_shift 2 false (0, 0) sx G0 [.ref 60, .int a0, .int b0, .int c0, .int d0, .int e0] σ (qI Q) := by
  refine Ct.of (L := [some (.ref 60), some (.int a0), some (.int b0), some (.int c0), some (.int d0), some (.int e0), none]) (by decide) (Nat.le_of_ble_eq_true rfl) rfl ?_
  unfold w_X12_shift at h
  refine X_iload_n dX12_shift_0 rfl rfl ?_
  refine X_callSi [.int a0] [] c_X12_isShelf t_X12_isShelf lk_X12_149 dX12_shift_1 rfl (by decide) (Nat.le_of_ble_eq_true rfl) rfl (s_X12_isShelf sx a0  σ _ h) (fun r2 σ1 h => ?_)
  refine X_if_eq (tgt := 14) dX12_shift_4 (by decide) h (fun h => ?_) (fun h => ?_)
  · refine X_iconst (v := -1) dX12_shift_14 iconst_m1 ?_
    exact X_reti rfl dX12_shift_15 h
  · refine X_iload_n dX12_shift_7 rfl rfl ?_
    refine X_callSi [.int c0] [] c_X12_isShelf t_X12_isShelf lk_X12_149 dX12_shift_8 rfl (by decide) (Nat.le_of_ble_eq_true rfl) rfl (s_X12_isShelf sx c0  σ1 _ h) (fun r4 σ3 h => ?_)
    refine X_if_ne (tgt := 16) dX12_shift_11 (by decide) h (fun h => ?_) (fun h => ?_)
    · refine X_aload_n dX12_shift_16 rfl rfl ?_
      refine X_get (v := .ref 91) ck_X12 f_X12_104 g_60 rfl (fun _ => rfl) dX12_shift_17 ?_
      refine X_iload_n dX12_shift_20 rfl rfl ?_
      refine X_iald g_91 dX12_shift_21 h (fun h => ?_)
      refine X_iconst (v := -1) dX12_shift_22 iconst_m1 ?_
      refine X_icmp_eq (tgt := 36) dX12_shift_23 (by decide) h (fun h => ?_) (fun h => ?_)
      · refine X_bipush (v := -11) dX12_shift_36 bipush_m11 ?_
        exact X_reti rfl dX12_shift_38 h
      · refine X_aload_n dX12_shift_26 rfl rfl ?_
        refine X_get (v := .ref 91) ck_X12 f_X12_104 g_60 rfl (fun _ => rfl) dX12_shift_27 ?_
        refine X_iload_n dX12_shift_30 rfl rfl ?_
        refine X_iald g_91 dX12_shift_31 h (fun h => ?_)
        refine X_iconst (v := -1) dX12_shift_32 iconst_m1 ?_
        refine X_icmp_ne (tgt := 39) dX12_shift_33 (by decide) h (fun h => ?_) (fun h => ?_)
        · refine X_aload_n dX12_shift_39 rfl rfl ?_
          refine X_get (v := .ref 91) ck_X12 f_X12_104 g_60 rfl (fun _ => rfl) dX12_shift_40 ?_
          refine X_iload_n dX12_shift_43 rfl rfl ?_
          refine X_iald g_91 dX12_shift_44 h (fun h => ?_)
          refine X_if_ge (tgt := 63) dX12_shift_45 (by decide) h (fun h => ?_) (fun h => ?_)
          · refine X_bipush (v := -12) dX12_shift_63 bipush_m12 ?_
            exact X_reti rfl dX12_shift_65 h
          · refine X_aload_n dX12_shift_48 rfl rfl ?_
            refine X_get (v := .ref 91) ck_X12 f_X12_104 g_60 rfl (fun _ => rfl) dX12_shift_49 ?_
            refine X_iload_n dX12_shift_52 rfl rfl ?_
            refine X_iald g_91 dX12_shift_53 h (fun h => ?_)
            refine X_aload_n dX12_shift_54 rfl rfl ?_
            refine X_get (v := .ref 91) ck_X12 f_X12_104 g_60 rfl (fun _ => rfl) dX12_shift_55 ?_
            refine X_iload_n dX12_shift_58 rfl rfl ?_
            refine X_iald g_91 dX12_shift_59 h (fun h => ?_)
            refine X_icmp_eq (tgt := 66) dX12_shift_60 (by decide) h (fun h => ?_) (fun h => ?_)
            · refine X_iload dX12_shift_66 rfl ?_
              refine X_if_lt (tgt := 107) dX12_shift_68 (by decide) h (fun h => ?_) (fun h => ?_)
              · refine X_bipush (v := -13) dX12_shift_107 bipush_m13 ?_
                exact X_reti rfl dX12_shift_109 h
              · refine X_iload_n dX12_shift_71 rfl rfl ?_
                refine X_if_lt (tgt := 107) dX12_shift_72 (by decide) h (fun h => ?_) (fun h => ?_)
                · refine X_bipush (v := -13) dX12_shift_107 bipush_m13 ?_
                  exact X_reti rfl dX12_shift_109 h
                · refine X_iload dX12_shift_75 rfl ?_
                  refine X_if_lt (tgt := 107) dX12_shift_77 (by decide) h (fun h => ?_) (fun h => ?_)
                  · refine X_bipush (v := -13) dX12_shift_107 bipush_m13 ?_
                    exact X_reti rfl dX12_shift_109 h
                  · refine X_iload_n dX12_shift_80 rfl rfl ?_
                    refine X_aload_n dX12_shift_81 rfl rfl ?_
                    refine X_get (v := .ref 92) ck_X12 f_X12_107 g_60 rfl (fun _ => rfl) dX12_shift_82 ?_
                    refine X_iload_n dX12_shift_85 rfl rfl ?_
                    refine X_iald g_92 dX12_shift_86 h (fun h => ?_)
                    refine X_iload dX12_shift_87 rfl ?_
                    refine X_isub dX12_shift_89 ?_
                    refine X_icmp_gt (tgt := 107) dX12_shift_90 (by decide) h (fun h => ?_) (fun h => ?_)
                    · refine X_bipush (v := -13) dX12_shift_107 bipush_m13 ?_
                      exact X_reti rfl dX12_shift_109 h
                    · refine X_iload dX12_shift_93 rfl ?_
                      refine X_aload_n dX12_shift_95 rfl rfl ?_
                      refine X_get (v := .ref 92) ck_X12 f_X12_107 g_60 rfl (fun _ => rfl) dX12_shift_96 ?_
                      refine X_iload_n dX12_shift_99 rfl rfl ?_
                      refine X_iald g_92 dX12_shift_100 h (fun h => ?_)
                      refine X_iload dX12_shift_101 rfl ?_
                      refine X_isub dX12_shift_103 ?_
                      refine X_icmp_le (tgt := 110) dX12_shift_104 (by decide) h (fun h => ?_) (fun h => ?_)
                      · refine X_iconst (v := 0) dX12_shift_110 iconst_0 ?_
                        refine X_istore (L' := [some (.ref 60), some (.int a0), some (.int b0), some (.int c0), some (.int d0), some (.int e0), some (.int (0 : Int32))]) dX12_shift_111 (by decide) rfl ?_
                        refine bd_j h (fun J147 e147 h => ?_)
                        have j147 : ∀ (σ5 : Sg) , J147  σ5 → Ex mX12_shift 2 false (0, 0) sx G0 147 [some (.ref 60), none, none, some (.int c0), some (.int d0), some (.int e0), none] [] σ5 (qI Q) := by
                          intro  σ5  h
                          subst e147
                          replace h := h
                          refine X_iconst (v := 0) dX12_shift_147 iconst_0 ?_
                          refine X_istore (L' := [some (.ref 60), none, none, some (.int c0), some (.int d0), some (.int e0), some (.int (0 : Int32))]) dX12_shift_148 (by decide) rfl ?_
                          obtain ⟨n150, h⟩ := h
                          have key150 : ∀ (n : Nat) (x6 : Int32) (σ7 : Sg) , w_X12_shift_l150 c0 d0 e0 Q n x6 σ7 → Ex mX12_shift 2 false (0, 0) sx G0 150 [some (.ref 60), none, none, some (.int c0), some (.int d0), some (.int e0), some (.int x6)] [] σ7 (qI Q) := by
                            intro n150
                            induction n150 with
                            | zero => intro _ _  h; exact h.elim
                            | succ n150 ih150 =>
                              intro x6 σ7  h
                              unfold w_X12_shift_l150 at h
                              refine X_iload dX12_shift_150 rfl ?_
                              refine X_iload dX12_shift_152 rfl ?_
                              refine X_icmp_ge (tgt := 185) dX12_shift_154 (by decide) h (fun h => ?_) (fun h => ?_)
                              · refine X_iload dX12_shift_185 rfl ?_
                                exact X_reti rfl dX12_shift_187 h
                              · refine X_aload_n dX12_shift_157 rfl rfl ?_
                                refine X_get (v := .ref 93) ck_X12 f_X12_110 g_60 rfl (fun _ => rfl) dX12_shift_158 ?_
                                refine X_bipush (v := 60) dX12_shift_161 bipush_60 ?_
                                refine X_iload_n dX12_shift_163 rfl rfl ?_
                                refine X_imul dX12_shift_164 ?_
                                refine X_iload dX12_shift_165 rfl ?_
                                refine X_iadd dX12_shift_167 ?_
                                refine X_iload dX12_shift_168 rfl ?_
                                refine X_iadd dX12_shift_170 ?_
                                refine X_aload_n dX12_shift_171 rfl rfl ?_
                                refine X_get (v := .ref 94) ck_X12 f_X12_114 g_60 rfl (fun _ => rfl) dX12_shift_172 ?_
                                refine X_iload dX12_shift_175 rfl ?_
                                refine X_lald g_94 dX12_shift_177 h (fun h => ?_)
                                refine X_last g_93 dX12_shift_178 h (fun σ8 h => ?_)
                                refine X_iinc (v := (x6 + 1)) (L' := [some (.ref 60), none, none, some (.int c0), some (.int d0), some (.int e0), some (.int (x6 + 1))]) dX12_shift_179 rfl rfl (by decide) rfl ?_
                                refine X_goto (tgt := 150) dX12_shift_182 (by decide) ?_
                                exact ih150 _ _  h
                          exact key150 _ _ _  h
                        obtain ⟨n113, h⟩ := h
                        have key113 : ∀ (n : Nat) (x9 : Int32) (σ10 : Sg) , w_X12_shift_l113 a0 b0 e0 J147 n x9 σ10 → Ex mX12_shift 2 false (0, 0) sx G0 113 [some (.ref 60), some (.int a0), some (.int b0), some (.int c0), some (.int d0), some (.int e0), some (.int x9)] [] σ10 (qI Q) := by
                          intro n113
                          induction n113 with
                          | zero => intro _ _  h; exact h.elim
                          | succ n113 ih113 =>
                            intro x9 σ10  h
                            unfold w_X12_shift_l113 at h
                            refine X_iload dX12_shift_113 rfl ?_
                            refine X_iload dX12_shift_115 rfl ?_
                            refine X_icmp_ge (tgt := 147) dX12_shift_117 (by decide) h (fun h => ?_) (fun h => ?_)
                            · refine X_drop (L' := [some (.ref 60), none, none, some (.int c0), some (.int d0), some (.int e0), none]) ⟨rfl, ⟨rfl, ⟨rfl, ⟨rfl, trivial⟩⟩⟩⟩ ?_
                              exact j147 _  h
                            · refine X_aload_n dX12_shift_120 rfl rfl ?_
                              refine X_get (v := .ref 94) ck_X12 f_X12_114 g_60 rfl (fun _ => rfl) dX12_shift_121 ?_
                              refine X_iload dX12_shift_124 rfl ?_
                              refine X_aload_n dX12_shift_126 rfl rfl ?_
                              refine X_get (v := .ref 93) ck_X12 f_X12_110 g_60 rfl (fun _ => rfl) dX12_shift_127 ?_
                              refine X_bipush (v := 60) dX12_shift_130 bipush_60 ?_
                              refine X_iload_n dX12_shift_132 rfl rfl ?_
                              refine X_imul dX12_shift_133 ?_
                              refine X_iload_n dX12_shift_134 rfl rfl ?_
                              refine X_iadd dX12_shift_135 ?_
                              refine X_iload dX12_shift_136 rfl ?_
                              refine X_iadd dX12_shift_138 ?_
                              refine X_lald g_93 dX12_shift_139 h (fun h => ?_)
                              refine X_last g_94 dX12_shift_140 h (fun σ11 h => ?_)
                              refine X_iinc (v := (x9 + 1)) (L' := [some (.ref 60), some (.int a0), some (.int b0), some (.int c0), some (.int d0), some (.int e0), some (.int (x9 + 1))]) dX12_shift_141 rfl rfl (by decide) rfl ?_
                              refine X_goto (tgt := 113) dX12_shift_144 (by decide) ?_
                              exact ih113 _ _  h
                        exact key113 _ _ _  h
                      · refine X_bipush (v := -13) dX12_shift_107 bipush_m13 ?_
                        exact X_reti rfl dX12_shift_109 h
            · refine X_bipush (v := -12) dX12_shift_63 bipush_m12 ?_
              exact X_reti rfl dX12_shift_65 h
        · refine X_bipush (v := -11) dX12_shift_36 bipush_m11 ?_
          exact X_reti rfl dX12_shift_38 h
    · refine X_iconst (v := -1) dX12_shift_14 iconst_m1 ?_
      exact X_reti rfl dX12_shift_15 h
def w_X12_taken (a0 : Int32) (b0 : Int32) (σ : Sg) (Q : Int32 → Sg → Prop) : Prop := w_X12_isShelf a0 σ (fun r2 σ1 => if r2 = 0 then (Q (-1 : Int32) σ1) else (w_X12_in b0 (0 : Int32) (7 : Int32) σ1 (fun r4 σ3 => if r4 = 0 then (Q (-1 : Int32) σ3) else (vp_in a0 6 ∧ if (σ3.1 91 (Int32.toNatClampNeg a0)) = (-1 : Int32) then (Q (-11 : Int32) σ3) else (vp_in a0 6 ∧ if (σ3.1 91 (Int32.toNatClampNeg a0)) < 0 then (Q (-12 : Int32) σ3) else (vp_in a0 6 ∧ vp_in (σ3.1 91 (Int32.toNatClampNeg a0)) 50 ∧ w_X12_isUnder (σ3.1 89 (Int32.toNatClampNeg (σ3.1 91 (Int32.toNatClampNeg a0)))) b0 σ3 (fun r6 σ5 => if r6 = 0 then (Q (-12 : Int32) σ5) else (vp_in a0 6 ∧ vp_in (σ5.1 91 (Int32.toNatClampNeg a0)) 50 ∧ Q (σ5.1 89 (Int32.toNatClampNeg (σ5.1 91 (Int32.toNatClampNeg a0)))) σ5))))))))
set_option maxRecDepth 100000 in
set_option maxHeartbeats 4000000 in
theorem s_X12_taken (sx : Nat × (Nat → Int32)) (a0 : Int32) (b0 : Int32) (σ : Sg) (Q : Int32 → Sg → Prop) (h : w_X12_taken a0 b0 σ Q) : Ct mX12_taken 2 false (0, 0) sx G0 [.ref 60, .int a0, .int b0] σ (qI Q) := by
  refine Ct.of (L := [some (.ref 60), some (.int a0), some (.int b0)]) (by decide) (Nat.le_of_ble_eq_true rfl) rfl ?_
  unfold w_X12_taken at h
  refine X_iload_n dX12_taken_0 rfl rfl ?_
  refine X_callSi [.int a0] [] c_X12_isShelf t_X12_isShelf lk_X12_149 dX12_taken_1 rfl (by decide) (Nat.le_of_ble_eq_true rfl) rfl (s_X12_isShelf sx a0  σ _ h) (fun r2 σ1 h => ?_)
  refine X_if_eq (tgt := 17) dX12_taken_4 (by decide) h (fun h => ?_) (fun h => ?_)
  · refine X_iconst (v := -1) dX12_taken_17 iconst_m1 ?_
    exact X_reti rfl dX12_taken_18 h
  · refine X_iload_n dX12_taken_7 rfl rfl ?_
    refine X_iconst (v := 0) dX12_taken_8 iconst_0 ?_
    refine X_bipush (v := 7) dX12_taken_9 bipush_7 ?_
    refine X_callSi [.int b0, .int (0 : Int32), .int (7 : Int32)] [] c_X12_in t_X12_in lk_X12_128 dX12_taken_11 rfl (by decide) (Nat.le_of_ble_eq_true rfl) rfl (s_X12_in sx b0 (0 : Int32) (7 : Int32)  σ1 _ h) (fun r4 σ3 h => ?_)
    refine X_if_ne (tgt := 19) dX12_taken_14 (by decide) h (fun h => ?_) (fun h => ?_)
    · refine X_aload_n dX12_taken_19 rfl rfl ?_
      refine X_get (v := .ref 91) ck_X12 f_X12_104 g_60 rfl (fun _ => rfl) dX12_taken_20 ?_
      refine X_iload_n dX12_taken_23 rfl rfl ?_
      refine X_iald g_91 dX12_taken_24 h (fun h => ?_)
      refine X_iconst (v := -1) dX12_taken_25 iconst_m1 ?_
      refine X_icmp_ne (tgt := 32) dX12_taken_26 (by decide) h (fun h => ?_) (fun h => ?_)
      · refine X_aload_n dX12_taken_32 rfl rfl ?_
        refine X_get (v := .ref 91) ck_X12 f_X12_104 g_60 rfl (fun _ => rfl) dX12_taken_33 ?_
        refine X_iload_n dX12_taken_36 rfl rfl ?_
        refine X_iald g_91 dX12_taken_37 h (fun h => ?_)
        refine X_if_lt (tgt := 73) dX12_taken_38 (by decide) h (fun h => ?_) (fun h => ?_)
        · refine X_bipush (v := -12) dX12_taken_73 bipush_m12 ?_
          exact X_reti rfl dX12_taken_75 h
        · refine X_aload_n dX12_taken_41 rfl rfl ?_
          refine X_get (v := .ref 89) ck_X12 f_X12_98 g_60 rfl (fun _ => rfl) dX12_taken_42 ?_
          refine X_aload_n dX12_taken_45 rfl rfl ?_
          refine X_get (v := .ref 91) ck_X12 f_X12_104 g_60 rfl (fun _ => rfl) dX12_taken_46 ?_
          refine X_iload_n dX12_taken_49 rfl rfl ?_
          refine X_iald g_91 dX12_taken_50 h (fun h => ?_)
          refine X_iald g_89 dX12_taken_51 h (fun h => ?_)
          refine X_iload_n dX12_taken_52 rfl rfl ?_
          refine X_callSi [.int (σ3.1 89 (Int32.toNatClampNeg (σ3.1 91 (Int32.toNatClampNeg a0)))), .int b0] [] c_X12_isUnder t_X12_isUnder lk_X12_429 dX12_taken_53 rfl (by decide) (Nat.le_of_ble_eq_true rfl) rfl (s_X12_isUnder sx (σ3.1 89 (Int32.toNatClampNeg (σ3.1 91 (Int32.toNatClampNeg a0)))) b0  σ3 _ h) (fun r6 σ5 h => ?_)
          refine X_if_eq (tgt := 73) dX12_taken_56 (by decide) h (fun h => ?_) (fun h => ?_)
          · refine X_bipush (v := -12) dX12_taken_73 bipush_m12 ?_
            exact X_reti rfl dX12_taken_75 h
          · refine X_aload_n dX12_taken_59 rfl rfl ?_
            refine X_get (v := .ref 89) ck_X12 f_X12_98 g_60 rfl (fun _ => rfl) dX12_taken_60 ?_
            refine X_aload_n dX12_taken_63 rfl rfl ?_
            refine X_get (v := .ref 91) ck_X12 f_X12_104 g_60 rfl (fun _ => rfl) dX12_taken_64 ?_
            refine X_iload_n dX12_taken_67 rfl rfl ?_
            refine X_iald g_91 dX12_taken_68 h (fun h => ?_)
            refine X_iald g_89 dX12_taken_69 h (fun h => ?_)
            refine X_goto (tgt := 75) dX12_taken_70 (by decide) ?_
            exact X_reti rfl dX12_taken_75 h
      · refine X_bipush (v := -11) dX12_taken_29 bipush_m11 ?_
        exact X_reti rfl dX12_taken_31 h
    · refine X_iconst (v := -1) dX12_taken_17 iconst_m1 ?_
      exact X_reti rfl dX12_taken_18 h
