def w_X5_firstWrongNow (a0 : Nat) (b0 : Int32) (σ : Sg) (Q : Int32 → Sg → Prop) : Prop := vp_in b0 6 ∧ vp_in b0 6 ∧ w_X3_start (Int32.toNatClampNeg b0) (σ.1 4 (Int32.toNatClampNeg b0)) σ (fun  σ2 => vp_in b0 6 ∧ w_X3_standNow (Int32.toNatClampNeg b0) σ2 (fun r5 σ4 => w_X5_lastHour a0 σ4 (fun r7 σ6 => w_X6_followFrom b0 r5 r7 σ6 (fun  σ8 => w_X5_firstWrong a0 b0 σ8 (fun r10 σ9 => Q r10 σ9)))))
set_option maxRecDepth 100000 in
set_option maxHeartbeats 4000000 in
theorem s_X5_firstWrongNow (sx : Nat × (Nat → Int32)) (a0 : Nat) (b0 : Int32) (ha0 : a0 < 6) (σ : Sg) (Q : Int32 → Sg → Prop) (h : w_X5_firstWrongNow a0 b0 σ Q) : Ct mX5_firstWrongNow 6 false (0, 0) sx G0 [.ref 31, .ref (45 + 2 * a0), .int b0] σ (qI Q) := by
  refine Ct.of (L := [some (.ref 31), some (.ref (45 + 2 * a0)), some (.int b0)]) (by decide) (Nat.le_of_ble_eq_true rfl) rfl ?_
  unfold w_X5_firstWrongNow at h
  refine X_aload_n dX5_firstWrongNow_0 rfl rfl ?_
  refine X_get (v := .ref 15) ck_X5 f_X5_15 g_31 rfl (fun _ => rfl) dX5_firstWrongNow_1 ?_
  refine X_iload_n dX5_firstWrongNow_4 rfl rfl ?_
  have hk1 := vp_lt h.1
  refine X_aald g_15 (Or.inl rfl) dX5_firstWrongNow_5 h (fun q => g_coaches (vp_lt q)) (fun h => ?_)
  refine X_aload_n dX5_firstWrongNow_6 rfl rfl ?_
  refine X_get (v := .ref 1) ck_X5 f_X5_9 g_31 rfl (fun _ => rfl) dX5_firstWrongNow_7 ?_
  refine X_get (v := .ref 4) ck_X7 f_X5_23 g_1 rfl (fun _ => rfl) dX5_firstWrongNow_10 ?_
  refine X_iload_n dX5_firstWrongNow_13 rfl rfl ?_
  refine X_iald g_4 dX5_firstWrongNow_14 h (fun h => ?_)
  refine X_callVv [.int (σ.1 4 (Int32.toNatClampNeg b0))] [] c_X3_start v_X3_start lk_X5_29 dX5_firstWrongNow_15 (g_coach hk1) rfl rfl rfl (by decide) (Nat.le_of_ble_eq_true rfl) rfl (s_X3_start sx (Int32.toNatClampNeg b0) (σ.1 4 (Int32.toNatClampNeg b0)) hk1 σ _ h) (fun  σ2 h => ?_)
  refine X_aload_n dX5_firstWrongNow_18 rfl rfl ?_
  refine X_get (v := .ref 28) ck_X5 f_X5_19 g_31 rfl (fun _ => rfl) dX5_firstWrongNow_19 ?_
  refine X_iload_n dX5_firstWrongNow_22 rfl rfl ?_
  refine X_aload_n dX5_firstWrongNow_23 rfl rfl ?_
  refine X_get (v := .ref 15) ck_X5 f_X5_15 g_31 rfl (fun _ => rfl) dX5_firstWrongNow_24 ?_
  refine X_iload_n dX5_firstWrongNow_27 rfl rfl ?_
  have hk3 := vp_lt h.1
  refine X_aald g_15 (Or.inl rfl) dX5_firstWrongNow_28 h (fun q => g_coaches (vp_lt q)) (fun h => ?_)
  refine X_callVi [] [.int b0, .ref 28] c_X3_standNow v_X3_standNow lk_X5_35 dX5_firstWrongNow_29 (g_coach hk3) rfl rfl rfl (by decide) (Nat.le_of_ble_eq_true rfl) rfl (s_X3_standNow sx (Int32.toNatClampNeg b0) hk3 σ2 _ h) (fun r5 σ4 h => ?_)
  refine X_aload_n dX5_firstWrongNow_32 rfl rfl ?_
  refine X_callSi [.ref (45 + 2 * a0)] [.int r5, .int b0, .ref 28] c_X5_lastHour t_X5_lastHour lk_X5_39 dX5_firstWrongNow_33 rfl (by decide) (Nat.le_of_ble_eq_true rfl) rfl (s_X5_lastHour sx a0 ha0 σ4 _ h) (fun r7 σ6 h => ?_)
  refine X_callVv [.int b0, .int r5, .int r7] [] c_X6_followFrom v_X6_followFrom lk_X5_43 dX5_firstWrongNow_36 g_28 rfl rfl rfl (by decide) (Nat.le_of_ble_eq_true rfl) rfl (s_X6_followFrom sx b0 r5 r7  σ6 _ h) (fun  σ8 h => ?_)
  refine X_aload_n dX5_firstWrongNow_39 rfl rfl ?_
  refine X_aload_n dX5_firstWrongNow_40 rfl rfl ?_
  refine X_iload_n dX5_firstWrongNow_41 rfl rfl ?_
  refine X_callVi [.ref (45 + 2 * a0), .int b0] [] c_X5_firstWrong v_X5_firstWrong lk_X5_49 dX5_firstWrongNow_42 g_31 rfl rfl rfl (by decide) (Nat.le_of_ble_eq_true rfl) rfl (s_X5_firstWrong sx a0 b0 ha0 σ8 _ h) (fun r10 σ9 h => ?_)
  exact X_reti rfl dX5_firstWrongNow_45 h
def w_X5_waysThatFit_l29 (a0 : Nat) (b0 : Int32) (Q : Int32 → Sg → Prop) (r4 : Int32) : Nat → Int32 → Int32 → Sg → Prop
  | 0, _, _, _ => False
  | n29 + 1, x5, x6, σ7 => if (8 : Int32) ≤ x6 then (Q x5 σ7) else (vp_in b0 6 ∧ w_X6_followFrom b0 (((8 : Int32) * (σ7.1 2 (Int32.toNatClampNeg b0))) + x6) r4 σ7 (fun  σ8 => w_X5_firstWrong a0 b0 σ8 (fun r10 σ9 => bd (fun (x11 : Int32) (σ12 : Sg) => w_X5_waysThatFit_l29 a0 b0 Q r4 n29 x11 (x6 + 1) σ12) fun J80 => if r10 = (-2 : Int32) then (bd (x5 ||| ((1 : Int32) <<< (x6 &&& 31))) fun x13 => J80 x13 σ9) else (J80 x5 σ9))))
def w_X5_waysThatFit (a0 : Nat) (b0 : Int32) (σ : Sg) (Q : Int32 → Sg → Prop) : Prop := vp_in b0 6 ∧ vp_in b0 6 ∧ w_X3_start (Int32.toNatClampNeg b0) (σ.1 4 (Int32.toNatClampNeg b0)) σ (fun  σ2 => w_X5_lastHour a0 σ2 (fun r4 σ3 => ∃ n, w_X5_waysThatFit_l29 a0 b0 Q r4 n (0 : Int32) (0 : Int32) σ3))
set_option maxRecDepth 100000 in
set_option maxHeartbeats 4000000 in
theorem s_X5_waysThatFit (sx : Nat × (Nat → Int32)) (a0 : Nat) (b0 : Int32) (ha0 : a0 < 6) (σ : Sg) (Q : Int32 → Sg → Prop) (h : w_X5_waysThatFit a0 b0 σ Q) : Ct mX5_waysThatFit 6 false (0, 0) sx G0 [.ref 31, .ref (45 + 2 * a0), .int b0] σ (qI Q) := by
  refine Ct.of (L := [some (.ref 31), some (.ref (45 + 2 * a0)), some (.int b0), none, none, none]) (by decide) (Nat.le_of_ble_eq_true rfl) rfl ?_
  unfold w_X5_waysThatFit at h
  refine X_aload_n dX5_waysThatFit_0 rfl rfl ?_
  refine X_get (v := .ref 15) ck_X5 f_X5_15 g_31 rfl (fun _ => rfl) dX5_waysThatFit_1 ?_
  refine X_iload_n dX5_waysThatFit_4 rfl rfl ?_
  have hk1 := vp_lt h.1
  refine X_aald g_15 (Or.inl rfl) dX5_waysThatFit_5 h (fun q => g_coaches (vp_lt q)) (fun h => ?_)
  refine X_aload_n dX5_waysThatFit_6 rfl rfl ?_
  refine X_get (v := .ref 1) ck_X5 f_X5_9 g_31 rfl (fun _ => rfl) dX5_waysThatFit_7 ?_
  refine X_get (v := .ref 4) ck_X7 f_X5_23 g_1 rfl (fun _ => rfl) dX5_waysThatFit_10 ?_
  refine X_iload_n dX5_waysThatFit_13 rfl rfl ?_
  refine X_iald g_4 dX5_waysThatFit_14 h (fun h => ?_)
  refine X_callVv [.int (σ.1 4 (Int32.toNatClampNeg b0))] [] c_X3_start v_X3_start lk_X5_29 dX5_waysThatFit_15 (g_coach hk1) rfl rfl rfl (by decide) (Nat.le_of_ble_eq_true rfl) rfl (s_X3_start sx (Int32.toNatClampNeg b0) (σ.1 4 (Int32.toNatClampNeg b0)) hk1 σ _ h) (fun  σ2 h => ?_)
  refine X_aload_n dX5_waysThatFit_18 rfl rfl ?_
  refine X_callSi [.ref (45 + 2 * a0)] [] c_X5_lastHour t_X5_lastHour lk_X5_39 dX5_waysThatFit_19 rfl (by decide) (Nat.le_of_ble_eq_true rfl) rfl (s_X5_lastHour sx a0 ha0 σ2 _ h) (fun r4 σ3 h => ?_)
  refine X_istore_n (L' := [some (.ref 31), some (.ref (45 + 2 * a0)), some (.int b0), some (.int r4), none, none]) dX5_waysThatFit_22 rfl (by decide) rfl ?_
  refine X_iconst (v := 0) dX5_waysThatFit_23 iconst_0 ?_
  refine X_istore (L' := [some (.ref 31), some (.ref (45 + 2 * a0)), some (.int b0), some (.int r4), some (.int (0 : Int32)), none]) dX5_waysThatFit_24 (by decide) rfl ?_
  refine X_iconst (v := 0) dX5_waysThatFit_26 iconst_0 ?_
  refine X_istore (L' := [some (.ref 31), some (.ref (45 + 2 * a0)), some (.int b0), some (.int r4), some (.int (0 : Int32)), some (.int (0 : Int32))]) dX5_waysThatFit_27 (by decide) rfl ?_
  obtain ⟨n29, h⟩ := h
  have key29 : ∀ (n : Nat) (x5 : Int32) (x6 : Int32) (σ7 : Sg) , w_X5_waysThatFit_l29 a0 b0 Q r4 n x5 x6 σ7 → Ex mX5_waysThatFit 6 false (0, 0) sx G0 29 [some (.ref 31), some (.ref (45 + 2 * a0)), some (.int b0), some (.int r4), some (.int x5), some (.int x6)] [] σ7 (qI Q) := by
    intro n29
    induction n29 with
    | zero => intro _ _ _  h; exact h.elim
    | succ n29 ih29 =>
      intro x5 x6 σ7  h
      unfold w_X5_waysThatFit_l29 at h
      refine X_iload dX5_waysThatFit_29 rfl ?_
      refine X_bipush (v := 8) dX5_waysThatFit_31 bipush_8 ?_
      refine X_icmp_ge (tgt := 86) dX5_waysThatFit_33 (by decide) h (fun h => ?_) (fun h => ?_)
      · refine X_iload dX5_waysThatFit_86 rfl ?_
        exact X_reti rfl dX5_waysThatFit_88 h
      · refine X_aload_n dX5_waysThatFit_36 rfl rfl ?_
        refine X_get (v := .ref 28) ck_X5 f_X5_19 g_31 rfl (fun _ => rfl) dX5_waysThatFit_37 ?_
        refine X_iload_n dX5_waysThatFit_40 rfl rfl ?_
        refine X_bipush (v := 8) dX5_waysThatFit_41 bipush_8 ?_
        refine X_aload_n dX5_waysThatFit_43 rfl rfl ?_
        refine X_get (v := .ref 1) ck_X5 f_X5_9 g_31 rfl (fun _ => rfl) dX5_waysThatFit_44 ?_
        refine X_get (v := .ref 2) ck_X7 f_X5_53 g_1 rfl (fun _ => rfl) dX5_waysThatFit_47 ?_
        refine X_iload_n dX5_waysThatFit_50 rfl rfl ?_
        refine X_iald g_2 dX5_waysThatFit_51 h (fun h => ?_)
        refine X_imul dX5_waysThatFit_52 ?_
        refine X_iload dX5_waysThatFit_53 rfl ?_
        refine X_iadd dX5_waysThatFit_55 ?_
        refine X_iload_n dX5_waysThatFit_56 rfl rfl ?_
        refine X_callVv [.int b0, .int (((8 : Int32) * (σ7.1 2 (Int32.toNatClampNeg b0))) + x6), .int r4] [] c_X6_followFrom v_X6_followFrom lk_X5_43 dX5_waysThatFit_57 g_28 rfl rfl rfl (by decide) (Nat.le_of_ble_eq_true rfl) rfl (s_X6_followFrom sx b0 (((8 : Int32) * (σ7.1 2 (Int32.toNatClampNeg b0))) + x6) r4  σ7 _ h) (fun  σ8 h => ?_)
        refine X_aload_n dX5_waysThatFit_60 rfl rfl ?_
        refine X_aload_n dX5_waysThatFit_61 rfl rfl ?_
        refine X_iload_n dX5_waysThatFit_62 rfl rfl ?_
        refine X_callVi [.ref (45 + 2 * a0), .int b0] [] c_X5_firstWrong v_X5_firstWrong lk_X5_49 dX5_waysThatFit_63 g_31 rfl rfl rfl (by decide) (Nat.le_of_ble_eq_true rfl) rfl (s_X5_firstWrong sx a0 b0 ha0 σ8 _ h) (fun r10 σ9 h => ?_)
        refine X_bipush (v := -2) dX5_waysThatFit_66 bipush_m2 ?_
        refine bd_j h (fun J80 e80 h => ?_)
        have j80 : ∀ (x11 : Int32) (σ12 : Sg) , J80 x11 σ12 → Ex mX5_waysThatFit 6 false (0, 0) sx G0 80 [some (.ref 31), some (.ref (45 + 2 * a0)), some (.int b0), some (.int r4), some (.int x11), some (.int x6)] [] σ12 (qI Q) := by
          intro x11 σ12  h
          subst e80
          replace h := h
          refine X_iinc (v := (x6 + 1)) (L' := [some (.ref 31), some (.ref (45 + 2 * a0)), some (.int b0), some (.int r4), some (.int x11), some (.int (x6 + 1))]) dX5_waysThatFit_80 rfl rfl (by decide) rfl ?_
          refine X_goto (tgt := 29) dX5_waysThatFit_83 (by decide) ?_
          exact ih29 _ _ _  h
        refine X_icmp_ne (tgt := 80) dX5_waysThatFit_68 (by decide) h (fun h => ?_) (fun h => ?_)
        · exact j80 _ _  h
        · refine X_iload dX5_waysThatFit_71 rfl ?_
          refine X_iconst (v := 1) dX5_waysThatFit_73 iconst_1 ?_
          refine X_iload dX5_waysThatFit_74 rfl ?_
          refine X_ishl dX5_waysThatFit_76 ?_
          refine X_ior dX5_waysThatFit_77 ?_
          refine X_topI h (fun x13 h => ?_)
          refine X_istore (L' := [some (.ref 31), some (.ref (45 + 2 * a0)), some (.int b0), some (.int r4), some (.int x13), some (.int x6)]) dX5_waysThatFit_78 (by decide) rfl ?_
          exact j80 _ _  h
  exact key29 _ _ _ _  h
def w_X5_cellsThatFit_l30 (a0 : Nat) (b0 : Int32) (c0 : Int32) (Q : Int32 → Sg → Prop) (r4 : Int32) (J90 : Int32 → Sg → Prop) : Nat → Int32 → Int32 → Sg → Prop
  | 0, _, _, _ => False
  | n30 + 1, x7, x8, σ9 => if (256 : Int32) ≤ x8 then (J90 x7 σ9) else (vp_in b0 6 ∧ w_X6_followFrom b0 (((8 : Int32) * x8) + (σ9.1 3 (Int32.toNatClampNeg b0))) r4 σ9 (fun  σ10 => w_X5_firstWrong a0 b0 σ10 (fun r12 σ11 => bd (fun (x13 : Int32) (σ14 : Sg) => w_X5_cellsThatFit_l30 a0 b0 c0 Q r4 J90 n30 x13 (x8 + 1) σ14) fun J84 => if r12 = (-2 : Int32) then (if c0 = 0 then (J84 (x7 + 1) σ11) else (Q x8 σ11)) else (J84 x7 σ11))))
def w_X5_cellsThatFit (a0 : Nat) (b0 : Int32) (c0 : Int32) (σ : Sg) (Q : Int32 → Sg → Prop) : Prop := vp_in b0 6 ∧ vp_in b0 6 ∧ w_X3_start (Int32.toNatClampNeg b0) (σ.1 4 (Int32.toNatClampNeg b0)) σ (fun  σ2 => w_X5_lastHour a0 σ2 (fun r4 σ3 => bd (fun (x5 : Int32) (σ6 : Sg) => if c0 = 0 then (Q x5 σ6) else (Q (-2 : Int32) σ6)) fun J90 => ∃ n, w_X5_cellsThatFit_l30 a0 b0 c0 Q r4 J90 n (0 : Int32) (0 : Int32) σ3))
set_option maxRecDepth 100000 in
set_option maxHeartbeats 4000000 in
theorem s_X5_cellsThatFit (sx : Nat × (Nat → Int32)) (a0 : Nat) (b0 : Int32) (c0 : Int32) (ha0 : a0 < 6) (σ : Sg) (Q : Int32 → Sg → Prop) (h : w_X5_cellsThatFit a0 b0 c0 σ Q) : Ct mX5_cellsThatFit 6 false (0, 0) sx G0 [.ref 31, .ref (45 + 2 * a0), .int b0, .int c0] σ (qI Q) := by
  refine Ct.of (L := [some (.ref 31), some (.ref (45 + 2 * a0)), some (.int b0), some (.int c0), none, none, none]) (by decide) (Nat.le_of_ble_eq_true rfl) rfl ?_
  unfold w_X5_cellsThatFit at h
  refine X_aload_n dX5_cellsThatFit_0 rfl rfl ?_
  refine X_get (v := .ref 15) ck_X5 f_X5_15 g_31 rfl (fun _ => rfl) dX5_cellsThatFit_1 ?_
  refine X_iload_n dX5_cellsThatFit_4 rfl rfl ?_
  have hk1 := vp_lt h.1
  refine X_aald g_15 (Or.inl rfl) dX5_cellsThatFit_5 h (fun q => g_coaches (vp_lt q)) (fun h => ?_)
  refine X_aload_n dX5_cellsThatFit_6 rfl rfl ?_
  refine X_get (v := .ref 1) ck_X5 f_X5_9 g_31 rfl (fun _ => rfl) dX5_cellsThatFit_7 ?_
  refine X_get (v := .ref 4) ck_X7 f_X5_23 g_1 rfl (fun _ => rfl) dX5_cellsThatFit_10 ?_
  refine X_iload_n dX5_cellsThatFit_13 rfl rfl ?_
  refine X_iald g_4 dX5_cellsThatFit_14 h (fun h => ?_)
  refine X_callVv [.int (σ.1 4 (Int32.toNatClampNeg b0))] [] c_X3_start v_X3_start lk_X5_29 dX5_cellsThatFit_15 (g_coach hk1) rfl rfl rfl (by decide) (Nat.le_of_ble_eq_true rfl) rfl (s_X3_start sx (Int32.toNatClampNeg b0) (σ.1 4 (Int32.toNatClampNeg b0)) hk1 σ _ h) (fun  σ2 h => ?_)
  refine X_aload_n dX5_cellsThatFit_18 rfl rfl ?_
  refine X_callSi [.ref (45 + 2 * a0)] [] c_X5_lastHour t_X5_lastHour lk_X5_39 dX5_cellsThatFit_19 rfl (by decide) (Nat.le_of_ble_eq_true rfl) rfl (s_X5_lastHour sx a0 ha0 σ2 _ h) (fun r4 σ3 h => ?_)
  refine X_istore (L' := [some (.ref 31), some (.ref (45 + 2 * a0)), some (.int b0), some (.int c0), some (.int r4), none, none]) dX5_cellsThatFit_22 (by decide) rfl ?_
  refine X_iconst (v := 0) dX5_cellsThatFit_24 iconst_0 ?_
  refine X_istore (L' := [some (.ref 31), some (.ref (45 + 2 * a0)), some (.int b0), some (.int c0), some (.int r4), some (.int (0 : Int32)), none]) dX5_cellsThatFit_25 (by decide) rfl ?_
  refine X_iconst (v := 0) dX5_cellsThatFit_27 iconst_0 ?_
  refine X_istore (L' := [some (.ref 31), some (.ref (45 + 2 * a0)), some (.int b0), some (.int c0), some (.int r4), some (.int (0 : Int32)), some (.int (0 : Int32))]) dX5_cellsThatFit_28 (by decide) rfl ?_
  refine bd_j h (fun J90 e90 h => ?_)
  have j90 : ∀ (x5 : Int32) (σ6 : Sg) , J90 x5 σ6 → Ex mX5_cellsThatFit 6 false (0, 0) sx G0 90 [none, none, none, some (.int c0), none, some (.int x5), none] [] σ6 (qI Q) := by
    intro x5 σ6  h
    subst e90
    replace h := h
    refine X_iload_n dX5_cellsThatFit_90 rfl rfl ?_
    refine X_if_eq (tgt := 99) dX5_cellsThatFit_91 (by decide) h (fun h => ?_) (fun h => ?_)
    · refine X_iload dX5_cellsThatFit_99 rfl ?_
      exact X_reti rfl dX5_cellsThatFit_101 h
    · refine X_bipush (v := -2) dX5_cellsThatFit_94 bipush_m2 ?_
      refine X_goto (tgt := 101) dX5_cellsThatFit_96 (by decide) ?_
      exact X_reti rfl dX5_cellsThatFit_101 h
  obtain ⟨n30, h⟩ := h
  have key30 : ∀ (n : Nat) (x7 : Int32) (x8 : Int32) (σ9 : Sg) , w_X5_cellsThatFit_l30 a0 b0 c0 Q r4 J90 n x7 x8 σ9 → Ex mX5_cellsThatFit 6 false (0, 0) sx G0 30 [some (.ref 31), some (.ref (45 + 2 * a0)), some (.int b0), some (.int c0), some (.int r4), some (.int x7), some (.int x8)] [] σ9 (qI Q) := by
    intro n30
    induction n30 with
    | zero => intro _ _ _  h; exact h.elim
    | succ n30 ih30 =>
      intro x7 x8 σ9  h
      unfold w_X5_cellsThatFit_l30 at h
      refine X_iload dX5_cellsThatFit_30 rfl ?_
      refine X_sipush (v := 256) dX5_cellsThatFit_32 sipush_256 ?_
      refine X_icmp_ge (tgt := 90) dX5_cellsThatFit_35 (by decide) h (fun h => ?_) (fun h => ?_)
      · refine X_drop (L' := [none, none, none, some (.int c0), none, some (.int x7), none]) ⟨rfl, ⟨rfl, trivial⟩⟩ ?_
        exact j90 _ _  h
      · refine X_aload_n dX5_cellsThatFit_38 rfl rfl ?_
        refine X_get (v := .ref 28) ck_X5 f_X5_19 g_31 rfl (fun _ => rfl) dX5_cellsThatFit_39 ?_
        refine X_iload_n dX5_cellsThatFit_42 rfl rfl ?_
        refine X_bipush (v := 8) dX5_cellsThatFit_43 bipush_8 ?_
        refine X_iload dX5_cellsThatFit_45 rfl ?_
        refine X_imul dX5_cellsThatFit_47 ?_
        refine X_aload_n dX5_cellsThatFit_48 rfl rfl ?_
        refine X_get (v := .ref 1) ck_X5 f_X5_9 g_31 rfl (fun _ => rfl) dX5_cellsThatFit_49 ?_
        refine X_get (v := .ref 3) ck_X7 f_X5_56 g_1 rfl (fun _ => rfl) dX5_cellsThatFit_52 ?_
        refine X_iload_n dX5_cellsThatFit_55 rfl rfl ?_
        refine X_iald g_3 dX5_cellsThatFit_56 h (fun h => ?_)
        refine X_iadd dX5_cellsThatFit_57 ?_
        refine X_iload dX5_cellsThatFit_58 rfl ?_
        refine X_callVv [.int b0, .int (((8 : Int32) * x8) + (σ9.1 3 (Int32.toNatClampNeg b0))), .int r4] [] c_X6_followFrom v_X6_followFrom lk_X5_43 dX5_cellsThatFit_60 g_28 rfl rfl rfl (by decide) (Nat.le_of_ble_eq_true rfl) rfl (s_X6_followFrom sx b0 (((8 : Int32) * x8) + (σ9.1 3 (Int32.toNatClampNeg b0))) r4  σ9 _ h) (fun  σ10 h => ?_)
        refine X_aload_n dX5_cellsThatFit_63 rfl rfl ?_
        refine X_aload_n dX5_cellsThatFit_64 rfl rfl ?_
        refine X_iload_n dX5_cellsThatFit_65 rfl rfl ?_
        refine X_callVi [.ref (45 + 2 * a0), .int b0] [] c_X5_firstWrong v_X5_firstWrong lk_X5_49 dX5_cellsThatFit_66 g_31 rfl rfl rfl (by decide) (Nat.le_of_ble_eq_true rfl) rfl (s_X5_firstWrong sx a0 b0 ha0 σ10 _ h) (fun r12 σ11 h => ?_)
        refine X_bipush (v := -2) dX5_cellsThatFit_69 bipush_m2 ?_
        refine bd_j h (fun J84 e84 h => ?_)
        have j84 : ∀ (x13 : Int32) (σ14 : Sg) , J84 x13 σ14 → Ex mX5_cellsThatFit 6 false (0, 0) sx G0 84 [some (.ref 31), some (.ref (45 + 2 * a0)), some (.int b0), some (.int c0), some (.int r4), some (.int x13), some (.int x8)] [] σ14 (qI Q) := by
          intro x13 σ14  h
          subst e84
          replace h := h
          refine X_iinc (v := (x8 + 1)) (L' := [some (.ref 31), some (.ref (45 + 2 * a0)), some (.int b0), some (.int c0), some (.int r4), some (.int x13), some (.int (x8 + 1))]) dX5_cellsThatFit_84 rfl rfl (by decide) rfl ?_
          refine X_goto (tgt := 30) dX5_cellsThatFit_87 (by decide) ?_
          exact ih30 _ _ _  h
        refine X_icmp_ne (tgt := 84) dX5_cellsThatFit_71 (by decide) h (fun h => ?_) (fun h => ?_)
        · exact j84 _ _  h
        · refine X_iload_n dX5_cellsThatFit_74 rfl rfl ?_
          refine X_if_eq (tgt := 81) dX5_cellsThatFit_75 (by decide) h (fun h => ?_) (fun h => ?_)
          · refine X_iinc (v := (x7 + 1)) (L' := [some (.ref 31), some (.ref (45 + 2 * a0)), some (.int b0), some (.int c0), some (.int r4), some (.int (x7 + 1)), some (.int x8)]) dX5_cellsThatFit_81 rfl rfl (by decide) rfl ?_
            exact j84 _ _  h
          · refine X_iload dX5_cellsThatFit_78 rfl ?_
            exact X_reti rfl dX5_cellsThatFit_80 h
  exact key30 _ _ _ _  h
def w_X5_pacesThatFit_l11 (a0 : Nat) (b0 : Int32) (Q : Int32 → Sg → Prop) (r2 : Int32) : Nat → Int32 → Int32 → Sg → Prop
  | 0, _, _, _ => False
  | n11 + 1, x3, x4, σ5 => if (4 : Int32) < x4 then (Q x3 σ5) else (vp_in b0 6 ∧ w_X3_start (Int32.toNatClampNeg b0) x4 σ5 (fun  σ7 => vp_in b0 6 ∧ w_X3_standNow (Int32.toNatClampNeg b0) σ7 (fun r10 σ9 => w_X6_followFrom b0 r10 r2 σ9 (fun  σ11 => w_X5_firstWrong a0 b0 σ11 (fun r13 σ12 => bd (fun (x14 : Int32) (σ15 : Sg) => w_X5_pacesThatFit_l11 a0 b0 Q r2 n11 x14 (x4 + 1) σ15) fun J66 => if r13 = (-2 : Int32) then (bd (x3 ||| ((1 : Int32) <<< (x4 &&& 31))) fun x16 => J66 x16 σ12) else (J66 x3 σ12))))))
def w_X5_pacesThatFit (a0 : Nat) (b0 : Int32) (σ : Sg) (Q : Int32 → Sg → Prop) : Prop := w_X5_lastHour a0 σ (fun r2 σ1 => ∃ n, w_X5_pacesThatFit_l11 a0 b0 Q r2 n (0 : Int32) (1 : Int32) σ1)
set_option maxRecDepth 100000 in
set_option maxHeartbeats 4000000 in
theorem s_X5_pacesThatFit (sx : Nat × (Nat → Int32)) (a0 : Nat) (b0 : Int32) (ha0 : a0 < 6) (σ : Sg) (Q : Int32 → Sg → Prop) (h : w_X5_pacesThatFit a0 b0 σ Q) : Ct mX5_pacesThatFit 6 false (0, 0) sx G0 [.ref 31, .ref (45 + 2 * a0), .int b0] σ (qI Q) := by
  refine Ct.of (L := [some (.ref 31), some (.ref (45 + 2 * a0)), some (.int b0), none, none, none]) (by decide) (Nat.le_of_ble_eq_true rfl) rfl ?_
  unfold w_X5_pacesThatFit at h
  refine X_aload_n dX5_pacesThatFit_0 rfl rfl ?_
  refine X_callSi [.ref (45 + 2 * a0)] [] c_X5_lastHour t_X5_lastHour lk_X5_39 dX5_pacesThatFit_1 rfl (by decide) (Nat.le_of_ble_eq_true rfl) rfl (s_X5_lastHour sx a0 ha0 σ _ h) (fun r2 σ1 h => ?_)
  refine X_istore_n (L' := [some (.ref 31), some (.ref (45 + 2 * a0)), some (.int b0), some (.int r2), none, none]) dX5_pacesThatFit_4 rfl (by decide) rfl ?_
  refine X_iconst (v := 0) dX5_pacesThatFit_5 iconst_0 ?_
  refine X_istore (L' := [some (.ref 31), some (.ref (45 + 2 * a0)), some (.int b0), some (.int r2), some (.int (0 : Int32)), none]) dX5_pacesThatFit_6 (by decide) rfl ?_
  refine X_iconst (v := 1) dX5_pacesThatFit_8 iconst_1 ?_
  refine X_istore (L' := [some (.ref 31), some (.ref (45 + 2 * a0)), some (.int b0), some (.int r2), some (.int (0 : Int32)), some (.int (1 : Int32))]) dX5_pacesThatFit_9 (by decide) rfl ?_
  obtain ⟨n11, h⟩ := h
  have key11 : ∀ (n : Nat) (x3 : Int32) (x4 : Int32) (σ5 : Sg) , w_X5_pacesThatFit_l11 a0 b0 Q r2 n x3 x4 σ5 → Ex mX5_pacesThatFit 6 false (0, 0) sx G0 11 [some (.ref 31), some (.ref (45 + 2 * a0)), some (.int b0), some (.int r2), some (.int x3), some (.int x4)] [] σ5 (qI Q) := by
    intro n11
    induction n11 with
    | zero => intro _ _ _  h; exact h.elim
    | succ n11 ih11 =>
      intro x3 x4 σ5  h
      unfold w_X5_pacesThatFit_l11 at h
      refine X_iload dX5_pacesThatFit_11 rfl ?_
      refine X_iconst (v := 4) dX5_pacesThatFit_13 iconst_4 ?_
      refine X_icmp_gt (tgt := 72) dX5_pacesThatFit_14 (by decide) h (fun h => ?_) (fun h => ?_)
      · refine X_iload dX5_pacesThatFit_72 rfl ?_
        exact X_reti rfl dX5_pacesThatFit_74 h
      · refine X_aload_n dX5_pacesThatFit_17 rfl rfl ?_
        refine X_get (v := .ref 15) ck_X5 f_X5_15 g_31 rfl (fun _ => rfl) dX5_pacesThatFit_18 ?_
        refine X_iload_n dX5_pacesThatFit_21 rfl rfl ?_
        have hk6 := vp_lt h.1
        refine X_aald g_15 (Or.inl rfl) dX5_pacesThatFit_22 h (fun q => g_coaches (vp_lt q)) (fun h => ?_)
        refine X_iload dX5_pacesThatFit_23 rfl ?_
        refine X_callVv [.int x4] [] c_X3_start v_X3_start lk_X5_29 dX5_pacesThatFit_25 (g_coach hk6) rfl rfl rfl (by decide) (Nat.le_of_ble_eq_true rfl) rfl (s_X3_start sx (Int32.toNatClampNeg b0) x4 hk6 σ5 _ h) (fun  σ7 h => ?_)
        refine X_aload_n dX5_pacesThatFit_28 rfl rfl ?_
        refine X_get (v := .ref 28) ck_X5 f_X5_19 g_31 rfl (fun _ => rfl) dX5_pacesThatFit_29 ?_
        refine X_iload_n dX5_pacesThatFit_32 rfl rfl ?_
        refine X_aload_n dX5_pacesThatFit_33 rfl rfl ?_
        refine X_get (v := .ref 15) ck_X5 f_X5_15 g_31 rfl (fun _ => rfl) dX5_pacesThatFit_34 ?_
        refine X_iload_n dX5_pacesThatFit_37 rfl rfl ?_
        have hk8 := vp_lt h.1
        refine X_aald g_15 (Or.inl rfl) dX5_pacesThatFit_38 h (fun q => g_coaches (vp_lt q)) (fun h => ?_)
        refine X_callVi [] [.int b0, .ref 28] c_X3_standNow v_X3_standNow lk_X5_35 dX5_pacesThatFit_39 (g_coach hk8) rfl rfl rfl (by decide) (Nat.le_of_ble_eq_true rfl) rfl (s_X3_standNow sx (Int32.toNatClampNeg b0) hk8 σ7 _ h) (fun r10 σ9 h => ?_)
        refine X_iload_n dX5_pacesThatFit_42 rfl rfl ?_
        refine X_callVv [.int b0, .int r10, .int r2] [] c_X6_followFrom v_X6_followFrom lk_X5_43 dX5_pacesThatFit_43 g_28 rfl rfl rfl (by decide) (Nat.le_of_ble_eq_true rfl) rfl (s_X6_followFrom sx b0 r10 r2  σ9 _ h) (fun  σ11 h => ?_)
        refine X_aload_n dX5_pacesThatFit_46 rfl rfl ?_
        refine X_aload_n dX5_pacesThatFit_47 rfl rfl ?_
        refine X_iload_n dX5_pacesThatFit_48 rfl rfl ?_
        refine X_callVi [.ref (45 + 2 * a0), .int b0] [] c_X5_firstWrong v_X5_firstWrong lk_X5_49 dX5_pacesThatFit_49 g_31 rfl rfl rfl (by decide) (Nat.le_of_ble_eq_true rfl) rfl (s_X5_firstWrong sx a0 b0 ha0 σ11 _ h) (fun r13 σ12 h => ?_)
        refine X_bipush (v := -2) dX5_pacesThatFit_52 bipush_m2 ?_
        refine bd_j h (fun J66 e66 h => ?_)
        have j66 : ∀ (x14 : Int32) (σ15 : Sg) , J66 x14 σ15 → Ex mX5_pacesThatFit 6 false (0, 0) sx G0 66 [some (.ref 31), some (.ref (45 + 2 * a0)), some (.int b0), some (.int r2), some (.int x14), some (.int x4)] [] σ15 (qI Q) := by
          intro x14 σ15  h
          subst e66
          replace h := h
          refine X_iinc (v := (x4 + 1)) (L' := [some (.ref 31), some (.ref (45 + 2 * a0)), some (.int b0), some (.int r2), some (.int x14), some (.int (x4 + 1))]) dX5_pacesThatFit_66 rfl rfl (by decide) rfl ?_
          refine X_goto (tgt := 11) dX5_pacesThatFit_69 (by decide) ?_
          exact ih11 _ _ _  h
        refine X_icmp_ne (tgt := 66) dX5_pacesThatFit_54 (by decide) h (fun h => ?_) (fun h => ?_)
        · exact j66 _ _  h
        · refine X_iload dX5_pacesThatFit_57 rfl ?_
          refine X_iconst (v := 1) dX5_pacesThatFit_59 iconst_1 ?_
          refine X_iload dX5_pacesThatFit_60 rfl ?_
          refine X_ishl dX5_pacesThatFit_62 ?_
          refine X_ior dX5_pacesThatFit_63 ?_
          refine X_topI h (fun x16 h => ?_)
          refine X_istore (L' := [some (.ref 31), some (.ref (45 + 2 * a0)), some (.int b0), some (.int r2), some (.int x16), some (.int x4)]) dX5_pacesThatFit_64 (by decide) rfl ?_
          exact j66 _ _  h
  exact key11 _ _ _ _  h
def w_X6_follow (a0 : Int32) (b0 : Int32) (σ : Sg) (Q : Sg → Prop) : Prop := vp_in a0 6 ∧ vp_in a0 6 ∧ w_X3_start (Int32.toNatClampNeg a0) (σ.1 4 (Int32.toNatClampNeg a0)) σ (fun  σ2 => vp_in a0 6 ∧ w_X3_standNow (Int32.toNatClampNeg a0) σ2 (fun r5 σ4 => w_X6_followFrom a0 r5 b0 σ4 (fun  σ6 => Q σ6)))
set_option maxRecDepth 100000 in
set_option maxHeartbeats 4000000 in
theorem s_X6_follow (sx : Nat × (Nat → Int32)) (a0 : Int32) (b0 : Int32) (σ : Sg) (Q : Sg → Prop) (h : w_X6_follow a0 b0 σ Q) : Ct mX6_follow 6 false (0, 0) sx G0 [.ref 28, .int a0, .int b0] σ (qV Q) := by
  refine Ct.of (L := [some (.ref 28), some (.int a0), some (.int b0)]) (by decide) (Nat.le_of_ble_eq_true rfl) rfl ?_
  unfold w_X6_follow at h
  refine X_aload_n dX6_follow_0 rfl rfl ?_
  refine X_get (v := .ref 15) ck_X6 f_X6_22 g_28 rfl (fun _ => rfl) dX6_follow_1 ?_
  refine X_iload_n dX6_follow_4 rfl rfl ?_
  have hk1 := vp_lt h.1
  refine X_aald g_15 (Or.inl rfl) dX6_follow_5 h (fun q => g_coaches (vp_lt q)) (fun h => ?_)
  refine X_aload_n dX6_follow_6 rfl rfl ?_
  refine X_get (v := .ref 1) ck_X6 f_X6_18 g_28 rfl (fun _ => rfl) dX6_follow_7 ?_
  refine X_get (v := .ref 4) ck_X7 f_X6_26 g_1 rfl (fun _ => rfl) dX6_follow_10 ?_
  refine X_iload_n dX6_follow_13 rfl rfl ?_
  refine X_iald g_4 dX6_follow_14 h (fun h => ?_)
  refine X_callVv [.int (σ.1 4 (Int32.toNatClampNeg a0))] [] c_X3_start v_X3_start lk_X6_31 dX6_follow_15 (g_coach hk1) rfl rfl rfl (by decide) (Nat.le_of_ble_eq_true rfl) rfl (s_X3_start sx (Int32.toNatClampNeg a0) (σ.1 4 (Int32.toNatClampNeg a0)) hk1 σ _ h) (fun  σ2 h => ?_)
  refine X_aload_n dX6_follow_18 rfl rfl ?_
  refine X_iload_n dX6_follow_19 rfl rfl ?_
  refine X_aload_n dX6_follow_20 rfl rfl ?_
  refine X_get (v := .ref 15) ck_X6 f_X6_22 g_28 rfl (fun _ => rfl) dX6_follow_21 ?_
  refine X_iload_n dX6_follow_24 rfl rfl ?_
  have hk3 := vp_lt h.1
  refine X_aald g_15 (Or.inl rfl) dX6_follow_25 h (fun q => g_coaches (vp_lt q)) (fun h => ?_)
  refine X_callVi [] [.int a0, .ref 28] c_X3_standNow v_X3_standNow lk_X6_37 dX6_follow_26 (g_coach hk3) rfl rfl rfl (by decide) (Nat.le_of_ble_eq_true rfl) rfl (s_X3_standNow sx (Int32.toNatClampNeg a0) hk3 σ2 _ h) (fun r5 σ4 h => ?_)
  refine X_iload_n dX6_follow_29 rfl rfl ?_
  refine X_callVv [.int a0, .int r5, .int b0] [] c_X6_followFrom v_X6_followFrom lk_X6_41 dX6_follow_30 g_28 rfl rfl rfl (by decide) (Nat.le_of_ble_eq_true rfl) rfl (s_X6_followFrom sx a0 r5 b0  σ4 _ h) (fun  σ6 h => ?_)
  exact X_retv rfl dX6_follow_33 h
def w_X6_followAll_l2 (a0 : Int32) (Q : Sg → Prop) : Nat → Int32 → Sg → Prop
  | 0, _, _ => False
  | n2 + 1, x1, σ2 => if (σ2.1 1 4) ≤ x1 then (Q σ2) else (vp_in x1 6 ∧ vp_in x1 6 ∧ w_X3_start (Int32.toNatClampNeg x1) (σ2.1 4 (Int32.toNatClampNeg x1)) σ2 (fun  σ4 => vp_in x1 6 ∧ w_X3_standNow (Int32.toNatClampNeg x1) σ4 (fun r7 σ6 => w_X6_followFrom x1 r7 a0 σ6 (fun  σ8 => w_X6_followAll_l2 a0 Q n2 (x1 + 1) σ8))))
def w_X6_followAll (a0 : Int32) (σ : Sg) (Q : Sg → Prop) : Prop := ∃ n, w_X6_followAll_l2 a0 Q n (0 : Int32) σ
set_option maxRecDepth 100000 in
set_option maxHeartbeats 4000000 in
theorem s_X6_followAll (sx : Nat × (Nat → Int32)) (a0 : Int32) (σ : Sg) (Q : Sg → Prop) (h : w_X6_followAll a0 σ Q) : Ct mX6_followAll 6 false (0, 0) sx G0 [.ref 28, .int a0] σ (qV Q) := by
  refine Ct.of (L := [some (.ref 28), some (.int a0), none]) (by decide) (Nat.le_of_ble_eq_true rfl) rfl ?_
  unfold w_X6_followAll at h
  refine X_iconst (v := 0) dX6_followAll_0 iconst_0 ?_
  refine X_istore_n (L' := [some (.ref 28), some (.int a0), some (.int (0 : Int32))]) dX6_followAll_1 rfl (by decide) rfl ?_
  obtain ⟨n2, h⟩ := h
  have key2 : ∀ (n : Nat) (x1 : Int32) (σ2 : Sg) , w_X6_followAll_l2 a0 Q n x1 σ2 → Ex mX6_followAll 6 false (0, 0) sx G0 2 [some (.ref 28), some (.int a0), some (.int x1)] [] σ2 (qV Q) := by
    intro n2
    induction n2 with
    | zero => intro _ _  h; exact h.elim
    | succ n2 ih2 =>
      intro x1 σ2  h
      unfold w_X6_followAll_l2 at h
      refine X_iload_n dX6_followAll_2 rfl rfl ?_
      refine X_aload_n dX6_followAll_3 rfl rfl ?_
      refine X_get (v := .ref 1) ck_X6 f_X6_18 g_28 rfl (fun _ => rfl) dX6_followAll_4 ?_
      refine X_get (v := .int (σ2.1 1 4)) ck_X7 f_X6_49 g_1 rfl (fun _ => rfl) dX6_followAll_7 ?_
      refine X_icmp_ge (tgt := 52) dX6_followAll_10 (by decide) h (fun h => ?_) (fun h => ?_)
      · exact X_retv rfl dX6_followAll_52 h
      · refine X_aload_n dX6_followAll_13 rfl rfl ?_
        refine X_get (v := .ref 15) ck_X6 f_X6_22 g_28 rfl (fun _ => rfl) dX6_followAll_14 ?_
        refine X_iload_n dX6_followAll_17 rfl rfl ?_
        have hk3 := vp_lt h.1
        refine X_aald g_15 (Or.inl rfl) dX6_followAll_18 h (fun q => g_coaches (vp_lt q)) (fun h => ?_)
        refine X_aload_n dX6_followAll_19 rfl rfl ?_
        refine X_get (v := .ref 1) ck_X6 f_X6_18 g_28 rfl (fun _ => rfl) dX6_followAll_20 ?_
        refine X_get (v := .ref 4) ck_X7 f_X6_26 g_1 rfl (fun _ => rfl) dX6_followAll_23 ?_
        refine X_iload_n dX6_followAll_26 rfl rfl ?_
        refine X_iald g_4 dX6_followAll_27 h (fun h => ?_)
        refine X_callVv [.int (σ2.1 4 (Int32.toNatClampNeg x1))] [] c_X3_start v_X3_start lk_X6_31 dX6_followAll_28 (g_coach hk3) rfl rfl rfl (by decide) (Nat.le_of_ble_eq_true rfl) rfl (s_X3_start sx (Int32.toNatClampNeg x1) (σ2.1 4 (Int32.toNatClampNeg x1)) hk3 σ2 _ h) (fun  σ4 h => ?_)
        refine X_aload_n dX6_followAll_31 rfl rfl ?_
        refine X_iload_n dX6_followAll_32 rfl rfl ?_
        refine X_aload_n dX6_followAll_33 rfl rfl ?_
        refine X_get (v := .ref 15) ck_X6 f_X6_22 g_28 rfl (fun _ => rfl) dX6_followAll_34 ?_
        refine X_iload_n dX6_followAll_37 rfl rfl ?_
        have hk5 := vp_lt h.1
        refine X_aald g_15 (Or.inl rfl) dX6_followAll_38 h (fun q => g_coaches (vp_lt q)) (fun h => ?_)
        refine X_callVi [] [.int x1, .ref 28] c_X3_standNow v_X3_standNow lk_X6_37 dX6_followAll_39 (g_coach hk5) rfl rfl rfl (by decide) (Nat.le_of_ble_eq_true rfl) rfl (s_X3_standNow sx (Int32.toNatClampNeg x1) hk5 σ4 _ h) (fun r7 σ6 h => ?_)
        refine X_iload_n dX6_followAll_42 rfl rfl ?_
        refine X_callVv [.int x1, .int r7, .int a0] [] c_X6_followFrom v_X6_followFrom lk_X6_41 dX6_followAll_43 g_28 rfl rfl rfl (by decide) (Nat.le_of_ble_eq_true rfl) rfl (s_X6_followFrom sx x1 r7 a0  σ6 _ h) (fun  σ8 h => ?_)
        refine X_iinc (v := (x1 + 1)) (L' := [some (.ref 28), some (.int a0), some (.int (x1 + 1))]) dX6_followAll_46 rfl rfl (by decide) rfl ?_
        refine X_goto (tgt := 2) dX6_followAll_49 (by decide) ?_
        exact ih2 _ _  h
  exact key2 _ _ _  h
def w_X6_wayBehind (a0 : Int32) (b0 : Int32) (σ : Sg) (Q : Int32 → Sg → Prop) : Prop := vp_in ((a0 * (61 : Int32)) + b0) 366 ∧ Q ((σ.1 29 (Int32.toNatClampNeg ((a0 * (61 : Int32)) + b0))) &&& (7 : Int32)) σ
set_option maxRecDepth 100000 in
set_option maxHeartbeats 4000000 in
theorem s_X6_wayBehind (sx : Nat × (Nat → Int32)) (a0 : Int32) (b0 : Int32) (σ : Sg) (Q : Int32 → Sg → Prop) (h : w_X6_wayBehind a0 b0 σ Q) : Ct mX6_wayBehind 0 false (0, 0) sx G0 [.ref 28, .int a0, .int b0] σ (qI Q) := by
  refine Ct.of (L := [some (.ref 28), some (.int a0), some (.int b0)]) (by decide) (Nat.le_of_ble_eq_true rfl) rfl ?_
  unfold w_X6_wayBehind at h
  refine X_aload_n dX6_wayBehind_0 rfl rfl ?_
  refine X_get (v := .ref 29) ck_X6 f_X6_11 g_28 rfl (fun _ => rfl) dX6_wayBehind_1 ?_
  refine X_iload_n dX6_wayBehind_4 rfl rfl ?_
  refine X_bipush (v := 61) dX6_wayBehind_5 bipush_61 ?_
  refine X_imul dX6_wayBehind_7 ?_
  refine X_iload_n dX6_wayBehind_8 rfl rfl ?_
  refine X_iadd dX6_wayBehind_9 ?_
  refine X_iald g_29 dX6_wayBehind_10 h (fun h => ?_)
  refine X_bipush (v := 7) dX6_wayBehind_11 bipush_7 ?_
  refine X_iand dX6_wayBehind_13 ?_
  exact X_reti rfl dX6_wayBehind_14 h
def w_X6_firstNearest_l6 (a0 : Int32) (b0 : Int32) (c0 : Int32) (Q : Int32 → Sg → Prop) : Nat → Int32 → Int32 → Sg → Prop
  | 0, _, _, _ => False
  | n6 + 1, x1, x2, σ3 => if c0 < x2 then (Q x1 σ3) else (w_X6_cellBehind a0 x2 σ3 (fun r5 σ4 => w_X7_apart r5 b0 σ4 (fun r7 σ6 => w_X6_cellBehind a0 x1 σ6 (fun r9 σ8 => w_X7_apart r9 b0 σ8 (fun r11 σ10 => bd (fun (x12 : Int32) (σ13 : Sg) => w_X6_firstNearest_l6 a0 b0 c0 Q n6 x12 (x2 + 1) σ13) fun J41 => if r11 ≤ r7 then (J41 x1 σ10) else (J41 x2 σ10))))))
def w_X6_firstNearest (a0 : Int32) (b0 : Int32) (c0 : Int32) (σ : Sg) (Q : Int32 → Sg → Prop) : Prop := ∃ n, w_X6_firstNearest_l6 a0 b0 c0 Q n (0 : Int32) (1 : Int32) σ
set_option maxRecDepth 100000 in
set_option maxHeartbeats 4000000 in
theorem s_X6_firstNearest (sx : Nat × (Nat → Int32)) (a0 : Int32) (b0 : Int32) (c0 : Int32) (σ : Sg) (Q : Int32 → Sg → Prop) (h : w_X6_firstNearest a0 b0 c0 σ Q) : Ct mX6_firstNearest 2 false (0, 0) sx G0 [.ref 28, .int a0, .int b0, .int c0] σ (qI Q) := by
  refine Ct.of (L := [some (.ref 28), some (.int a0), some (.int b0), some (.int c0), none, none]) (by decide) (Nat.le_of_ble_eq_true rfl) rfl ?_
  unfold w_X6_firstNearest at h
  refine X_iconst (v := 0) dX6_firstNearest_0 iconst_0 ?_
  refine X_istore (L' := [some (.ref 28), some (.int a0), some (.int b0), some (.int c0), some (.int (0 : Int32)), none]) dX6_firstNearest_1 (by decide) rfl ?_
  refine X_iconst (v := 1) dX6_firstNearest_3 iconst_1 ?_
  refine X_istore (L' := [some (.ref 28), some (.int a0), some (.int b0), some (.int c0), some (.int (0 : Int32)), some (.int (1 : Int32))]) dX6_firstNearest_4 (by decide) rfl ?_
  obtain ⟨n6, h⟩ := h
  have key6 : ∀ (n : Nat) (x1 : Int32) (x2 : Int32) (σ3 : Sg) , w_X6_firstNearest_l6 a0 b0 c0 Q n x1 x2 σ3 → Ex mX6_firstNearest 2 false (0, 0) sx G0 6 [some (.ref 28), some (.int a0), some (.int b0), some (.int c0), some (.int x1), some (.int x2)] [] σ3 (qI Q) := by
    intro n6
    induction n6 with
    | zero => intro _ _ _  h; exact h.elim
    | succ n6 ih6 =>
      intro x1 x2 σ3  h
      unfold w_X6_firstNearest_l6 at h
      refine X_iload dX6_firstNearest_6 rfl ?_
      refine X_iload_n dX6_firstNearest_8 rfl rfl ?_
      refine X_icmp_gt (tgt := 47) dX6_firstNearest_9 (by decide) h (fun h => ?_) (fun h => ?_)
      · refine X_iload dX6_firstNearest_47 rfl ?_
        exact X_reti rfl dX6_firstNearest_49 h
      · refine X_aload_n dX6_firstNearest_12 rfl rfl ?_
        refine X_iload_n dX6_firstNearest_13 rfl rfl ?_
        refine X_iload dX6_firstNearest_14 rfl ?_
        refine X_callVi [.int a0, .int x2] [] c_X6_cellBehind v_X6_cellBehind lk_X6_53 dX6_firstNearest_16 g_28 rfl rfl rfl (by decide) (Nat.le_of_ble_eq_true rfl) rfl (s_X6_cellBehind sx a0 x2  σ3 _ h) (fun r5 σ4 h => ?_)
        refine X_iload_n dX6_firstNearest_19 rfl rfl ?_
        refine X_callSi [.int r5, .int b0] [] c_X7_apart t_X7_apart lk_X6_57 dX6_firstNearest_20 rfl (by decide) (Nat.le_of_ble_eq_true rfl) rfl (s_X7_apart sx r5 b0  σ4 _ h) (fun r7 σ6 h => ?_)
        refine X_aload_n dX6_firstNearest_23 rfl rfl ?_
        refine X_iload_n dX6_firstNearest_24 rfl rfl ?_
        refine X_iload dX6_firstNearest_25 rfl ?_
        refine X_callVi [.int a0, .int x1] [.int r7] c_X6_cellBehind v_X6_cellBehind lk_X6_53 dX6_firstNearest_27 g_28 rfl rfl rfl (by decide) (Nat.le_of_ble_eq_true rfl) rfl (s_X6_cellBehind sx a0 x1  σ6 _ h) (fun r9 σ8 h => ?_)
        refine X_iload_n dX6_firstNearest_30 rfl rfl ?_
        refine X_callSi [.int r9, .int b0] [.int r7] c_X7_apart t_X7_apart lk_X6_57 dX6_firstNearest_31 rfl (by decide) (Nat.le_of_ble_eq_true rfl) rfl (s_X7_apart sx r9 b0  σ8 _ h) (fun r11 σ10 h => ?_)
        refine bd_j h (fun J41 e41 h => ?_)
        have j41 : ∀ (x12 : Int32) (σ13 : Sg) , J41 x12 σ13 → Ex mX6_firstNearest 2 false (0, 0) sx G0 41 [some (.ref 28), some (.int a0), some (.int b0), some (.int c0), some (.int x12), some (.int x2)] [] σ13 (qI Q) := by
          intro x12 σ13  h
          subst e41
          replace h := h
          refine X_iinc (v := (x2 + 1)) (L' := [some (.ref 28), some (.int a0), some (.int b0), some (.int c0), some (.int x12), some (.int (x2 + 1))]) dX6_firstNearest_41 rfl rfl (by decide) rfl ?_
          refine X_goto (tgt := 6) dX6_firstNearest_44 (by decide) ?_
          exact ih6 _ _ _  h
        refine X_icmp_ge (tgt := 41) dX6_firstNearest_34 (by decide) h (fun h => ?_) (fun h => ?_)
        · exact j41 _ _  h
        · refine X_iload dX6_firstNearest_37 rfl ?_
          refine X_istore (L' := [some (.ref 28), some (.int a0), some (.int b0), some (.int c0), some (.int x2), some (.int x2)]) dX6_firstNearest_39 (by decide) rfl ?_
          exact j41 _ _  h
  exact key6 _ _ _ _  h
def w_X6_placesPassed_l5 (a0 : Int32) (b0 : Int32) (Q : Int32 → Sg → Prop) : Nat → Int32 → Int32 → Sg → Prop
  | 0, _, _, _ => False
  | n5 + 1, x1, x2, σ3 => if b0 < x2 then (Q x1 σ3) else (w_X6_cellBehind a0 x2 σ3 (fun r5 σ4 => w_X7_placesNear r5 σ4 (fun r7 σ6 => bd (x1 ||| r7) fun x8 => w_X6_placesPassed_l5 a0 b0 Q n5 x8 (x2 + 1) σ6)))
def w_X6_placesPassed (a0 : Int32) (b0 : Int32) (σ : Sg) (Q : Int32 → Sg → Prop) : Prop := ∃ n, w_X6_placesPassed_l5 a0 b0 Q n (0 : Int32) (0 : Int32) σ
set_option maxRecDepth 100000 in
set_option maxHeartbeats 4000000 in
theorem s_X6_placesPassed (sx : Nat × (Nat → Int32)) (a0 : Int32) (b0 : Int32) (σ : Sg) (Q : Int32 → Sg → Prop) (h : w_X6_placesPassed a0 b0 σ Q) : Ct mX6_placesPassed 4 false (0, 0) sx G0 [.ref 28, .int a0, .int b0] σ (qI Q) := by
  refine Ct.of (L := [some (.ref 28), some (.int a0), some (.int b0), none, none]) (by decide) (Nat.le_of_ble_eq_true rfl) rfl ?_
  unfold w_X6_placesPassed at h
  refine X_iconst (v := 0) dX6_placesPassed_0 iconst_0 ?_
  refine X_istore_n (L' := [some (.ref 28), some (.int a0), some (.int b0), some (.int (0 : Int32)), none]) dX6_placesPassed_1 rfl (by decide) rfl ?_
  refine X_iconst (v := 0) dX6_placesPassed_2 iconst_0 ?_
  refine X_istore (L' := [some (.ref 28), some (.int a0), some (.int b0), some (.int (0 : Int32)), some (.int (0 : Int32))]) dX6_placesPassed_3 (by decide) rfl ?_
  obtain ⟨n5, h⟩ := h
  have key5 : ∀ (n : Nat) (x1 : Int32) (x2 : Int32) (σ3 : Sg) , w_X6_placesPassed_l5 a0 b0 Q n x1 x2 σ3 → Ex mX6_placesPassed 4 false (0, 0) sx G0 5 [some (.ref 28), some (.int a0), some (.int b0), some (.int x1), some (.int x2)] [] σ3 (qI Q) := by
    intro n5
    induction n5 with
    | zero => intro _ _ _  h; exact h.elim
    | succ n5 ih5 =>
      intro x1 x2 σ3  h
      unfold w_X6_placesPassed_l5 at h
      refine X_iload dX6_placesPassed_5 rfl ?_
      refine X_iload_n dX6_placesPassed_7 rfl rfl ?_
      refine X_icmp_gt (tgt := 34) dX6_placesPassed_8 (by decide) h (fun h => ?_) (fun h => ?_)
      · refine X_iload_n dX6_placesPassed_34 rfl rfl ?_
        exact X_reti rfl dX6_placesPassed_35 h
      · refine X_iload_n dX6_placesPassed_11 rfl rfl ?_
        refine X_aload_n dX6_placesPassed_12 rfl rfl ?_
        refine X_get (v := .ref 1) ck_X6 f_X6_18 g_28 rfl (fun _ => rfl) dX6_placesPassed_13 ?_
        refine X_aload_n dX6_placesPassed_16 rfl rfl ?_
        refine X_iload_n dX6_placesPassed_17 rfl rfl ?_
        refine X_iload dX6_placesPassed_18 rfl ?_
        refine X_callVi [.int a0, .int x2] [.ref 1, .int x1] c_X6_cellBehind v_X6_cellBehind lk_X6_53 dX6_placesPassed_20 g_28 rfl rfl rfl (by decide) (Nat.le_of_ble_eq_true rfl) rfl (s_X6_cellBehind sx a0 x2  σ3 _ h) (fun r5 σ4 h => ?_)
        refine X_callVi [.int r5] [.int x1] c_X7_placesNear v_X7_placesNear lk_X6_60 dX6_placesPassed_23 g_1 rfl rfl rfl (by decide) (Nat.le_of_ble_eq_true rfl) rfl (s_X7_placesNear sx r5  σ4 _ h) (fun r7 σ6 h => ?_)
        refine X_ior dX6_placesPassed_26 ?_
        refine X_topI h (fun x8 h => ?_)
        refine X_istore_n (L' := [some (.ref 28), some (.int a0), some (.int b0), some (.int x8), some (.int x2)]) dX6_placesPassed_27 rfl (by decide) rfl ?_
        refine X_iinc (v := (x2 + 1)) (L' := [some (.ref 28), some (.int a0), some (.int b0), some (.int x8), some (.int (x2 + 1))]) dX6_placesPassed_28 rfl rfl (by decide) rfl ?_
        refine X_goto (tgt := 5) dX6_placesPassed_31 (by decide) ?_
        exact ih5 _ _ _  h
  exact key5 _ _ _ _  h
def w_X6_together (a0 : Int32) (b0 : Int32) (c0 : Int32) (σ : Sg) (Q : Int32 → Sg → Prop) : Prop := w_X6_cellBehind a0 c0 σ (fun r2 σ1 => w_X6_cellBehind b0 c0 σ1 (fun r4 σ3 => w_X7_near r2 r4 σ3 (fun r6 σ5 => (r6 = 0 ∨ r6 = 1) ∧ Q r6 σ5)))
set_option maxRecDepth 100000 in
set_option maxHeartbeats 4000000 in
theorem s_X6_together (sx : Nat × (Nat → Int32)) (a0 : Int32) (b0 : Int32) (c0 : Int32) (σ : Sg) (Q : Int32 → Sg → Prop) (h : w_X6_together a0 b0 c0 σ Q) : Ct mX6_together 3 false (0, 0) sx G0 [.ref 28, .int a0, .int b0, .int c0] σ (qI Q) := by
  refine Ct.of (L := [some (.ref 28), some (.int a0), some (.int b0), some (.int c0)]) (by decide) (Nat.le_of_ble_eq_true rfl) rfl ?_
  unfold w_X6_together at h
  refine X_aload_n dX6_together_0 rfl rfl ?_
  refine X_get (v := .ref 1) ck_X6 f_X6_18 g_28 rfl (fun _ => rfl) dX6_together_1 ?_
  refine X_aload_n dX6_together_4 rfl rfl ?_
  refine X_iload_n dX6_together_5 rfl rfl ?_
  refine X_iload_n dX6_together_6 rfl rfl ?_
  refine X_callVi [.int a0, .int c0] [.ref 1] c_X6_cellBehind v_X6_cellBehind lk_X6_53 dX6_together_7 g_28 rfl rfl rfl (by decide) (Nat.le_of_ble_eq_true rfl) rfl (s_X6_cellBehind sx a0 c0  σ _ h) (fun r2 σ1 h => ?_)
  refine X_aload_n dX6_together_10 rfl rfl ?_
  refine X_iload_n dX6_together_11 rfl rfl ?_
  refine X_iload_n dX6_together_12 rfl rfl ?_
  refine X_callVi [.int b0, .int c0] [.int r2, .ref 1] c_X6_cellBehind v_X6_cellBehind lk_X6_53 dX6_together_13 g_28 rfl rfl rfl (by decide) (Nat.le_of_ble_eq_true rfl) rfl (s_X6_cellBehind sx b0 c0  σ1 _ h) (fun r4 σ3 h => ?_)
  refine X_callVi [.int r2, .int r4] [] c_X7_near v_X7_near lk_X6_64 dX6_together_16 g_1 rfl rfl rfl (by decide) (Nat.le_of_ble_eq_true rfl) rfl (s_X7_near sx r2 r4  σ3 _ h) (fun r6 σ5 h => ?_)
  exact X_retz rfl (nzb h.1) dX6_together_19 h.2
def w_X6_firstMeeting_l2 (a0 : Int32) (b0 : Int32) (Q : Int32 → Sg → Prop) : Nat → Int32 → Sg → Prop
  | 0, _, _ => False
  | n2 + 1, x1, σ2 => if (60 : Int32) < x1 then (Q (-2 : Int32) σ2) else (w_X6_together a0 b0 x1 σ2 (fun r4 σ3 => if r4 = 0 then (w_X6_firstMeeting_l2 a0 b0 Q n2 (x1 + 1) σ3) else (Q x1 σ3)))
def w_X6_firstMeeting (a0 : Int32) (b0 : Int32) (σ : Sg) (Q : Int32 → Sg → Prop) : Prop := ∃ n, w_X6_firstMeeting_l2 a0 b0 Q n (0 : Int32) σ
set_option maxRecDepth 100000 in
set_option maxHeartbeats 4000000 in
theorem s_X6_firstMeeting (sx : Nat × (Nat → Int32)) (a0 : Int32) (b0 : Int32) (σ : Sg) (Q : Int32 → Sg → Prop) (h : w_X6_firstMeeting a0 b0 σ Q) : Ct mX6_firstMeeting 4 false (0, 0) sx G0 [.ref 28, .int a0, .int b0] σ (qI Q) := by
  refine Ct.of (L := [some (.ref 28), some (.int a0), some (.int b0), none]) (by decide) (Nat.le_of_ble_eq_true rfl) rfl ?_
  unfold w_X6_firstMeeting at h
  refine X_iconst (v := 0) dX6_firstMeeting_0 iconst_0 ?_
  refine X_istore_n (L' := [some (.ref 28), some (.int a0), some (.int b0), some (.int (0 : Int32))]) dX6_firstMeeting_1 rfl (by decide) rfl ?_
  obtain ⟨n2, h⟩ := h
  have key2 : ∀ (n : Nat) (x1 : Int32) (σ2 : Sg) , w_X6_firstMeeting_l2 a0 b0 Q n x1 σ2 → Ex mX6_firstMeeting 4 false (0, 0) sx G0 2 [some (.ref 28), some (.int a0), some (.int b0), some (.int x1)] [] σ2 (qI Q) := by
    intro n2
    induction n2 with
    | zero => intro _ _  h; exact h.elim
    | succ n2 ih2 =>
      intro x1 σ2  h
      unfold w_X6_firstMeeting_l2 at h
      refine X_iload_n dX6_firstMeeting_2 rfl rfl ?_
      refine X_bipush (v := 60) dX6_firstMeeting_3 bipush_60 ?_
      refine X_icmp_gt (tgt := 26) dX6_firstMeeting_5 (by decide) h (fun h => ?_) (fun h => ?_)
      · refine X_bipush (v := -2) dX6_firstMeeting_26 bipush_m2 ?_
        exact X_reti rfl dX6_firstMeeting_28 h
      · refine X_aload_n dX6_firstMeeting_8 rfl rfl ?_
        refine X_iload_n dX6_firstMeeting_9 rfl rfl ?_
        refine X_iload_n dX6_firstMeeting_10 rfl rfl ?_
        refine X_iload_n dX6_firstMeeting_11 rfl rfl ?_
        refine X_callVi [.int a0, .int b0, .int x1] [] c_X6_together v_X6_together lk_X6_68 dX6_firstMeeting_12 g_28 rfl rfl rfl (by decide) (Nat.le_of_ble_eq_true rfl) rfl (s_X6_together sx a0 b0 x1  σ2 _ h) (fun r4 σ3 h => ?_)
        refine X_if_eq (tgt := 20) dX6_firstMeeting_15 (by decide) h (fun h => ?_) (fun h => ?_)
        · refine X_iinc (v := (x1 + 1)) (L' := [some (.ref 28), some (.int a0), some (.int b0), some (.int (x1 + 1))]) dX6_firstMeeting_20 rfl rfl (by decide) rfl ?_
          refine X_goto (tgt := 2) dX6_firstMeeting_23 (by decide) ?_
          exact ih2 _ _  h
        · refine X_iload_n dX6_firstMeeting_18 rfl rfl ?_
          exact X_reti rfl dX6_firstMeeting_19 h
  exact key2 _ _ _  h
def w_X6_meetings_l6 (a0 : Int32) (b0 : Int32) (c0 : Int32) (Q : Int32 → Sg → Prop) : Nat → Int32 → Int32 → Sg → Prop
  | 0, _, _, _ => False
  | n6 + 1, x1, x2, σ3 => if c0 < x2 then (Q x1 σ3) else (w_X6_together a0 b0 x2 σ3 (fun r5 σ4 => bd (fun (x6 : Int32) (σ7 : Sg) => w_X6_meetings_l6 a0 b0 c0 Q n6 x6 (x2 + 1) σ7) fun J26 => if r5 = 0 then (J26 x1 σ4) else (J26 (x1 + 1) σ4)))
def w_X6_meetings (a0 : Int32) (b0 : Int32) (c0 : Int32) (σ : Sg) (Q : Int32 → Sg → Prop) : Prop := ∃ n, w_X6_meetings_l6 a0 b0 c0 Q n (0 : Int32) (0 : Int32) σ
set_option maxRecDepth 100000 in
set_option maxHeartbeats 4000000 in
theorem s_X6_meetings (sx : Nat × (Nat → Int32)) (a0 : Int32) (b0 : Int32) (c0 : Int32) (σ : Sg) (Q : Int32 → Sg → Prop) (h : w_X6_meetings a0 b0 c0 σ Q) : Ct mX6_meetings 4 false (0, 0) sx G0 [.ref 28, .int a0, .int b0, .int c0] σ (qI Q) := by
  refine Ct.of (L := [some (.ref 28), some (.int a0), some (.int b0), some (.int c0), none, none]) (by decide) (Nat.le_of_ble_eq_true rfl) rfl ?_
  unfold w_X6_meetings at h
  refine X_iconst (v := 0) dX6_meetings_0 iconst_0 ?_
  refine X_istore (L' := [some (.ref 28), some (.int a0), some (.int b0), some (.int c0), some (.int (0 : Int32)), none]) dX6_meetings_1 (by decide) rfl ?_
  refine X_iconst (v := 0) dX6_meetings_3 iconst_0 ?_
  refine X_istore (L' := [some (.ref 28), some (.int a0), some (.int b0), some (.int c0), some (.int (0 : Int32)), some (.int (0 : Int32))]) dX6_meetings_4 (by decide) rfl ?_
  obtain ⟨n6, h⟩ := h
  have key6 : ∀ (n : Nat) (x1 : Int32) (x2 : Int32) (σ3 : Sg) , w_X6_meetings_l6 a0 b0 c0 Q n x1 x2 σ3 → Ex mX6_meetings 4 false (0, 0) sx G0 6 [some (.ref 28), some (.int a0), some (.int b0), some (.int c0), some (.int x1), some (.int x2)] [] σ3 (qI Q) := by
    intro n6
    induction n6 with
    | zero => intro _ _ _  h; exact h.elim
    | succ n6 ih6 =>
      intro x1 x2 σ3  h
      unfold w_X6_meetings_l6 at h
      refine X_iload dX6_meetings_6 rfl ?_
      refine X_iload_n dX6_meetings_8 rfl rfl ?_
      refine X_icmp_gt (tgt := 32) dX6_meetings_9 (by decide) h (fun h => ?_) (fun h => ?_)
      · refine X_iload dX6_meetings_32 rfl ?_
        exact X_reti rfl dX6_meetings_34 h
      · refine X_aload_n dX6_meetings_12 rfl rfl ?_
        refine X_iload_n dX6_meetings_13 rfl rfl ?_
        refine X_iload_n dX6_meetings_14 rfl rfl ?_
        refine X_iload dX6_meetings_15 rfl ?_
        refine X_callVi [.int a0, .int b0, .int x2] [] c_X6_together v_X6_together lk_X6_68 dX6_meetings_17 g_28 rfl rfl rfl (by decide) (Nat.le_of_ble_eq_true rfl) rfl (s_X6_together sx a0 b0 x2  σ3 _ h) (fun r5 σ4 h => ?_)
        refine bd_j h (fun J26 e26 h => ?_)
        have j26 : ∀ (x6 : Int32) (σ7 : Sg) , J26 x6 σ7 → Ex mX6_meetings 4 false (0, 0) sx G0 26 [some (.ref 28), some (.int a0), some (.int b0), some (.int c0), some (.int x6), some (.int x2)] [] σ7 (qI Q) := by
          intro x6 σ7  h
          subst e26
          replace h := h
          refine X_iinc (v := (x2 + 1)) (L' := [some (.ref 28), some (.int a0), some (.int b0), some (.int c0), some (.int x6), some (.int (x2 + 1))]) dX6_meetings_26 rfl rfl (by decide) rfl ?_
          refine X_goto (tgt := 6) dX6_meetings_29 (by decide) ?_
          exact ih6 _ _ _  h
        refine X_if_eq (tgt := 26) dX6_meetings_20 (by decide) h (fun h => ?_) (fun h => ?_)
        · exact j26 _ _  h
        · refine X_iinc (v := (x1 + 1)) (L' := [some (.ref 28), some (.int a0), some (.int b0), some (.int c0), some (.int (x1 + 1)), some (.int x2)]) dX6_meetings_23 rfl rfl (by decide) rfl ?_
          exact j26 _ _  h
  exact key6 _ _ _ _  h
def w_X6_carriagesNear_l5 (a0 : Int32) (b0 : Int32) (Q : Int32 → Sg → Prop) : Nat → Int32 → Int32 → Sg → Prop
  | 0, _, _, _ => False
  | n5 + 1, x1, x2, σ3 => if (σ3.1 1 4) ≤ x2 then (Q x1 σ3) else (w_X6_cellBehind x2 b0 σ3 (fun r5 σ4 => w_X7_near r5 a0 σ4 (fun r7 σ6 => bd (fun (x8 : Int32) (σ9 : Sg) => w_X6_carriagesNear_l5 a0 b0 Q n5 x8 (x2 + 1) σ9) fun J42 => if r7 = 0 then (J42 x1 σ6) else (bd (x1 ||| ((1 : Int32) <<< (x2 &&& 31))) fun x10 => J42 x10 σ6))))
def w_X6_carriagesNear (a0 : Int32) (b0 : Int32) (σ : Sg) (Q : Int32 → Sg → Prop) : Prop := ∃ n, w_X6_carriagesNear_l5 a0 b0 Q n (0 : Int32) (0 : Int32) σ
set_option maxRecDepth 100000 in
set_option maxHeartbeats 4000000 in
theorem s_X6_carriagesNear (sx : Nat × (Nat → Int32)) (a0 : Int32) (b0 : Int32) (σ : Sg) (Q : Int32 → Sg → Prop) (h : w_X6_carriagesNear a0 b0 σ Q) : Ct mX6_carriagesNear 3 false (0, 0) sx G0 [.ref 28, .int a0, .int b0] σ (qI Q) := by
  refine Ct.of (L := [some (.ref 28), some (.int a0), some (.int b0), none, none]) (by decide) (Nat.le_of_ble_eq_true rfl) rfl ?_
  unfold w_X6_carriagesNear at h
  refine X_iconst (v := 0) dX6_carriagesNear_0 iconst_0 ?_
  refine X_istore_n (L' := [some (.ref 28), some (.int a0), some (.int b0), some (.int (0 : Int32)), none]) dX6_carriagesNear_1 rfl (by decide) rfl ?_
  refine X_iconst (v := 0) dX6_carriagesNear_2 iconst_0 ?_
  refine X_istore (L' := [some (.ref 28), some (.int a0), some (.int b0), some (.int (0 : Int32)), some (.int (0 : Int32))]) dX6_carriagesNear_3 (by decide) rfl ?_
  obtain ⟨n5, h⟩ := h
  have key5 : ∀ (n : Nat) (x1 : Int32) (x2 : Int32) (σ3 : Sg) , w_X6_carriagesNear_l5 a0 b0 Q n x1 x2 σ3 → Ex mX6_carriagesNear 3 false (0, 0) sx G0 5 [some (.ref 28), some (.int a0), some (.int b0), some (.int x1), some (.int x2)] [] σ3 (qI Q) := by
    intro n5
    induction n5 with
    | zero => intro _ _ _  h; exact h.elim
    | succ n5 ih5 =>
      intro x1 x2 σ3  h
      unfold w_X6_carriagesNear_l5 at h
      refine X_iload dX6_carriagesNear_5 rfl ?_
      refine X_aload_n dX6_carriagesNear_7 rfl rfl ?_
      refine X_get (v := .ref 1) ck_X6 f_X6_18 g_28 rfl (fun _ => rfl) dX6_carriagesNear_8 ?_
      refine X_get (v := .int (σ3.1 1 4)) ck_X7 f_X6_49 g_1 rfl (fun _ => rfl) dX6_carriagesNear_11 ?_
      refine X_icmp_ge (tgt := 48) dX6_carriagesNear_14 (by decide) h (fun h => ?_) (fun h => ?_)
      · refine X_iload_n dX6_carriagesNear_48 rfl rfl ?_
        exact X_reti rfl dX6_carriagesNear_49 h
      · refine X_aload_n dX6_carriagesNear_17 rfl rfl ?_
        refine X_get (v := .ref 1) ck_X6 f_X6_18 g_28 rfl (fun _ => rfl) dX6_carriagesNear_18 ?_
        refine X_aload_n dX6_carriagesNear_21 rfl rfl ?_
        refine X_iload dX6_carriagesNear_22 rfl ?_
        refine X_iload_n dX6_carriagesNear_24 rfl rfl ?_
        refine X_callVi [.int x2, .int b0] [.ref 1] c_X6_cellBehind v_X6_cellBehind lk_X6_53 dX6_carriagesNear_25 g_28 rfl rfl rfl (by decide) (Nat.le_of_ble_eq_true rfl) rfl (s_X6_cellBehind sx x2 b0  σ3 _ h) (fun r5 σ4 h => ?_)
        refine X_iload_n dX6_carriagesNear_28 rfl rfl ?_
        refine X_callVi [.int r5, .int a0] [] c_X7_near v_X7_near lk_X6_64 dX6_carriagesNear_29 g_1 rfl rfl rfl (by decide) (Nat.le_of_ble_eq_true rfl) rfl (s_X7_near sx r5 a0  σ4 _ h) (fun r7 σ6 h => ?_)
        refine bd_j h (fun J42 e42 h => ?_)
        have j42 : ∀ (x8 : Int32) (σ9 : Sg) , J42 x8 σ9 → Ex mX6_carriagesNear 3 false (0, 0) sx G0 42 [some (.ref 28), some (.int a0), some (.int b0), some (.int x8), some (.int x2)] [] σ9 (qI Q) := by
          intro x8 σ9  h
          subst e42
          replace h := h
          refine X_iinc (v := (x2 + 1)) (L' := [some (.ref 28), some (.int a0), some (.int b0), some (.int x8), some (.int (x2 + 1))]) dX6_carriagesNear_42 rfl rfl (by decide) rfl ?_
          refine X_goto (tgt := 5) dX6_carriagesNear_45 (by decide) ?_
          exact ih5 _ _ _  h
        refine X_if_eq (tgt := 42) dX6_carriagesNear_32 (by decide) h (fun h => ?_) (fun h => ?_)
        · exact j42 _ _  h
        · refine X_iload_n dX6_carriagesNear_35 rfl rfl ?_
          refine X_iconst (v := 1) dX6_carriagesNear_36 iconst_1 ?_
          refine X_iload dX6_carriagesNear_37 rfl ?_
          refine X_ishl dX6_carriagesNear_39 ?_
          refine X_ior dX6_carriagesNear_40 ?_
          refine X_topI h (fun x10 h => ?_)
          refine X_istore_n (L' := [some (.ref 28), some (.int a0), some (.int b0), some (.int x10), some (.int x2)]) dX6_carriagesNear_41 rfl (by decide) rfl ?_
          exact j42 _ _  h
  exact key5 _ _ _ _  h
def w_X6_withChanges_l18 (b0 : Int32) (x1 : Int32) (J62 : Int32 → Sg → Prop) : Nat → Int32 → Int32 → Sg → Prop
  | 0, _, _, _ => False
  | n18 + 1, x6, x7, σ8 => if (σ8.1 1 4) ≤ x7 then (J62 x6 σ8) else (bd (fun (x9 : Int32) (σ10 : Sg) => w_X6_withChanges_l18 b0 x1 J62 n18 x9 (x7 + 1) σ10) fun J56 => if ((x1 >>> (x7 &&& 31)) &&& (1 : Int32)) = (1 : Int32) then (w_X6_cellBehind x7 b0 σ8 (fun r12 σ11 => w_X6_carriagesNear r12 b0 σ11 (fun r14 σ13 => bd (x6 ||| r14) fun x15 => J56 x15 σ13))) else (J56 x6 σ8))
def w_X6_withChanges_l5 (b0 : Int32) (Q : Int32 → Sg → Prop) : Nat → Int32 → Int32 → Sg → Prop
  | 0, _, _, _ => False
  | n5 + 1, x1, x2, σ3 => if (6 : Int32) ≤ x2 then (Q x1 σ3) else (bd (fun (x4 : Int32) (σ5 : Sg) => if x4 = x1 then (Q x4 σ5) else (w_X6_withChanges_l5 b0 Q n5 x4 (x2 + 1) σ5)) fun J62 => ∃ n, w_X6_withChanges_l18 b0 x1 J62 n x1 (0 : Int32) σ3)
def w_X6_withChanges (a0 : Int32) (b0 : Int32) (σ : Sg) (Q : Int32 → Sg → Prop) : Prop := ∃ n, w_X6_withChanges_l5 b0 Q n a0 (1 : Int32) σ
set_option maxRecDepth 100000 in
set_option maxHeartbeats 4000000 in
theorem s_X6_withChanges (sx : Nat × (Nat → Int32)) (a0 : Int32) (b0 : Int32) (σ : Sg) (Q : Int32 → Sg → Prop) (h : w_X6_withChanges a0 b0 σ Q) : Ct mX6_withChanges 4 false (0, 0) sx G0 [.ref 28, .int a0, .int b0] σ (qI Q) := by
  refine Ct.of (L := [some (.ref 28), some (.int a0), some (.int b0), none, none, none, none]) (by decide) (Nat.le_of_ble_eq_true rfl) rfl ?_
  unfold w_X6_withChanges at h
  refine X_iload_n dX6_withChanges_0 rfl rfl ?_
  refine X_istore_n (L' := [some (.ref 28), some (.int a0), some (.int b0), some (.int a0), none, none, none]) dX6_withChanges_1 rfl (by decide) rfl ?_
  refine X_iconst (v := 1) dX6_withChanges_2 iconst_1 ?_
  refine X_istore (L' := [some (.ref 28), some (.int a0), some (.int b0), some (.int a0), some (.int (1 : Int32)), none, none]) dX6_withChanges_3 (by decide) rfl ?_
  obtain ⟨n5, h⟩ := h
  have key5 : ∀ (n : Nat) (x1 : Int32) (x2 : Int32) (σ3 : Sg) , w_X6_withChanges_l5 b0 Q n x1 x2 σ3 → Ex mX6_withChanges 4 false (0, 0) sx G0 5 [some (.ref 28), none, some (.int b0), some (.int x1), some (.int x2), none, none] [] σ3 (qI Q) := by
    intro n5
    induction n5 with
    | zero => intro _ _ _  h; exact h.elim
    | succ n5 ih5 =>
      intro x1 x2 σ3  h
      unfold w_X6_withChanges_l5 at h
      refine X_iload dX6_withChanges_5 rfl ?_
      refine X_bipush (v := 6) dX6_withChanges_7 bipush_6 ?_
      refine X_icmp_ge (tgt := 76) dX6_withChanges_9 (by decide) h (fun h => ?_) (fun h => ?_)
      · refine X_iload_n dX6_withChanges_76 rfl rfl ?_
        exact X_reti rfl dX6_withChanges_77 h
      · refine X_iload_n dX6_withChanges_12 rfl rfl ?_
        refine X_istore (L' := [some (.ref 28), none, some (.int b0), some (.int x1), some (.int x2), some (.int x1), none]) dX6_withChanges_13 (by decide) rfl ?_
        refine X_iconst (v := 0) dX6_withChanges_15 iconst_0 ?_
        refine X_istore (L' := [some (.ref 28), none, some (.int b0), some (.int x1), some (.int x2), some (.int x1), some (.int (0 : Int32))]) dX6_withChanges_16 (by decide) rfl ?_
        refine bd_j h (fun J62 e62 h => ?_)
        have j62 : ∀ (x4 : Int32) (σ5 : Sg) , J62 x4 σ5 → Ex mX6_withChanges 4 false (0, 0) sx G0 62 [some (.ref 28), none, some (.int b0), some (.int x4), some (.int x2), some (.int x1), none] [] σ5 (qI Q) := by
          intro x4 σ5  h
          subst e62
          replace h := h
          refine X_iload_n dX6_withChanges_62 rfl rfl ?_
          refine X_iload dX6_withChanges_63 rfl ?_
          refine X_icmp_ne (tgt := 70) dX6_withChanges_65 (by decide) h (fun h => ?_) (fun h => ?_)
          · refine X_iinc (v := (x2 + 1)) (L' := [some (.ref 28), none, some (.int b0), some (.int x4), some (.int (x2 + 1)), some (.int x1), none]) dX6_withChanges_70 rfl rfl (by decide) rfl ?_
            refine X_goto (tgt := 5) dX6_withChanges_73 (by decide) ?_
            refine X_drop (L' := [some (.ref 28), none, some (.int b0), some (.int x4), some (.int (x2 + 1)), none, none]) ⟨rfl, ⟨rfl, ⟨rfl, ⟨rfl, trivial⟩⟩⟩⟩ ?_
            exact ih5 _ _ _  h
          · refine X_iload_n dX6_withChanges_68 rfl rfl ?_
            exact X_reti rfl dX6_withChanges_69 h
        obtain ⟨n18, h⟩ := h
        have key18 : ∀ (n : Nat) (x6 : Int32) (x7 : Int32) (σ8 : Sg) , w_X6_withChanges_l18 b0 x1 J62 n x6 x7 σ8 → Ex mX6_withChanges 4 false (0, 0) sx G0 18 [some (.ref 28), none, some (.int b0), some (.int x6), some (.int x2), some (.int x1), some (.int x7)] [] σ8 (qI Q) := by
          intro n18
          induction n18 with
          | zero => intro _ _ _  h; exact h.elim
          | succ n18 ih18 =>
            intro x6 x7 σ8  h
            unfold w_X6_withChanges_l18 at h
            refine X_iload dX6_withChanges_18 rfl ?_
            refine X_aload_n dX6_withChanges_20 rfl rfl ?_
            refine X_get (v := .ref 1) ck_X6 f_X6_18 g_28 rfl (fun _ => rfl) dX6_withChanges_21 ?_
            refine X_get (v := .int (σ8.1 1 4)) ck_X7 f_X6_49 g_1 rfl (fun _ => rfl) dX6_withChanges_24 ?_
            refine X_icmp_ge (tgt := 62) dX6_withChanges_27 (by decide) h (fun h => ?_) (fun h => ?_)
            · refine X_drop (L' := [some (.ref 28), none, some (.int b0), some (.int x6), some (.int x2), some (.int x1), none]) ⟨rfl, ⟨rfl, ⟨rfl, ⟨rfl, ⟨rfl, trivial⟩⟩⟩⟩⟩ ?_
              exact j62 _ _  h
            · refine X_iload dX6_withChanges_30 rfl ?_
              refine X_iload dX6_withChanges_32 rfl ?_
              refine X_ishr dX6_withChanges_34 ?_
              refine X_iconst (v := 1) dX6_withChanges_35 iconst_1 ?_
              refine X_iand dX6_withChanges_36 ?_
              refine X_iconst (v := 1) dX6_withChanges_37 iconst_1 ?_
              refine bd_j h (fun J56 e56 h => ?_)
              have j56 : ∀ (x9 : Int32) (σ10 : Sg) , J56 x9 σ10 → Ex mX6_withChanges 4 false (0, 0) sx G0 56 [some (.ref 28), none, some (.int b0), some (.int x9), some (.int x2), some (.int x1), some (.int x7)] [] σ10 (qI Q) := by
                intro x9 σ10  h
                subst e56
                replace h := h
                refine X_iinc (v := (x7 + 1)) (L' := [some (.ref 28), none, some (.int b0), some (.int x9), some (.int x2), some (.int x1), some (.int (x7 + 1))]) dX6_withChanges_56 rfl rfl (by decide) rfl ?_
                refine X_goto (tgt := 18) dX6_withChanges_59 (by decide) ?_
                exact ih18 _ _ _  h
              refine X_icmp_ne (tgt := 56) dX6_withChanges_38 (by decide) h (fun h => ?_) (fun h => ?_)
              · exact j56 _ _  h
              · refine X_iload_n dX6_withChanges_41 rfl rfl ?_
                refine X_aload_n dX6_withChanges_42 rfl rfl ?_
                refine X_aload_n dX6_withChanges_43 rfl rfl ?_
                refine X_iload dX6_withChanges_44 rfl ?_
                refine X_iload_n dX6_withChanges_46 rfl rfl ?_
                refine X_callVi [.int x7, .int b0] [.ref 28, .int x6] c_X6_cellBehind v_X6_cellBehind lk_X6_53 dX6_withChanges_47 g_28 rfl rfl rfl (by decide) (Nat.le_of_ble_eq_true rfl) rfl (s_X6_cellBehind sx x7 b0  σ8 _ h) (fun r12 σ11 h => ?_)
                refine X_iload_n dX6_withChanges_50 rfl rfl ?_
                refine X_callVi [.int r12, .int b0] [.int x6] c_X6_carriagesNear v_X6_carriagesNear lk_X6_72 dX6_withChanges_51 g_28 rfl rfl rfl (by decide) (Nat.le_of_ble_eq_true rfl) rfl (s_X6_carriagesNear sx r12 b0  σ11 _ h) (fun r14 σ13 h => ?_)
                refine X_ior dX6_withChanges_54 ?_
                refine X_topI h (fun x15 h => ?_)
                refine X_istore_n (L' := [some (.ref 28), none, some (.int b0), some (.int x15), some (.int x2), some (.int x1), some (.int x7)]) dX6_withChanges_55 rfl (by decide) rfl ?_
                exact j56 _ _  h
        exact key18 _ _ _ _  h
  refine X_drop (L' := [some (.ref 28), none, some (.int b0), some (.int a0), some (.int (1 : Int32)), none, none]) ⟨rfl, ⟨rfl, ⟨rfl, ⟨rfl, trivial⟩⟩⟩⟩ ?_
  exact key5 _ _ _ _  h
def w_X6_soonestBetween_l6 (a0 : Int32) (b0 : Int32) (Q : Int32 → Sg → Prop) (J44 : Int32 → Int32 → Sg → Prop) : Nat → Int32 → Int32 → Sg → Prop
  | 0, _, _, _ => False
  | n6 + 1, x4, x5, σ6 => if (60 : Int32) < x5 then (Q (-2 : Int32) σ6) else (w_X6_carriagesNear a0 x5 σ6 (fun r8 σ7 => w_X6_withChanges (x4 ||| r8) x5 σ7 (fun r10 σ9 => w_X6_carriagesNear b0 x5 σ9 (fun r12 σ11 => if (r10 &&& r12) = 0 then (w_X6_soonestBetween_l6 a0 b0 Q J44 n6 r10 (x5 + 1) σ11) else (J44 r10 x5 σ11)))))
def w_X6_soonestBetween (a0 : Int32) (b0 : Int32) (c0 : Int32) (σ : Sg) (Q : Int32 → Sg → Prop) : Prop := bd (fun (x1 : Int32) (x2 : Int32) (σ3 : Sg) => if c0 = 0 then (Q x2 σ3) else (Q x1 σ3)) fun J44 => ∃ n, w_X6_soonestBetween_l6 a0 b0 Q J44 n (0 : Int32) (0 : Int32) σ
set_option maxRecDepth 100000 in
set_option maxHeartbeats 4000000 in
theorem s_X6_soonestBetween (sx : Nat × (Nat → Int32)) (a0 : Int32) (b0 : Int32) (c0 : Int32) (σ : Sg) (Q : Int32 → Sg → Prop) (h : w_X6_soonestBetween a0 b0 c0 σ Q) : Ct mX6_soonestBetween 5 false (0, 0) sx G0 [.ref 28, .int a0, .int b0, .int c0] σ (qI Q) := by
  refine Ct.of (L := [some (.ref 28), some (.int a0), some (.int b0), some (.int c0), none, none]) (by decide) (Nat.le_of_ble_eq_true rfl) rfl ?_
  unfold w_X6_soonestBetween at h
  refine X_iconst (v := 0) dX6_soonestBetween_0 iconst_0 ?_
  refine X_istore (L' := [some (.ref 28), some (.int a0), some (.int b0), some (.int c0), some (.int (0 : Int32)), none]) dX6_soonestBetween_1 (by decide) rfl ?_
  refine X_iconst (v := 0) dX6_soonestBetween_3 iconst_0 ?_
  refine X_istore (L' := [some (.ref 28), some (.int a0), some (.int b0), some (.int c0), some (.int (0 : Int32)), some (.int (0 : Int32))]) dX6_soonestBetween_4 (by decide) rfl ?_
  refine bd_j h (fun J44 e44 h => ?_)
  have j44 : ∀ (x1 : Int32) (x2 : Int32) (σ3 : Sg) , J44 x1 x2 σ3 → Ex mX6_soonestBetween 5 false (0, 0) sx G0 44 [none, none, none, some (.int c0), some (.int x1), some (.int x2)] [] σ3 (qI Q) := by
    intro x1 x2 σ3  h
    subst e44
    replace h := h
    refine X_iload_n dX6_soonestBetween_44 rfl rfl ?_
    refine X_if_eq (tgt := 53) dX6_soonestBetween_45 (by decide) h (fun h => ?_) (fun h => ?_)
    · refine X_iload dX6_soonestBetween_53 rfl ?_
      exact X_reti rfl dX6_soonestBetween_55 h
    · refine X_iload dX6_soonestBetween_48 rfl ?_
      refine X_goto (tgt := 55) dX6_soonestBetween_50 (by decide) ?_
      exact X_reti rfl dX6_soonestBetween_55 h
  obtain ⟨n6, h⟩ := h
  have key6 : ∀ (n : Nat) (x4 : Int32) (x5 : Int32) (σ6 : Sg) , w_X6_soonestBetween_l6 a0 b0 Q J44 n x4 x5 σ6 → Ex mX6_soonestBetween 5 false (0, 0) sx G0 6 [some (.ref 28), some (.int a0), some (.int b0), some (.int c0), some (.int x4), some (.int x5)] [] σ6 (qI Q) := by
    intro n6
    induction n6 with
    | zero => intro _ _ _  h; exact h.elim
    | succ n6 ih6 =>
      intro x4 x5 σ6  h
      unfold w_X6_soonestBetween_l6 at h
      refine X_iload dX6_soonestBetween_6 rfl ?_
      refine X_bipush (v := 60) dX6_soonestBetween_8 bipush_60 ?_
      refine X_icmp_gt (tgt := 62) dX6_soonestBetween_10 (by decide) h (fun h => ?_) (fun h => ?_)
      · refine X_bipush (v := -2) dX6_soonestBetween_62 bipush_m2 ?_
        exact X_reti rfl dX6_soonestBetween_64 h
      · refine X_aload_n dX6_soonestBetween_13 rfl rfl ?_
        refine X_iload dX6_soonestBetween_14 rfl ?_
        refine X_aload_n dX6_soonestBetween_16 rfl rfl ?_
        refine X_iload_n dX6_soonestBetween_17 rfl rfl ?_
        refine X_iload dX6_soonestBetween_18 rfl ?_
        refine X_callVi [.int a0, .int x5] [.int x4, .ref 28] c_X6_carriagesNear v_X6_carriagesNear lk_X6_72 dX6_soonestBetween_20 g_28 rfl rfl rfl (by decide) (Nat.le_of_ble_eq_true rfl) rfl (s_X6_carriagesNear sx a0 x5  σ6 _ h) (fun r8 σ7 h => ?_)
        refine X_ior dX6_soonestBetween_23 ?_
        refine X_iload dX6_soonestBetween_24 rfl ?_
        refine X_callVi [.int (x4 ||| r8), .int x5] [] c_X6_withChanges v_X6_withChanges lk_X6_75 dX6_soonestBetween_26 g_28 rfl rfl rfl (by decide) (Nat.le_of_ble_eq_true rfl) rfl (s_X6_withChanges sx (x4 ||| r8) x5  σ7 _ h) (fun r10 σ9 h => ?_)
        refine X_istore (L' := [some (.ref 28), some (.int a0), some (.int b0), some (.int c0), some (.int r10), some (.int x5)]) dX6_soonestBetween_29 (by decide) rfl ?_
        refine X_iload dX6_soonestBetween_31 rfl ?_
        refine X_aload_n dX6_soonestBetween_33 rfl rfl ?_
        refine X_iload_n dX6_soonestBetween_34 rfl rfl ?_
        refine X_iload dX6_soonestBetween_35 rfl ?_
        refine X_callVi [.int b0, .int x5] [.int r10] c_X6_carriagesNear v_X6_carriagesNear lk_X6_72 dX6_soonestBetween_37 g_28 rfl rfl rfl (by decide) (Nat.le_of_ble_eq_true rfl) rfl (s_X6_carriagesNear sx b0 x5  σ9 _ h) (fun r12 σ11 h => ?_)
        refine X_iand dX6_soonestBetween_40 ?_
        refine X_if_eq (tgt := 56) dX6_soonestBetween_41 (by decide) h (fun h => ?_) (fun h => ?_)
        · refine X_iinc (v := (x5 + 1)) (L' := [some (.ref 28), some (.int a0), some (.int b0), some (.int c0), some (.int r10), some (.int (x5 + 1))]) dX6_soonestBetween_56 rfl rfl (by decide) rfl ?_
          refine X_goto (tgt := 6) dX6_soonestBetween_59 (by decide) ?_
          exact ih6 _ _ _  h
        · refine X_drop (L' := [none, none, none, some (.int c0), some (.int r10), some (.int x5)]) ⟨rfl, ⟨rfl, ⟨rfl, trivial⟩⟩⟩ ?_
          exact j44 _ _ _  h
  exact key6 _ _ _ _  h
def w_X6_passersOf_l4 (a0 : Int32) (Q : Int32 → Sg → Prop) : Nat → Int32 → Int32 → Sg → Prop
  | 0, _, _, _ => False
  | n4 + 1, x1, x2, σ3 => if (σ3.1 1 7) ≤ x2 then (Q x1 σ3) else (bd (fun (x4 : Int32) (σ5 : Sg) => w_X6_passersOf_l4 a0 Q n4 x4 (x2 + 1) σ5) fun J33 => if ((a0 >>> (x2 &&& 31)) &&& (1 : Int32)) = (1 : Int32) then (vp_in x2 8 ∧ bd (x1 ||| (σ3.1 30 (Int32.toNatClampNeg x2))) fun x6 => J33 x6 σ3) else (J33 x1 σ3))
def w_X6_passersOf (a0 : Int32) (σ : Sg) (Q : Int32 → Sg → Prop) : Prop := ∃ n, w_X6_passersOf_l4 a0 Q n (0 : Int32) (0 : Int32) σ
set_option maxRecDepth 100000 in
set_option maxHeartbeats 4000000 in
theorem s_X6_passersOf (sx : Nat × (Nat → Int32)) (a0 : Int32) (σ : Sg) (Q : Int32 → Sg → Prop) (h : w_X6_passersOf a0 σ Q) : Ct mX6_passersOf 0 false (0, 0) sx G0 [.ref 28, .int a0] σ (qI Q) := by
  refine Ct.of (L := [some (.ref 28), some (.int a0), none, none]) (by decide) (Nat.le_of_ble_eq_true rfl) rfl ?_
  unfold w_X6_passersOf at h
  refine X_iconst (v := 0) dX6_passersOf_0 iconst_0 ?_
  refine X_istore_n (L' := [some (.ref 28), some (.int a0), some (.int (0 : Int32)), none]) dX6_passersOf_1 rfl (by decide) rfl ?_
  refine X_iconst (v := 0) dX6_passersOf_2 iconst_0 ?_
  refine X_istore_n (L' := [some (.ref 28), some (.int a0), some (.int (0 : Int32)), some (.int (0 : Int32))]) dX6_passersOf_3 rfl (by decide) rfl ?_
  obtain ⟨n4, h⟩ := h
  have key4 : ∀ (n : Nat) (x1 : Int32) (x2 : Int32) (σ3 : Sg) , w_X6_passersOf_l4 a0 Q n x1 x2 σ3 → Ex mX6_passersOf 0 false (0, 0) sx G0 4 [some (.ref 28), some (.int a0), some (.int x1), some (.int x2)] [] σ3 (qI Q) := by
    intro n4
    induction n4 with
    | zero => intro _ _ _  h; exact h.elim
    | succ n4 ih4 =>
      intro x1 x2 σ3  h
      unfold w_X6_passersOf_l4 at h
      refine X_iload_n dX6_passersOf_4 rfl rfl ?_
      refine X_aload_n dX6_passersOf_5 rfl rfl ?_
      refine X_get (v := .ref 1) ck_X6 f_X6_18 g_28 rfl (fun _ => rfl) dX6_passersOf_6 ?_
      refine X_get (v := .int (σ3.1 1 7)) ck_X7 f_X6_81 g_1 rfl (fun _ => rfl) dX6_passersOf_9 ?_
      refine X_icmp_ge (tgt := 39) dX6_passersOf_12 (by decide) h (fun h => ?_) (fun h => ?_)
      · refine X_iload_n dX6_passersOf_39 rfl rfl ?_
        exact X_reti rfl dX6_passersOf_40 h
      · refine X_iload_n dX6_passersOf_15 rfl rfl ?_
        refine X_iload_n dX6_passersOf_16 rfl rfl ?_
        refine X_ishr dX6_passersOf_17 ?_
        refine X_iconst (v := 1) dX6_passersOf_18 iconst_1 ?_
        refine X_iand dX6_passersOf_19 ?_
        refine X_iconst (v := 1) dX6_passersOf_20 iconst_1 ?_
        refine bd_j h (fun J33 e33 h => ?_)
        have j33 : ∀ (x4 : Int32) (σ5 : Sg) , J33 x4 σ5 → Ex mX6_passersOf 0 false (0, 0) sx G0 33 [some (.ref 28), some (.int a0), some (.int x4), some (.int x2)] [] σ5 (qI Q) := by
          intro x4 σ5  h
          subst e33
          replace h := h
          refine X_iinc (v := (x2 + 1)) (L' := [some (.ref 28), some (.int a0), some (.int x4), some (.int (x2 + 1))]) dX6_passersOf_33 rfl rfl (by decide) rfl ?_
          refine X_goto (tgt := 4) dX6_passersOf_36 (by decide) ?_
          exact ih4 _ _ _  h
        refine X_icmp_ne (tgt := 33) dX6_passersOf_21 (by decide) h (fun h => ?_) (fun h => ?_)
        · exact j33 _ _  h
        · refine X_iload_n dX6_passersOf_24 rfl rfl ?_
          refine X_aload_n dX6_passersOf_25 rfl rfl ?_
          refine X_get (v := .ref 30) ck_X6 f_X6_15 g_28 rfl (fun _ => rfl) dX6_passersOf_26 ?_
          refine X_iload_n dX6_passersOf_29 rfl rfl ?_
          refine X_iald g_30 dX6_passersOf_30 h (fun h => ?_)
          refine X_ior dX6_passersOf_31 ?_
          refine X_topI h (fun x6 h => ?_)
          refine X_istore_n (L' := [some (.ref 28), some (.int a0), some (.int x6), some (.int x2)]) dX6_passersOf_32 rfl (by decide) rfl ?_
          exact j33 _ _  h
  exact key4 _ _ _ _  h
def w_X6_betterHouses (a0 : Int32) (b0 : Int32) (σ : Sg) (Q : Int32 → Sg → Prop) : Prop := w_X6_passersOf a0 σ (fun r2 σ1 => w_J6_bitCount_0f7a4 r2 σ1 (fun r4 σ3 => w_X6_passersOf b0 σ3 (fun r6 σ5 => w_J6_bitCount_0f7a4 r6 σ5 (fun r8 σ7 => bd (r4 - r8) fun x9 => if 0 < x9 then (Q (1 : Int32) σ7) else (if x9 = 0 then (w_J6_bitCount_0f7a4 a0 σ7 (fun r11 σ10 => w_J6_bitCount_0f7a4 b0 σ10 (fun r13 σ12 => if r13 ≤ r11 then (Q (0 : Int32) σ12) else (Q (1 : Int32) σ12)))) else (Q (0 : Int32) σ7))))))
set_option maxRecDepth 100000 in
set_option maxHeartbeats 4000000 in
theorem s_X6_betterHouses (sx : Nat × (Nat → Int32)) (a0 : Int32) (b0 : Int32) (σ : Sg) (Q : Int32 → Sg → Prop) (h : w_X6_betterHouses a0 b0 σ Q) : Ct mX6_betterHouses 1 false (0, 0) sx G0 [.ref 28, .int a0, .int b0] σ (qI Q) := by
  refine Ct.of (L := [some (.ref 28), some (.int a0), some (.int b0), none]) (by decide) (Nat.le_of_ble_eq_true rfl) rfl ?_
  unfold w_X6_betterHouses at h
  refine X_aload_n dX6_betterHouses_0 rfl rfl ?_
  refine X_iload_n dX6_betterHouses_1 rfl rfl ?_
  refine X_callVi [.int a0] [] c_X6_passersOf v_X6_passersOf lk_X6_101 dX6_betterHouses_2 g_28 rfl rfl rfl (by decide) (Nat.le_of_ble_eq_true rfl) rfl (s_X6_passersOf sx a0  σ _ h) (fun r2 σ1 h => ?_)
  refine X_callSi [.int r2] [] c_J6_bitCount_0f7a4 t_J6_bitCount_0f7a4 lk_X6_84 dX6_betterHouses_5 rfl (by decide) (Nat.le_of_ble_eq_true rfl) rfl (s_J6_bitCount_0f7a4 sx r2  σ1 _ h) (fun r4 σ3 h => ?_)
  refine X_aload_n dX6_betterHouses_8 rfl rfl ?_
  refine X_iload_n dX6_betterHouses_9 rfl rfl ?_
  refine X_callVi [.int b0] [.int r4] c_X6_passersOf v_X6_passersOf lk_X6_101 dX6_betterHouses_10 g_28 rfl rfl rfl (by decide) (Nat.le_of_ble_eq_true rfl) rfl (s_X6_passersOf sx b0  σ3 _ h) (fun r6 σ5 h => ?_)
  refine X_callSi [.int r6] [.int r4] c_J6_bitCount_0f7a4 t_J6_bitCount_0f7a4 lk_X6_84 dX6_betterHouses_13 rfl (by decide) (Nat.le_of_ble_eq_true rfl) rfl (s_J6_bitCount_0f7a4 sx r6  σ5 _ h) (fun r8 σ7 h => ?_)
  refine X_isub dX6_betterHouses_16 ?_
  refine X_topI h (fun x9 h => ?_)
  refine X_istore_n (L' := [some (.ref 28), some (.int a0), some (.int b0), some (.int x9)]) dX6_betterHouses_17 rfl (by decide) rfl ?_
  refine X_iload_n dX6_betterHouses_18 rfl rfl ?_
  refine X_if_gt (tgt := 37) dX6_betterHouses_19 (by decide) h (fun h => ?_) (fun h => ?_)
  · refine X_iconst (v := 1) dX6_betterHouses_37 iconst_1 ?_
    refine X_goto (tgt := 42) dX6_betterHouses_38 (by decide) ?_
    exact X_retz rfl rfl dX6_betterHouses_42 h
  · refine X_iload_n dX6_betterHouses_22 rfl rfl ?_
    refine X_if_ne (tgt := 41) dX6_betterHouses_23 (by decide) h (fun h => ?_) (fun h => ?_)
    · refine X_iconst (v := 0) dX6_betterHouses_41 iconst_0 ?_
      exact X_retz rfl rfl dX6_betterHouses_42 h
    · refine X_iload_n dX6_betterHouses_26 rfl rfl ?_
      refine X_callSi [.int a0] [] c_J6_bitCount_0f7a4 t_J6_bitCount_0f7a4 lk_X6_84 dX6_betterHouses_27 rfl (by decide) (Nat.le_of_ble_eq_true rfl) rfl (s_J6_bitCount_0f7a4 sx a0  σ7 _ h) (fun r11 σ10 h => ?_)
      refine X_iload_n dX6_betterHouses_30 rfl rfl ?_
      refine X_callSi [.int b0] [.int r11] c_J6_bitCount_0f7a4 t_J6_bitCount_0f7a4 lk_X6_84 dX6_betterHouses_31 rfl (by decide) (Nat.le_of_ble_eq_true rfl) rfl (s_J6_bitCount_0f7a4 sx b0  σ10 _ h) (fun r13 σ12 h => ?_)
      refine X_icmp_ge (tgt := 41) dX6_betterHouses_34 (by decide) h (fun h => ?_) (fun h => ?_)
      · refine X_iconst (v := 0) dX6_betterHouses_41 iconst_0 ?_
        exact X_retz rfl rfl dX6_betterHouses_42 h
      · refine X_iconst (v := 1) dX6_betterHouses_37 iconst_1 ?_
        refine X_goto (tgt := 42) dX6_betterHouses_38 (by decide) ?_
        exact X_retz rfl rfl dX6_betterHouses_42 h
def w_X6_findPassers_l31 (x2 : Int32) (r5 : Int32) (J67 : Sg → Prop) : Nat → Int32 → Sg → Prop
  | 0, _, _ => False
  | n31 + 1, x7, σ8 => if (σ8.1 1 7) ≤ x7 then (J67 σ8) else (vp_in x7 8 ∧ vp_in x7 8 ∧ bd (sI σ8 30 (Int32.toNatClampNeg x7) ((σ8.1 30 (Int32.toNatClampNeg x7)) ||| (((r5 >>> (x7 &&& 31)) &&& (1 : Int32)) <<< (x2 &&& 31)))) fun σ9 => w_X6_findPassers_l31 x2 r5 J67 n31 (x7 + 1) σ9)
def w_X6_findPassers_l10 (a0 : Int32) (Q : Sg → Prop) : Nat → Int32 → Sg → Prop
  | 0, _, _ => False
  | n10 + 1, x2, σ3 => if (σ3.1 1 4) ≤ x2 then (Q σ3) else (w_X6_placesPassed x2 a0 σ3 (fun r5 σ4 => bd (fun (σ6 : Sg) => w_X6_findPassers_l10 a0 Q n10 (x2 + 1) σ6) fun J67 => ∃ n, w_X6_findPassers_l31 x2 r5 J67 n (0 : Int32) σ4))
def w_X6_findPassers (a0 : Int32) (σ : Sg) (Q : Sg → Prop) : Prop := w_J7_fill_53178 30 8 (0 : Int32) σ (fun  σ1 => ∃ n, w_X6_findPassers_l10 a0 Q n (0 : Int32) σ1)
set_option maxRecDepth 100000 in
set_option maxHeartbeats 4000000 in
theorem s_X6_findPassers (sx : Nat × (Nat → Int32)) (a0 : Int32) (σ : Sg) (Q : Sg → Prop) (h : w_X6_findPassers a0 σ Q) : Ct mX6_findPassers 5 false (0, 0) sx G0 [.ref 28, .int a0] σ (qV Q) := by
  refine Ct.of (L := [some (.ref 28), some (.int a0), none, none, none]) (by decide) (Nat.le_of_ble_eq_true rfl) rfl ?_
  unfold w_X6_findPassers at h
  refine X_aload_n dX6_findPassers_0 rfl rfl ?_
  refine X_get (v := .ref 30) ck_X6 f_X6_15 g_28 rfl (fun _ => rfl) dX6_findPassers_1 ?_
  refine X_iconst (v := 0) dX6_findPassers_4 iconst_0 ?_
  refine X_callSv [.ref 30, .int (0 : Int32)] [] c_J7_fill_53178 t_J7_fill_53178 lk_X6_92 dX6_findPassers_5 rfl (by decide) (Nat.le_of_ble_eq_true rfl) rfl (s_J7_fill_53178 sx 30 8 (0 : Int32) g_30 σ _ h) (fun  σ1 h => ?_)
  refine X_iconst (v := 0) dX6_findPassers_8 iconst_0 ?_
  refine X_istore_n (L' := [some (.ref 28), some (.int a0), some (.int (0 : Int32)), none, none]) dX6_findPassers_9 rfl (by decide) rfl ?_
  obtain ⟨n10, h⟩ := h
  have key10 : ∀ (n : Nat) (x2 : Int32) (σ3 : Sg) , w_X6_findPassers_l10 a0 Q n x2 σ3 → Ex mX6_findPassers 5 false (0, 0) sx G0 10 [some (.ref 28), some (.int a0), some (.int x2), none, none] [] σ3 (qV Q) := by
    intro n10
    induction n10 with
    | zero => intro _ _  h; exact h.elim
    | succ n10 ih10 =>
      intro x2 σ3  h
      unfold w_X6_findPassers_l10 at h
      refine X_iload_n dX6_findPassers_10 rfl rfl ?_
      refine X_aload_n dX6_findPassers_11 rfl rfl ?_
      refine X_get (v := .ref 1) ck_X6 f_X6_18 g_28 rfl (fun _ => rfl) dX6_findPassers_12 ?_
      refine X_get (v := .int (σ3.1 1 4)) ck_X7 f_X6_49 g_1 rfl (fun _ => rfl) dX6_findPassers_15 ?_
      refine X_icmp_ge (tgt := 73) dX6_findPassers_18 (by decide) h (fun h => ?_) (fun h => ?_)
      · exact X_retv rfl dX6_findPassers_73 h
      · refine X_aload_n dX6_findPassers_21 rfl rfl ?_
        refine X_iload_n dX6_findPassers_22 rfl rfl ?_
        refine X_iload_n dX6_findPassers_23 rfl rfl ?_
        refine X_callVi [.int x2, .int a0] [] c_X6_placesPassed v_X6_placesPassed lk_X6_98 dX6_findPassers_24 g_28 rfl rfl rfl (by decide) (Nat.le_of_ble_eq_true rfl) rfl (s_X6_placesPassed sx x2 a0  σ3 _ h) (fun r5 σ4 h => ?_)
        refine X_istore_n (L' := [some (.ref 28), some (.int a0), some (.int x2), some (.int r5), none]) dX6_findPassers_27 rfl (by decide) rfl ?_
        refine X_iconst (v := 0) dX6_findPassers_28 iconst_0 ?_
        refine X_istore (L' := [some (.ref 28), some (.int a0), some (.int x2), some (.int r5), some (.int (0 : Int32))]) dX6_findPassers_29 (by decide) rfl ?_
        refine bd_j h (fun J67 e67 h => ?_)
        have j67 : ∀ (σ6 : Sg) , J67  σ6 → Ex mX6_findPassers 5 false (0, 0) sx G0 67 [some (.ref 28), some (.int a0), some (.int x2), none, none] [] σ6 (qV Q) := by
          intro  σ6  h
          subst e67
          replace h := h
          refine X_iinc (v := (x2 + 1)) (L' := [some (.ref 28), some (.int a0), some (.int (x2 + 1)), none, none]) dX6_findPassers_67 rfl rfl (by decide) rfl ?_
          refine X_goto (tgt := 10) dX6_findPassers_70 (by decide) ?_
          exact ih10 _ _  h
        obtain ⟨n31, h⟩ := h
        have key31 : ∀ (n : Nat) (x7 : Int32) (σ8 : Sg) , w_X6_findPassers_l31 x2 r5 J67 n x7 σ8 → Ex mX6_findPassers 5 false (0, 0) sx G0 31 [some (.ref 28), some (.int a0), some (.int x2), some (.int r5), some (.int x7)] [] σ8 (qV Q) := by
          intro n31
          induction n31 with
          | zero => intro _ _  h; exact h.elim
          | succ n31 ih31 =>
            intro x7 σ8  h
            unfold w_X6_findPassers_l31 at h
            refine X_iload dX6_findPassers_31 rfl ?_
            refine X_aload_n dX6_findPassers_33 rfl rfl ?_
            refine X_get (v := .ref 1) ck_X6 f_X6_18 g_28 rfl (fun _ => rfl) dX6_findPassers_34 ?_
            refine X_get (v := .int (σ8.1 1 7)) ck_X7 f_X6_81 g_1 rfl (fun _ => rfl) dX6_findPassers_37 ?_
            refine X_icmp_ge (tgt := 67) dX6_findPassers_40 (by decide) h (fun h => ?_) (fun h => ?_)
            · refine X_drop (L' := [some (.ref 28), some (.int a0), some (.int x2), none, none]) ⟨rfl, ⟨rfl, ⟨rfl, trivial⟩⟩⟩ ?_
              exact j67 _  h
            · refine X_aload_n dX6_findPassers_43 rfl rfl ?_
              refine X_get (v := .ref 30) ck_X6 f_X6_15 g_28 rfl (fun _ => rfl) dX6_findPassers_44 ?_
              refine X_iload dX6_findPassers_47 rfl ?_
              refine X_dup2 dX6_findPassers_49 rfl rfl ?_
              refine X_iald g_30 dX6_findPassers_50 h (fun h => ?_)
              refine X_iload_n dX6_findPassers_51 rfl rfl ?_
              refine X_iload dX6_findPassers_52 rfl ?_
              refine X_ishr dX6_findPassers_54 ?_
              refine X_iconst (v := 1) dX6_findPassers_55 iconst_1 ?_
              refine X_iand dX6_findPassers_56 ?_
              refine X_iload_n dX6_findPassers_57 rfl rfl ?_
              refine X_ishl dX6_findPassers_58 ?_
              refine X_ior dX6_findPassers_59 ?_
              refine X_iast g_30 dX6_findPassers_60 h (fun σ9 h => ?_)
              refine X_iinc (v := (x7 + 1)) (L' := [some (.ref 28), some (.int a0), some (.int x2), some (.int r5), some (.int (x7 + 1))]) dX6_findPassers_61 rfl rfl (by decide) rfl ?_
              refine X_goto (tgt := 31) dX6_findPassers_64 (by decide) ?_
              exact ih31 _ _  h
        exact key31 _ _ _  h
  exact key10 _ _ _  h
def w_X6_bestHouses_l10 (a0 : Int32) (Q : Int32 → Sg → Prop) : Nat → Int32 → Int32 → Sg → Prop
  | 0, _, _, _ => False
  | n10 + 1, x2, x3, σ4 => if ((1 : Int32) <<< ((σ4.1 1 7) &&& 31)) ≤ x3 then (Q x2 σ4) else (w_J6_bitCount_0f7a4 x3 σ4 (fun r6 σ5 => bd (fun (x7 : Int32) (σ8 : Sg) => w_X6_bestHouses_l10 a0 Q n10 x7 (x3 + 1) σ8) fun J46 => if a0 < r6 then (J46 x2 σ5) else (w_X6_betterHouses x3 x2 σ5 (fun r10 σ9 => if r10 = 0 then (J46 x2 σ9) else (J46 x3 σ9)))))
def w_X6_bestHouses (a0 : Int32) (b0 : Int32) (σ : Sg) (Q : Int32 → Sg → Prop) : Prop := w_X6_findPassers b0 σ (fun  σ1 => ∃ n, w_X6_bestHouses_l10 a0 Q n (0 : Int32) (1 : Int32) σ1)
set_option maxRecDepth 100000 in
set_option maxHeartbeats 4000000 in
theorem s_X6_bestHouses (sx : Nat × (Nat → Int32)) (a0 : Int32) (b0 : Int32) (σ : Sg) (Q : Int32 → Sg → Prop) (h : w_X6_bestHouses a0 b0 σ Q) : Ct mX6_bestHouses 6 false (0, 0) sx G0 [.ref 28, .int a0, .int b0] σ (qI Q) := by
  refine Ct.of (L := [some (.ref 28), some (.int a0), some (.int b0), none, none]) (by decide) (Nat.le_of_ble_eq_true rfl) rfl ?_
  unfold w_X6_bestHouses at h
  refine X_aload_n dX6_bestHouses_0 rfl rfl ?_
  refine X_iload_n dX6_bestHouses_1 rfl rfl ?_
  refine X_callVv [.int b0] [] c_X6_findPassers v_X6_findPassers lk_X6_78 dX6_bestHouses_2 g_28 rfl rfl rfl (by decide) (Nat.le_of_ble_eq_true rfl) rfl (s_X6_findPassers sx b0  σ _ h) (fun  σ1 h => ?_)
  refine X_iconst (v := 0) dX6_bestHouses_5 iconst_0 ?_
  refine X_istore_n (L' := [some (.ref 28), some (.int a0), some (.int b0), some (.int (0 : Int32)), none]) dX6_bestHouses_6 rfl (by decide) rfl ?_
  refine X_iconst (v := 1) dX6_bestHouses_7 iconst_1 ?_
  refine X_istore (L' := [some (.ref 28), some (.int a0), some (.int b0), some (.int (0 : Int32)), some (.int (1 : Int32))]) dX6_bestHouses_8 (by decide) rfl ?_
  obtain ⟨n10, h⟩ := h
  have key10 : ∀ (n : Nat) (x2 : Int32) (x3 : Int32) (σ4 : Sg) , w_X6_bestHouses_l10 a0 Q n x2 x3 σ4 → Ex mX6_bestHouses 6 false (0, 0) sx G0 10 [some (.ref 28), some (.int a0), none, some (.int x2), some (.int x3)] [] σ4 (qI Q) := by
    intro n10
    induction n10 with
    | zero => intro _ _ _  h; exact h.elim
    | succ n10 ih10 =>
      intro x2 x3 σ4  h
      unfold w_X6_bestHouses_l10 at h
      refine X_iload dX6_bestHouses_10 rfl ?_
      refine X_iconst (v := 1) dX6_bestHouses_12 iconst_1 ?_
      refine X_aload_n dX6_bestHouses_13 rfl rfl ?_
      refine X_get (v := .ref 1) ck_X6 f_X6_18 g_28 rfl (fun _ => rfl) dX6_bestHouses_14 ?_
      refine X_get (v := .int (σ4.1 1 7)) ck_X7 f_X6_81 g_1 rfl (fun _ => rfl) dX6_bestHouses_17 ?_
      refine X_ishl dX6_bestHouses_20 ?_
      refine X_icmp_ge (tgt := 52) dX6_bestHouses_21 (by decide) h (fun h => ?_) (fun h => ?_)
      · refine X_iload_n dX6_bestHouses_52 rfl rfl ?_
        exact X_reti rfl dX6_bestHouses_53 h
      · refine X_iload dX6_bestHouses_24 rfl ?_
        refine X_callSi [.int x3] [] c_J6_bitCount_0f7a4 t_J6_bitCount_0f7a4 lk_X6_84 dX6_bestHouses_26 rfl (by decide) (Nat.le_of_ble_eq_true rfl) rfl (s_J6_bitCount_0f7a4 sx x3  σ4 _ h) (fun r6 σ5 h => ?_)
        refine X_iload_n dX6_bestHouses_29 rfl rfl ?_
        refine bd_j h (fun J46 e46 h => ?_)
        have j46 : ∀ (x7 : Int32) (σ8 : Sg) , J46 x7 σ8 → Ex mX6_bestHouses 6 false (0, 0) sx G0 46 [some (.ref 28), some (.int a0), none, some (.int x7), some (.int x3)] [] σ8 (qI Q) := by
          intro x7 σ8  h
          subst e46
          replace h := h
          refine X_iinc (v := (x3 + 1)) (L' := [some (.ref 28), some (.int a0), none, some (.int x7), some (.int (x3 + 1))]) dX6_bestHouses_46 rfl rfl (by decide) rfl ?_
          refine X_goto (tgt := 10) dX6_bestHouses_49 (by decide) ?_
          exact ih10 _ _ _  h
        refine X_icmp_gt (tgt := 46) dX6_bestHouses_30 (by decide) h (fun h => ?_) (fun h => ?_)
        · exact j46 _ _  h
        · refine X_aload_n dX6_bestHouses_33 rfl rfl ?_
          refine X_iload dX6_bestHouses_34 rfl ?_
          refine X_iload_n dX6_bestHouses_36 rfl rfl ?_
          refine X_callVi [.int x3, .int x2] [] c_X6_betterHouses v_X6_betterHouses lk_X6_89 dX6_bestHouses_37 g_28 rfl rfl rfl (by decide) (Nat.le_of_ble_eq_true rfl) rfl (s_X6_betterHouses sx x3 x2  σ5 _ h) (fun r10 σ9 h => ?_)
          refine X_if_eq (tgt := 46) dX6_bestHouses_40 (by decide) h (fun h => ?_) (fun h => ?_)
          · exact j46 _ _  h
          · refine X_iload dX6_bestHouses_43 rfl ?_
            refine X_istore_n (L' := [some (.ref 28), some (.int a0), none, some (.int x3), some (.int x3)]) dX6_bestHouses_45 rfl (by decide) rfl ?_
            exact j46 _ _  h
  refine X_drop (L' := [some (.ref 28), some (.int a0), none, some (.int (0 : Int32)), some (.int (1 : Int32))]) ⟨rfl, ⟨rfl, ⟨rfl, ⟨rfl, trivial⟩⟩⟩⟩ ?_
  exact key10 _ _ _ _  h
def w_X7_mayBe (a0 : Int32) (b0 : Int32) (σ : Sg) (Q : Int32 → Sg → Prop) : Prop := w_X11_within a0 (0 : Int32) (8 : Int32) σ (fun r2 σ1 => if r2 = 0 then (Q (0 : Int32) σ1) else (vp_in a0 9 ∧ vp_in a0 9 ∧ w_X11_within b0 ((exC 1) (Int32.toNatClampNeg a0)) ((exC 2) (Int32.toNatClampNeg a0)) σ1 (fun r4 σ3 => if r4 = 0 then (Q (0 : Int32) σ3) else (Q (1 : Int32) σ3))))
set_option maxRecDepth 100000 in
set_option maxHeartbeats 4000000 in
theorem s_X7_mayBe (sx : Nat × (Nat → Int32)) (a0 : Int32) (b0 : Int32) (σ : Sg) (Q : Int32 → Sg → Prop) (h : w_X7_mayBe a0 b0 σ Q) : Ct mX7_mayBe 1 false (0, 0) sx G0 [.int a0, .int b0] σ (qI Q) := by
  refine Ct.of (L := [some (.int a0), some (.int b0)]) (by decide) (Nat.le_of_ble_eq_true rfl) rfl ?_
  unfold w_X7_mayBe at h
  refine X_iload_n dX7_mayBe_0 rfl rfl ?_
  refine X_iconst (v := 0) dX7_mayBe_1 iconst_0 ?_
  refine X_bipush (v := 8) dX7_mayBe_2 bipush_8 ?_
  refine X_callSNi [.int a0, .int (0 : Int32), .int (8 : Int32)] [] c_X11_within t_X11_within lk_X7_34 dX7_mayBe_4 rfl (by decide) (Nat.le_of_ble_eq_true rfl) rfl (s_X11_within sx a0 (0 : Int32) (8 : Int32)  σ _ h) (fun r2 σ1 h => ?_)
  refine X_if_eq (tgt := 31) dX7_mayBe_7 (by decide) h (fun h => ?_) (fun h => ?_)
  · refine X_iconst (v := 0) dX7_mayBe_31 iconst_0 ?_
    exact X_retz rfl rfl dX7_mayBe_32 h
  · refine X_iload_n dX7_mayBe_10 rfl rfl ?_
    refine X_gets (j := 0) (v := 1) rfl rfl f_X7_38 dX7_mayBe_11 ?_
    refine X_iload_n dX7_mayBe_14 rfl rfl ?_
    refine X_ialdX (v := 1) (f := (exC 1)) (n := 9) (by decide) rfl rfl dX7_mayBe_15 h (fun h => ?_)
    refine X_gets (j := 1) (v := 2) rfl rfl f_X7_41 dX7_mayBe_16 ?_
    refine X_iload_n dX7_mayBe_19 rfl rfl ?_
    refine X_ialdX (v := 2) (f := (exC 2)) (n := 9) (by decide) rfl rfl dX7_mayBe_20 h (fun h => ?_)
    refine X_callSNi [.int b0, .int ((exC 1) (Int32.toNatClampNeg a0)), .int ((exC 2) (Int32.toNatClampNeg a0))] [] c_X11_within t_X11_within lk_X7_34 dX7_mayBe_21 rfl (by decide) (Nat.le_of_ble_eq_true rfl) rfl (s_X11_within sx b0 ((exC 1) (Int32.toNatClampNeg a0)) ((exC 2) (Int32.toNatClampNeg a0))  σ1 _ h) (fun r4 σ3 h => ?_)
    refine X_if_eq (tgt := 31) dX7_mayBe_24 (by decide) h (fun h => ?_) (fun h => ?_)
    · refine X_iconst (v := 0) dX7_mayBe_31 iconst_0 ?_
      exact X_retz rfl rfl dX7_mayBe_32 h
    · refine X_iconst (v := 1) dX7_mayBe_27 iconst_1 ?_
      refine X_goto (tgt := 32) dX7_mayBe_28 (by decide) ?_
      exact X_retz rfl rfl dX7_mayBe_32 h
def w_X7_hasCarriage (a0 : Int32) (σ : Sg) (Q : Int32 → Sg → Prop) : Prop := if a0 < 0 then (Q (0 : Int32) σ) else (if (σ.1 1 4) ≤ a0 then (Q (0 : Int32) σ) else (Q (1 : Int32) σ))
set_option maxRecDepth 100000 in
set_option maxHeartbeats 4000000 in
theorem s_X7_hasCarriage (sx : Nat × (Nat → Int32)) (a0 : Int32) (σ : Sg) (Q : Int32 → Sg → Prop) (h : w_X7_hasCarriage a0 σ Q) : Ct mX7_hasCarriage 0 false (0, 0) sx G0 [.ref 1, .int a0] σ (qI Q) := by
  refine Ct.of (L := [some (.ref 1), some (.int a0)]) (by decide) (Nat.le_of_ble_eq_true rfl) rfl ?_
  unfold w_X7_hasCarriage at h
  refine X_iload_n dX7_hasCarriage_0 rfl rfl ?_
  refine X_if_lt (tgt := 16) dX7_hasCarriage_1 (by decide) h (fun h => ?_) (fun h => ?_)
  · refine X_iconst (v := 0) dX7_hasCarriage_16 iconst_0 ?_
    exact X_retz rfl rfl dX7_hasCarriage_17 h
  · refine X_iload_n dX7_hasCarriage_4 rfl rfl ?_
    refine X_aload_n dX7_hasCarriage_5 rfl rfl ?_
    refine X_get (v := .int (σ.1 1 4)) ck_X7 f_X7_57 g_1 rfl (fun _ => rfl) dX7_hasCarriage_6 ?_
    refine X_icmp_ge (tgt := 16) dX7_hasCarriage_9 (by decide) h (fun h => ?_) (fun h => ?_)
    · refine X_iconst (v := 0) dX7_hasCarriage_16 iconst_0 ?_
      exact X_retz rfl rfl dX7_hasCarriage_17 h
    · refine X_iconst (v := 1) dX7_hasCarriage_12 iconst_1 ?_
      refine X_goto (tgt := 17) dX7_hasCarriage_13 (by decide) ?_
      exact X_retz rfl rfl dX7_hasCarriage_17 h
def w_X7_addCarriage (a0 : Int32) (b0 : Int32) (c0 : Int32) (σ : Sg) (Q : Int32 → Sg → Prop) : Prop := if (σ.1 1 4) < (6 : Int32) then (vp_in (σ.1 1 4) 6 ∧ bd (sI σ 2 (Int32.toNatClampNeg (σ.1 1 4)) a0) fun σ1 => vp_in (σ1.1 1 4) 6 ∧ bd (sI σ1 3 (Int32.toNatClampNeg (σ1.1 1 4)) b0) fun σ2 => vp_in (σ2.1 1 4) 6 ∧ bd (sI σ2 4 (Int32.toNatClampNeg (σ2.1 1 4)) c0) fun σ3 => vp_in (σ3.1 1 4) 6 ∧ bd (sI σ3 5 (Int32.toNatClampNeg (σ3.1 1 4)) (9 : Int32)) fun σ4 => bd (sI σ4 1 4 ((σ4.1 1 4) + (1 : Int32))) fun σ5 => Q ((σ5.1 1 4) - (1 : Int32)) σ5) else (Q (-3 : Int32) σ)
set_option maxRecDepth 100000 in
set_option maxHeartbeats 4000000 in
theorem s_X7_addCarriage (sx : Nat × (Nat → Int32)) (a0 : Int32) (b0 : Int32) (c0 : Int32) (σ : Sg) (Q : Int32 → Sg → Prop) (h : w_X7_addCarriage a0 b0 c0 σ Q) : Ct mX7_addCarriage 0 false (0, 0) sx G0 [.ref 1, .int a0, .int b0, .int c0] σ (qI Q) := by
  refine Ct.of (L := [some (.ref 1), some (.int a0), some (.int b0), some (.int c0)]) (by decide) (Nat.le_of_ble_eq_true rfl) rfl ?_
  unfold w_X7_addCarriage at h
  refine X_aload_n dX7_addCarriage_0 rfl rfl ?_
  refine X_get (v := .int (σ.1 1 4)) ck_X7 f_X7_57 g_1 rfl (fun _ => rfl) dX7_addCarriage_1 ?_
  refine X_bipush (v := 6) dX7_addCarriage_4 bipush_6 ?_
  refine X_icmp_lt (tgt := 12) dX7_addCarriage_6 (by decide) h (fun h => ?_) (fun h => ?_)
  · refine X_aload_n dX7_addCarriage_12 rfl rfl ?_
    refine X_get (v := .ref 2) ck_X7 f_X7_9 g_1 rfl (fun _ => rfl) dX7_addCarriage_13 ?_
    refine X_aload_n dX7_addCarriage_16 rfl rfl ?_
    refine X_get (v := .int (σ.1 1 4)) ck_X7 f_X7_57 g_1 rfl (fun _ => rfl) dX7_addCarriage_17 ?_
    refine X_iload_n dX7_addCarriage_20 rfl rfl ?_
    refine X_iast g_2 dX7_addCarriage_21 h (fun σ1 h => ?_)
    refine X_aload_n dX7_addCarriage_22 rfl rfl ?_
    refine X_get (v := .ref 3) ck_X7 f_X7_15 g_1 rfl (fun _ => rfl) dX7_addCarriage_23 ?_
    refine X_aload_n dX7_addCarriage_26 rfl rfl ?_
    refine X_get (v := .int (σ1.1 1 4)) ck_X7 f_X7_57 g_1 rfl (fun _ => rfl) dX7_addCarriage_27 ?_
    refine X_iload_n dX7_addCarriage_30 rfl rfl ?_
    refine X_iast g_3 dX7_addCarriage_31 h (fun σ2 h => ?_)
    refine X_aload_n dX7_addCarriage_32 rfl rfl ?_
    refine X_get (v := .ref 4) ck_X7 f_X7_18 g_1 rfl (fun _ => rfl) dX7_addCarriage_33 ?_
    refine X_aload_n dX7_addCarriage_36 rfl rfl ?_
    refine X_get (v := .int (σ2.1 1 4)) ck_X7 f_X7_57 g_1 rfl (fun _ => rfl) dX7_addCarriage_37 ?_
    refine X_iload_n dX7_addCarriage_40 rfl rfl ?_
    refine X_iast g_4 dX7_addCarriage_41 h (fun σ3 h => ?_)
    refine X_aload_n dX7_addCarriage_42 rfl rfl ?_
    refine X_get (v := .ref 5) ck_X7 f_X7_21 g_1 rfl (fun _ => rfl) dX7_addCarriage_43 ?_
    refine X_aload_n dX7_addCarriage_46 rfl rfl ?_
    refine X_get (v := .int (σ3.1 1 4)) ck_X7 f_X7_57 g_1 rfl (fun _ => rfl) dX7_addCarriage_47 ?_
    refine X_bipush (v := 9) dX7_addCarriage_50 bipush_9 ?_
    refine X_iast g_5 dX7_addCarriage_52 h (fun σ4 h => ?_)
    refine X_aload_n dX7_addCarriage_53 rfl rfl ?_
    refine X_dup dX7_addCarriage_54 rfl ?_
    refine X_get (v := .int (σ4.1 1 4)) ck_X7 f_X7_57 g_1 rfl (fun _ => rfl) dX7_addCarriage_55 ?_
    refine X_iconst (v := 1) dX7_addCarriage_58 iconst_1 ?_
    refine X_iadd dX7_addCarriage_59 ?_
    refine X_putI ck_X7 f_X7_57 rfl g_1 rfl rfl rfl dX7_addCarriage_60 h (fun σ5 h => ?_)
    refine X_aload_n dX7_addCarriage_63 rfl rfl ?_
    refine X_get (v := .int (σ5.1 1 4)) ck_X7 f_X7_57 g_1 rfl (fun _ => rfl) dX7_addCarriage_64 ?_
    refine X_iconst (v := 1) dX7_addCarriage_67 iconst_1 ?_
    refine X_isub dX7_addCarriage_68 ?_
    exact X_reti rfl dX7_addCarriage_69 h
  · refine X_bipush (v := -3) dX7_addCarriage_9 bipush_m3 ?_
    exact X_reti rfl dX7_addCarriage_11 h
def w_X7_addPlace (a0 : Int32) (σ : Sg) (Q : Int32 → Sg → Prop) : Prop := if (σ.1 1 7) < (8 : Int32) then (vp_in (σ.1 1 7) 8 ∧ bd (sI σ 6 (Int32.toNatClampNeg (σ.1 1 7)) a0) fun σ1 => vp_in (σ1.1 1 7) 8 ∧ bd (sI σ1 7 (Int32.toNatClampNeg (σ1.1 1 7)) (1 : Int32)) fun σ2 => bd (sI σ2 1 7 ((σ2.1 1 7) + (1 : Int32))) fun σ3 => Q ((σ3.1 1 7) - (1 : Int32)) σ3) else (Q (-3 : Int32) σ)
set_option maxRecDepth 100000 in
set_option maxHeartbeats 4000000 in
theorem s_X7_addPlace (sx : Nat × (Nat → Int32)) (a0 : Int32) (σ : Sg) (Q : Int32 → Sg → Prop) (h : w_X7_addPlace a0 σ Q) : Ct mX7_addPlace 0 false (0, 0) sx G0 [.ref 1, .int a0] σ (qI Q) := by
  refine Ct.of (L := [some (.ref 1), some (.int a0)]) (by decide) (Nat.le_of_ble_eq_true rfl) rfl ?_
  unfold w_X7_addPlace at h
  refine X_aload_n dX7_addPlace_0 rfl rfl ?_
  refine X_get (v := .int (σ.1 1 7)) ck_X7 f_X7_60 g_1 rfl (fun _ => rfl) dX7_addPlace_1 ?_
  refine X_bipush (v := 8) dX7_addPlace_4 bipush_8 ?_
  refine X_icmp_lt (tgt := 12) dX7_addPlace_6 (by decide) h (fun h => ?_) (fun h => ?_)
  · refine X_aload_n dX7_addPlace_12 rfl rfl ?_
    refine X_get (v := .ref 6) ck_X7 f_X7_24 g_1 rfl (fun _ => rfl) dX7_addPlace_13 ?_
    refine X_aload_n dX7_addPlace_16 rfl rfl ?_
    refine X_get (v := .int (σ.1 1 7)) ck_X7 f_X7_60 g_1 rfl (fun _ => rfl) dX7_addPlace_17 ?_
    refine X_iload_n dX7_addPlace_20 rfl rfl ?_
    refine X_iast g_6 dX7_addPlace_21 h (fun σ1 h => ?_)
    refine X_aload_n dX7_addPlace_22 rfl rfl ?_
    refine X_get (v := .ref 7) ck_X7 f_X7_27 g_1 rfl (fun _ => rfl) dX7_addPlace_23 ?_
    refine X_aload_n dX7_addPlace_26 rfl rfl ?_
    refine X_get (v := .int (σ1.1 1 7)) ck_X7 f_X7_60 g_1 rfl (fun _ => rfl) dX7_addPlace_27 ?_
    refine X_iconst (v := 1) dX7_addPlace_30 iconst_1 ?_
    refine X_iast g_7 dX7_addPlace_31 h (fun σ2 h => ?_)
    refine X_aload_n dX7_addPlace_32 rfl rfl ?_
    refine X_dup dX7_addPlace_33 rfl ?_
    refine X_get (v := .int (σ2.1 1 7)) ck_X7 f_X7_60 g_1 rfl (fun _ => rfl) dX7_addPlace_34 ?_
    refine X_iconst (v := 1) dX7_addPlace_37 iconst_1 ?_
    refine X_iadd dX7_addPlace_38 ?_
    refine X_putI ck_X7 f_X7_60 rfl g_1 rfl rfl rfl dX7_addPlace_39 h (fun σ3 h => ?_)
    refine X_aload_n dX7_addPlace_42 rfl rfl ?_
    refine X_get (v := .int (σ3.1 1 7)) ck_X7 f_X7_60 g_1 rfl (fun _ => rfl) dX7_addPlace_43 ?_
    refine X_iconst (v := 1) dX7_addPlace_46 iconst_1 ?_
    refine X_isub dX7_addPlace_47 ?_
    exact X_reti rfl dX7_addPlace_48 h
  · refine X_bipush (v := -3) dX7_addPlace_9 bipush_m3 ?_
    exact X_reti rfl dX7_addPlace_11 h
def w_X7_has (a0 : Int32) (b0 : Int32) (σ : Sg) (Q : Int32 → Sg → Prop) : Prop := w_X11_within b0 (0 : Int32) (3 : Int32) σ (fun r2 σ1 => if r2 = 0 then (w_X11_within b0 (4 : Int32) (5 : Int32) σ1 (fun r4 σ3 => if r4 = 0 then (w_X11_within b0 (6 : Int32) (8 : Int32) σ3 (fun r6 σ5 => if r6 = 0 then (Q (0 : Int32) σ5) else (if a0 = 0 then (Q (1 : Int32) σ5) else (Q (0 : Int32) σ5)))) else (w_X7_hasPlace a0 σ3 (fun r8 σ7 => (r8 = 0 ∨ r8 = 1) ∧ Q r8 σ7)))) else (w_X7_hasCarriage a0 σ1 (fun r10 σ9 => (r10 = 0 ∨ r10 = 1) ∧ Q r10 σ9)))
set_option maxRecDepth 100000 in
set_option maxHeartbeats 4000000 in
theorem s_X7_has (sx : Nat × (Nat → Int32)) (a0 : Int32) (b0 : Int32) (σ : Sg) (Q : Int32 → Sg → Prop) (h : w_X7_has a0 b0 σ Q) : Ct mX7_has 1 false (0, 0) sx G0 [.ref 1, .int a0, .int b0] σ (qI Q) := by
  refine Ct.of (L := [some (.ref 1), some (.int a0), some (.int b0)]) (by decide) (Nat.le_of_ble_eq_true rfl) rfl ?_
  unfold w_X7_has at h
  refine X_iload_n dX7_has_0 rfl rfl ?_
  refine X_iconst (v := 0) dX7_has_1 iconst_0 ?_
  refine X_iconst (v := 3) dX7_has_2 iconst_3 ?_
  refine X_callSNi [.int b0, .int (0 : Int32), .int (3 : Int32)] [] c_X11_within t_X11_within lk_X7_34 dX7_has_3 rfl (by decide) (Nat.le_of_ble_eq_true rfl) rfl (s_X11_within sx b0 (0 : Int32) (3 : Int32)  σ _ h) (fun r2 σ1 h => ?_)
  refine X_if_eq (tgt := 15) dX7_has_6 (by decide) h (fun h => ?_) (fun h => ?_)
  · refine X_iload_n dX7_has_15 rfl rfl ?_
    refine X_iconst (v := 4) dX7_has_16 iconst_4 ?_
    refine X_iconst (v := 5) dX7_has_17 iconst_5 ?_
    refine X_callSNi [.int b0, .int (4 : Int32), .int (5 : Int32)] [] c_X11_within t_X11_within lk_X7_34 dX7_has_18 rfl (by decide) (Nat.le_of_ble_eq_true rfl) rfl (s_X11_within sx b0 (4 : Int32) (5 : Int32)  σ1 _ h) (fun r4 σ3 h => ?_)
    refine X_if_eq (tgt := 30) dX7_has_21 (by decide) h (fun h => ?_) (fun h => ?_)
    · refine X_iload_n dX7_has_30 rfl rfl ?_
      refine X_bipush (v := 6) dX7_has_31 bipush_6 ?_
      refine X_bipush (v := 8) dX7_has_33 bipush_8 ?_
      refine X_callSNi [.int b0, .int (6 : Int32), .int (8 : Int32)] [] c_X11_within t_X11_within lk_X7_34 dX7_has_35 rfl (by decide) (Nat.le_of_ble_eq_true rfl) rfl (s_X11_within sx b0 (6 : Int32) (8 : Int32)  σ3 _ h) (fun r6 σ5 h => ?_)
      refine X_if_eq (tgt := 49) dX7_has_38 (by decide) h (fun h => ?_) (fun h => ?_)
      · refine X_iconst (v := 0) dX7_has_49 iconst_0 ?_
        exact X_retz rfl rfl dX7_has_50 h
      · refine X_iload_n dX7_has_41 rfl rfl ?_
        refine X_if_ne (tgt := 49) dX7_has_42 (by decide) h (fun h => ?_) (fun h => ?_)
        · refine X_iconst (v := 0) dX7_has_49 iconst_0 ?_
          exact X_retz rfl rfl dX7_has_50 h
        · refine X_iconst (v := 1) dX7_has_45 iconst_1 ?_
          refine X_goto (tgt := 50) dX7_has_46 (by decide) ?_
          exact X_retz rfl rfl dX7_has_50 h
    · refine X_aload_n dX7_has_24 rfl rfl ?_
      refine X_iload_n dX7_has_25 rfl rfl ?_
      refine X_callVi [.int a0] [] c_X7_hasPlace v_X7_hasPlace lk_X7_67 dX7_has_26 g_1 rfl rfl rfl (by decide) (Nat.le_of_ble_eq_true rfl) rfl (s_X7_hasPlace sx a0  σ3 _ h) (fun r8 σ7 h => ?_)
      exact X_retz rfl (nzb h.1) dX7_has_29 h.2
  · refine X_aload_n dX7_has_9 rfl rfl ?_
    refine X_iload_n dX7_has_10 rfl rfl ?_
    refine X_callVi [.int a0] [] c_X7_hasCarriage v_X7_hasCarriage lk_X7_63 dX7_has_11 g_1 rfl rfl rfl (by decide) (Nat.le_of_ble_eq_true rfl) rfl (s_X7_hasCarriage sx a0  σ1 _ h) (fun r10 σ9 h => ?_)
    exact X_retz rfl (nzb h.1) dX7_has_14 h.2
def w_X7_read (a0 : Int32) (b0 : Int32) (σ : Sg) (Q : Int32 → Sg → Prop) : Prop := if b0 = (0 : Int32) then (vp_in a0 6 ∧ Q (σ.1 2 (Int32.toNatClampNeg a0)) σ) else (if b0 = (1 : Int32) then (vp_in a0 6 ∧ Q (σ.1 3 (Int32.toNatClampNeg a0)) σ) else (if b0 = (2 : Int32) then (vp_in a0 6 ∧ Q (σ.1 4 (Int32.toNatClampNeg a0)) σ) else (if b0 = (3 : Int32) then (vp_in a0 6 ∧ Q (σ.1 5 (Int32.toNatClampNeg a0)) σ) else (if b0 = (4 : Int32) then (vp_in a0 8 ∧ Q (σ.1 6 (Int32.toNatClampNeg a0)) σ) else (if b0 = (5 : Int32) then (vp_in a0 8 ∧ Q (σ.1 7 (Int32.toNatClampNeg a0)) σ) else (if b0 = (6 : Int32) then (Q (σ.1 1 8) σ) else (if b0 = (7 : Int32) then (Q (σ.1 1 9) σ) else (Q (σ.1 1 10) σ))))))))
set_option maxRecDepth 100000 in
set_option maxHeartbeats 4000000 in
theorem s_X7_read (sx : Nat × (Nat → Int32)) (a0 : Int32) (b0 : Int32) (σ : Sg) (Q : Int32 → Sg → Prop) (h : w_X7_read a0 b0 σ Q) : Ct mX7_read 0 false (0, 0) sx G0 [.ref 1, .int a0, .int b0] σ (qI Q) := by
  refine Ct.of (L := [some (.ref 1), some (.int a0), some (.int b0)]) (by decide) (Nat.le_of_ble_eq_true rfl) rfl ?_
  unfold w_X7_read at h
  refine X_iload_n dX7_read_0 rfl rfl ?_
  by_cases hc1_0 : b0 = (0 : Int32)
  · replace h := if_t h hc1_0
    refine X_tableIn (tgt := 48) dX7_read_1 (by rw [hc1_0] <;> decide) (by rw [hc1_0] <;> decide) (by rw [hc1_0] <;> rfl) (by decide) ?_
    refine X_aload_n dX7_read_48 rfl rfl ?_
    refine X_get (v := .ref 2) ck_X7 f_X7_9 g_1 rfl (fun _ => rfl) dX7_read_49 ?_
    refine X_iload_n dX7_read_52 rfl rfl ?_
    refine X_iald g_2 dX7_read_53 h (fun h => ?_)
    exact X_reti rfl dX7_read_54 h
  replace h := if_f h hc1_0
  by_cases hc1_1 : b0 = (1 : Int32)
  · replace h := if_t h hc1_1
    refine X_tableIn (tgt := 55) dX7_read_1 (by rw [hc1_1] <;> decide) (by rw [hc1_1] <;> decide) (by rw [hc1_1] <;> rfl) (by decide) ?_
    refine X_aload_n dX7_read_55 rfl rfl ?_
    refine X_get (v := .ref 3) ck_X7 f_X7_15 g_1 rfl (fun _ => rfl) dX7_read_56 ?_
    refine X_iload_n dX7_read_59 rfl rfl ?_
    refine X_iald g_3 dX7_read_60 h (fun h => ?_)
    exact X_reti rfl dX7_read_61 h
  replace h := if_f h hc1_1
  by_cases hc1_2 : b0 = (2 : Int32)
  · replace h := if_t h hc1_2
    refine X_tableIn (tgt := 62) dX7_read_1 (by rw [hc1_2] <;> decide) (by rw [hc1_2] <;> decide) (by rw [hc1_2] <;> rfl) (by decide) ?_
    refine X_aload_n dX7_read_62 rfl rfl ?_
    refine X_get (v := .ref 4) ck_X7 f_X7_18 g_1 rfl (fun _ => rfl) dX7_read_63 ?_
    refine X_iload_n dX7_read_66 rfl rfl ?_
    refine X_iald g_4 dX7_read_67 h (fun h => ?_)
    exact X_reti rfl dX7_read_68 h
  replace h := if_f h hc1_2
  by_cases hc1_3 : b0 = (3 : Int32)
  · replace h := if_t h hc1_3
    refine X_tableIn (tgt := 69) dX7_read_1 (by rw [hc1_3] <;> decide) (by rw [hc1_3] <;> decide) (by rw [hc1_3] <;> rfl) (by decide) ?_
    refine X_aload_n dX7_read_69 rfl rfl ?_
    refine X_get (v := .ref 5) ck_X7 f_X7_21 g_1 rfl (fun _ => rfl) dX7_read_70 ?_
    refine X_iload_n dX7_read_73 rfl rfl ?_
    refine X_iald g_5 dX7_read_74 h (fun h => ?_)
    exact X_reti rfl dX7_read_75 h
  replace h := if_f h hc1_3
  by_cases hc1_4 : b0 = (4 : Int32)
  · replace h := if_t h hc1_4
    refine X_tableIn (tgt := 76) dX7_read_1 (by rw [hc1_4] <;> decide) (by rw [hc1_4] <;> decide) (by rw [hc1_4] <;> rfl) (by decide) ?_
    refine X_aload_n dX7_read_76 rfl rfl ?_
    refine X_get (v := .ref 6) ck_X7 f_X7_24 g_1 rfl (fun _ => rfl) dX7_read_77 ?_
    refine X_iload_n dX7_read_80 rfl rfl ?_
    refine X_iald g_6 dX7_read_81 h (fun h => ?_)
    exact X_reti rfl dX7_read_82 h
  replace h := if_f h hc1_4
  by_cases hc1_5 : b0 = (5 : Int32)
  · replace h := if_t h hc1_5
    refine X_tableIn (tgt := 83) dX7_read_1 (by rw [hc1_5] <;> decide) (by rw [hc1_5] <;> decide) (by rw [hc1_5] <;> rfl) (by decide) ?_
    refine X_aload_n dX7_read_83 rfl rfl ?_
    refine X_get (v := .ref 7) ck_X7 f_X7_27 g_1 rfl (fun _ => rfl) dX7_read_84 ?_
    refine X_iload_n dX7_read_87 rfl rfl ?_
    refine X_iald g_7 dX7_read_88 h (fun h => ?_)
    exact X_reti rfl dX7_read_89 h
  replace h := if_f h hc1_5
  by_cases hc1_6 : b0 = (6 : Int32)
  · replace h := if_t h hc1_6
    refine X_tableIn (tgt := 90) dX7_read_1 (by rw [hc1_6] <;> decide) (by rw [hc1_6] <;> decide) (by rw [hc1_6] <;> rfl) (by decide) ?_
    refine X_aload_n dX7_read_90 rfl rfl ?_
    refine X_get (v := .int (σ.1 1 8)) ck_X7 f_X7_30 g_1 rfl (fun _ => rfl) dX7_read_91 ?_
    exact X_reti rfl dX7_read_94 h
  replace h := if_f h hc1_6
  by_cases hc1_7 : b0 = (7 : Int32)
  · replace h := if_t h hc1_7
    refine X_tableIn (tgt := 95) dX7_read_1 (by rw [hc1_7] <;> decide) (by rw [hc1_7] <;> decide) (by rw [hc1_7] <;> rfl) (by decide) ?_
    refine X_aload_n dX7_read_95 rfl rfl ?_
    refine X_get (v := .int (σ.1 1 9)) ck_X7 f_X7_70 g_1 rfl (fun _ => rfl) dX7_read_96 ?_
    exact X_reti rfl dX7_read_99 h
  replace h := if_f h hc1_7
  refine X_tableOut (tgt := 100) dX7_read_1 (tbl_out (fun j h1 h2 e => ?_)) (by decide) ?_
  · rcases (show j = 0 ∨ j = 1 ∨ j = 2 ∨ j = 3 ∨ j = 4 ∨ j = 5 ∨ j = 6 ∨ j = 7 by omega) with rfl | rfl | rfl | rfl | rfl | rfl | rfl | rfl
    · exact ne_toInt hc1_0 e
    · exact ne_toInt hc1_1 e
    · exact ne_toInt hc1_2 e
    · exact ne_toInt hc1_3 e
    · exact ne_toInt hc1_4 e
    · exact ne_toInt hc1_5 e
    · exact ne_toInt hc1_6 e
    · exact ne_toInt hc1_7 e
  refine X_aload_n dX7_read_100 rfl rfl ?_
  refine X_get (v := .int (σ.1 1 10)) ck_X7 f_X7_73 g_1 rfl (fun _ => rfl) dX7_read_101 ?_
  exact X_reti rfl dX7_read_104 h
def w_X7_worthOf_l4 (a0 : Int32) (Q : Int32 → Sg → Prop) : Nat → Int32 → Int32 → Sg → Prop
  | 0, _, _, _ => False
  | n4 + 1, x1, x2, σ3 => if (σ3.1 1 7) ≤ x2 then (Q x1 σ3) else (bd (fun (x4 : Int32) (σ5 : Sg) => w_X7_worthOf_l4 a0 Q n4 x4 (x2 + 1) σ5) fun J30 => if ((a0 >>> (x2 &&& 31)) &&& (1 : Int32)) = (1 : Int32) then (vp_in x2 8 ∧ bd (x1 + (σ3.1 7 (Int32.toNatClampNeg x2))) fun x6 => J30 x6 σ3) else (J30 x1 σ3))
def w_X7_worthOf (a0 : Int32) (σ : Sg) (Q : Int32 → Sg → Prop) : Prop := ∃ n, w_X7_worthOf_l4 a0 Q n (0 : Int32) (0 : Int32) σ
set_option maxRecDepth 100000 in
set_option maxHeartbeats 4000000 in
theorem s_X7_worthOf (sx : Nat × (Nat → Int32)) (a0 : Int32) (σ : Sg) (Q : Int32 → Sg → Prop) (h : w_X7_worthOf a0 σ Q) : Ct mX7_worthOf 0 false (0, 0) sx G0 [.ref 1, .int a0] σ (qI Q) := by
  refine Ct.of (L := [some (.ref 1), some (.int a0), none, none]) (by decide) (Nat.le_of_ble_eq_true rfl) rfl ?_
  unfold w_X7_worthOf at h
  refine X_iconst (v := 0) dX7_worthOf_0 iconst_0 ?_
  refine X_istore_n (L' := [some (.ref 1), some (.int a0), some (.int (0 : Int32)), none]) dX7_worthOf_1 rfl (by decide) rfl ?_
  refine X_iconst (v := 0) dX7_worthOf_2 iconst_0 ?_
  refine X_istore_n (L' := [some (.ref 1), some (.int a0), some (.int (0 : Int32)), some (.int (0 : Int32))]) dX7_worthOf_3 rfl (by decide) rfl ?_
  obtain ⟨n4, h⟩ := h
  have key4 : ∀ (n : Nat) (x1 : Int32) (x2 : Int32) (σ3 : Sg) , w_X7_worthOf_l4 a0 Q n x1 x2 σ3 → Ex mX7_worthOf 0 false (0, 0) sx G0 4 [some (.ref 1), some (.int a0), some (.int x1), some (.int x2)] [] σ3 (qI Q) := by
    intro n4
    induction n4 with
    | zero => intro _ _ _  h; exact h.elim
    | succ n4 ih4 =>
      intro x1 x2 σ3  h
      unfold w_X7_worthOf_l4 at h
      refine X_iload_n dX7_worthOf_4 rfl rfl ?_
      refine X_aload_n dX7_worthOf_5 rfl rfl ?_
      refine X_get (v := .int (σ3.1 1 7)) ck_X7 f_X7_60 g_1 rfl (fun _ => rfl) dX7_worthOf_6 ?_
      refine X_icmp_ge (tgt := 36) dX7_worthOf_9 (by decide) h (fun h => ?_) (fun h => ?_)
      · refine X_iload_n dX7_worthOf_36 rfl rfl ?_
        exact X_reti rfl dX7_worthOf_37 h
      · refine X_iload_n dX7_worthOf_12 rfl rfl ?_
        refine X_iload_n dX7_worthOf_13 rfl rfl ?_
        refine X_ishr dX7_worthOf_14 ?_
        refine X_iconst (v := 1) dX7_worthOf_15 iconst_1 ?_
        refine X_iand dX7_worthOf_16 ?_
        refine X_iconst (v := 1) dX7_worthOf_17 iconst_1 ?_
        refine bd_j h (fun J30 e30 h => ?_)
        have j30 : ∀ (x4 : Int32) (σ5 : Sg) , J30 x4 σ5 → Ex mX7_worthOf 0 false (0, 0) sx G0 30 [some (.ref 1), some (.int a0), some (.int x4), some (.int x2)] [] σ5 (qI Q) := by
          intro x4 σ5  h
          subst e30
          replace h := h
          refine X_iinc (v := (x2 + 1)) (L' := [some (.ref 1), some (.int a0), some (.int x4), some (.int (x2 + 1))]) dX7_worthOf_30 rfl rfl (by decide) rfl ?_
          refine X_goto (tgt := 4) dX7_worthOf_33 (by decide) ?_
          exact ih4 _ _ _  h
        refine X_icmp_ne (tgt := 30) dX7_worthOf_18 (by decide) h (fun h => ?_) (fun h => ?_)
        · exact j30 _ _  h
        · refine X_iload_n dX7_worthOf_21 rfl rfl ?_
          refine X_aload_n dX7_worthOf_22 rfl rfl ?_
          refine X_get (v := .ref 7) ck_X7 f_X7_27 g_1 rfl (fun _ => rfl) dX7_worthOf_23 ?_
          refine X_iload_n dX7_worthOf_26 rfl rfl ?_
          refine X_iald g_7 dX7_worthOf_27 h (fun h => ?_)
          refine X_iadd dX7_worthOf_28 ?_
          refine X_topI h (fun x6 h => ?_)
          refine X_istore_n (L' := [some (.ref 1), some (.int a0), some (.int x6), some (.int x2)]) dX7_worthOf_29 rfl (by decide) rfl ?_
          exact j30 _ _  h
  exact key4 _ _ _ _  h
def w_X8_become (σ : Sg) (Q : Sg → Prop) : Prop := cpIn (0 : Int32) (0 : Int32) (σ.1 11 1) 120 120 ∧ bd (sIr σ 9 (va_cpy (σ.1 12) (σ.1 9) (Int32.toNatClampNeg (0 : Int32)) (Int32.toNatClampNeg (0 : Int32)) (Int32.toNatClampNeg (σ.1 11 1)))) fun σ1 => bd (sI σ1 8 1 (σ1.1 11 1)) fun σ2 => Q σ2
set_option maxRecDepth 100000 in
set_option maxHeartbeats 4000000 in
theorem s_X8_become (sx : Nat × (Nat → Int32)) (σ : Sg) (Q : Sg → Prop) (h : w_X8_become σ Q) : Ct mX8_become 1 false (0, 0) sx G0 [.ref 8, .ref 11] σ (qV Q) := by
  refine Ct.of (L := [some (.ref 8), some (.ref 11)]) (by decide) (Nat.le_of_ble_eq_true rfl) rfl ?_
  unfold w_X8_become at h
  refine X_aload_n dX8_become_0 rfl rfl ?_
  refine X_get (v := .ref 12) ck_X9 f_X8_18 g_11 rfl (fun _ => rfl) dX8_become_1 ?_
  refine X_iconst (v := 0) dX8_become_4 iconst_0 ?_
  refine X_aload_n dX8_become_5 rfl rfl ?_
  refine X_get (v := .ref 9) ck_X8 f_X8_9 g_8 rfl (fun _ => rfl) dX8_become_6 ?_
  refine X_iconst (v := 0) dX8_become_9 iconst_0 ?_
  refine X_aload_n dX8_become_10 rfl rfl ?_
  refine X_get (v := .int (σ.1 11 1)) ck_X9 f_X8_21 g_11 rfl (fun _ => rfl) dX8_become_11 ?_
  refine X_copyI g_12 g_9 lk_X8_25 cpw dX8_become_14 (by decide) (Nat.le_of_ble_eq_true rfl) h (fun σ1 h => ?_)
  refine X_aload_n dX8_become_17 rfl rfl ?_
  refine X_aload_n dX8_become_18 rfl rfl ?_
  refine X_get (v := .int (σ1.1 11 1)) ck_X9 f_X8_21 g_11 rfl (fun _ => rfl) dX8_become_19 ?_
  refine X_putI ck_X8 f_X8_31 rfl g_8 rfl rfl rfl dX8_become_22 h (fun σ2 h => ?_)
  exact X_retv rfl dX8_become_25 h
def w_X9_await (a0 : Int32) (σ : Sg) (Q : Sg → Prop) : Prop := if (120 : Int32) ≤ (σ.1 11 3) then (Q σ) else (vp_in (σ.1 11 3) 120 ∧ bd (sI σ 13 (Int32.toNatClampNeg (σ.1 11 3)) a0) fun σ1 => bd (sI σ1 11 3 ((σ1.1 11 3) + (1 : Int32))) fun σ2 => Q σ2)
set_option maxRecDepth 100000 in
set_option maxHeartbeats 4000000 in
theorem s_X9_await (sx : Nat × (Nat → Int32)) (a0 : Int32) (σ : Sg) (Q : Sg → Prop) (h : w_X9_await a0 σ Q) : Ct mX9_await 0 false (0, 0) sx G0 [.ref 11, .int a0] σ (qV Q) := by
  refine Ct.of (L := [some (.ref 11), some (.int a0)]) (by decide) (Nat.le_of_ble_eq_true rfl) rfl ?_
  unfold w_X9_await at h
  refine X_aload_n dX9_await_0 rfl rfl ?_
  refine X_get (v := .int (σ.1 11 3)) ck_X9 f_X9_22 g_11 rfl (fun _ => rfl) dX9_await_1 ?_
  refine X_bipush (v := 120) dX9_await_4 bipush_120 ?_
  refine X_icmp_ge (tgt := 29) dX9_await_6 (by decide) h (fun h => ?_) (fun h => ?_)
  · exact X_retv rfl dX9_await_29 h
  · refine X_aload_n dX9_await_9 rfl rfl ?_
    refine X_get (v := .ref 13) ck_X9 f_X9_15 g_11 rfl (fun _ => rfl) dX9_await_10 ?_
    refine X_aload_n dX9_await_13 rfl rfl ?_
    refine X_get (v := .int (σ.1 11 3)) ck_X9 f_X9_22 g_11 rfl (fun _ => rfl) dX9_await_14 ?_
    refine X_iload_n dX9_await_17 rfl rfl ?_
    refine X_iast g_13 dX9_await_18 h (fun σ1 h => ?_)
    refine X_aload_n dX9_await_19 rfl rfl ?_
    refine X_dup dX9_await_20 rfl ?_
    refine X_get (v := .int (σ1.1 11 3)) ck_X9 f_X9_22 g_11 rfl (fun _ => rfl) dX9_await_21 ?_
    refine X_iconst (v := 1) dX9_await_24 iconst_1 ?_
    refine X_iadd dX9_await_25 ?_
    refine X_putI ck_X9 f_X9_22 rfl g_11 rfl rfl rfl dX9_await_26 h (fun σ2 h => ?_)
    exact X_retv rfl dX9_await_29 h
def w_X9_lastWaiting (σ : Sg) (Q : Int32 → Sg → Prop) : Prop := w_X11_within (σ.1 11 3) (1 : Int32) (120 : Int32) σ (fun r2 σ1 => if r2 = 0 then (Q (0 : Int32) σ1) else (vp_in ((σ1.1 11 3) - (1 : Int32)) 120 ∧ Q (σ1.1 13 (Int32.toNatClampNeg ((σ1.1 11 3) - (1 : Int32)))) σ1))
set_option maxRecDepth 100000 in
set_option maxHeartbeats 4000000 in
theorem s_X9_lastWaiting (sx : Nat × (Nat → Int32)) (σ : Sg) (Q : Int32 → Sg → Prop) (h : w_X9_lastWaiting σ Q) : Ct mX9_lastWaiting 1 false (0, 0) sx G0 [.ref 11] σ (qI Q) := by
  refine Ct.of (L := [some (.ref 11)]) (by decide) (Nat.le_of_ble_eq_true rfl) rfl ?_
  unfold w_X9_lastWaiting at h
  refine X_aload_n dX9_lastWaiting_0 rfl rfl ?_
  refine X_get (v := .int (σ.1 11 3)) ck_X9 f_X9_22 g_11 rfl (fun _ => rfl) dX9_lastWaiting_1 ?_
  refine X_iconst (v := 1) dX9_lastWaiting_4 iconst_1 ?_
  refine X_bipush (v := 120) dX9_lastWaiting_5 bipush_120 ?_
  refine X_callSNi [.int (σ.1 11 3), .int (1 : Int32), .int (120 : Int32)] [] c_X11_within t_X11_within lk_X9_84 dX9_lastWaiting_7 rfl (by decide) (Nat.le_of_ble_eq_true rfl) rfl (s_X11_within sx (σ.1 11 3) (1 : Int32) (120 : Int32)  σ _ h) (fun r2 σ1 h => ?_)
  refine X_if_eq (tgt := 27) dX9_lastWaiting_10 (by decide) h (fun h => ?_) (fun h => ?_)
  · refine X_iconst (v := 0) dX9_lastWaiting_27 iconst_0 ?_
    exact X_reti rfl dX9_lastWaiting_28 h
  · refine X_aload_n dX9_lastWaiting_13 rfl rfl ?_
    refine X_get (v := .ref 13) ck_X9 f_X9_15 g_11 rfl (fun _ => rfl) dX9_lastWaiting_14 ?_
    refine X_aload_n dX9_lastWaiting_17 rfl rfl ?_
    refine X_get (v := .int (σ1.1 11 3)) ck_X9 f_X9_22 g_11 rfl (fun _ => rfl) dX9_lastWaiting_18 ?_
    refine X_iconst (v := 1) dX9_lastWaiting_21 iconst_1 ?_
    refine X_isub dX9_lastWaiting_22 ?_
    refine X_iald g_13 dX9_lastWaiting_23 h (fun h => ?_)
    refine X_goto (tgt := 28) dX9_lastWaiting_24 (by decide) ?_
    exact X_reti rfl dX9_lastWaiting_28 h
def w_X9_write (a0 : Int32) (σ : Sg) (Q : Sg → Prop) : Prop := if (120 : Int32) ≤ (σ.1 11 1) then (Q σ) else (vp_in (σ.1 11 1) 120 ∧ bd (sI σ 12 (Int32.toNatClampNeg (σ.1 11 1)) a0) fun σ1 => bd (sI σ1 11 1 ((σ1.1 11 1) + (1 : Int32))) fun σ2 => Q σ2)
set_option maxRecDepth 100000 in
set_option maxHeartbeats 4000000 in
theorem s_X9_write (sx : Nat × (Nat → Int32)) (a0 : Int32) (σ : Sg) (Q : Sg → Prop) (h : w_X9_write a0 σ Q) : Ct mX9_write 0 false (0, 0) sx G0 [.ref 11, .int a0] σ (qV Q) := by
  refine Ct.of (L := [some (.ref 11), some (.int a0)]) (by decide) (Nat.le_of_ble_eq_true rfl) rfl ?_
  unfold w_X9_write at h
  refine X_aload_n dX9_write_0 rfl rfl ?_
  refine X_get (v := .int (σ.1 11 1)) ck_X9 f_X9_18 g_11 rfl (fun _ => rfl) dX9_write_1 ?_
  refine X_bipush (v := 120) dX9_write_4 bipush_120 ?_
  refine X_icmp_ge (tgt := 29) dX9_write_6 (by decide) h (fun h => ?_) (fun h => ?_)
  · exact X_retv rfl dX9_write_29 h
  · refine X_aload_n dX9_write_9 rfl rfl ?_
    refine X_get (v := .ref 12) ck_X9 f_X9_9 g_11 rfl (fun _ => rfl) dX9_write_10 ?_
    refine X_aload_n dX9_write_13 rfl rfl ?_
    refine X_get (v := .int (σ.1 11 1)) ck_X9 f_X9_18 g_11 rfl (fun _ => rfl) dX9_write_14 ?_
    refine X_iload_n dX9_write_17 rfl rfl ?_
    refine X_iast g_12 dX9_write_18 h (fun σ1 h => ?_)
    refine X_aload_n dX9_write_19 rfl rfl ?_
    refine X_dup dX9_write_20 rfl ?_
    refine X_get (v := .int (σ1.1 11 1)) ck_X9 f_X9_18 g_11 rfl (fun _ => rfl) dX9_write_21 ?_
    refine X_iconst (v := 1) dX9_write_24 iconst_1 ?_
    refine X_iadd dX9_write_25 ?_
    refine X_putI ck_X9 f_X9_18 rfl g_11 rfl rfl rfl dX9_write_26 h (fun σ2 h => ?_)
    exact X_retv rfl dX9_write_29 h
def w_X9_endOperand_l0 (J57 : Sg → Prop) : Nat → Sg → Prop
  | 0, _ => False
  | n0 + 1, σ3 => if (σ3.1 11 3) ≤ 0 then (J57 σ3) else (w_X9_lastWaiting  σ3 (fun r5 σ4 => bd (fun (σ6 : Sg) => w_X9_lastWaiting  σ6 (fun r8 σ7 => w_X9_write (-r8) σ7 (fun  σ9 => bd (sI σ9 11 3 ((σ9.1 11 3) - (1 : Int32))) fun σ10 => bd (sI σ10 11 4 ((σ10.1 11 4) - (1 : Int32))) fun σ11 => w_X9_endOperand_l0 J57 n0 σ11))) fun J25 => if r5 = (33 : Int32) then (J25 σ4) else (w_X9_lastWaiting  σ4 (fun r13 σ12 => if r13 = (95 : Int32) then (J25 σ12) else (J57 σ12)))))
def w_X9_endOperand (σ : Sg) (Q : Sg → Prop) : Prop := bd (fun (σ1 : Sg) => bd (sI σ1 11 6 (0 : Int32)) fun σ2 => Q σ2) fun J57 => ∃ n, w_X9_endOperand_l0 J57 n σ
set_option maxRecDepth 100000 in
set_option maxHeartbeats 4000000 in
theorem s_X9_endOperand (sx : Nat × (Nat → Int32)) (σ : Sg) (Q : Sg → Prop) (h : w_X9_endOperand σ Q) : Ct mX9_endOperand 2 false (0, 0) sx G0 [.ref 11] σ (qV Q) := by
  refine Ct.of (L := [some (.ref 11)]) (by decide) (Nat.le_of_ble_eq_true rfl) rfl ?_
  unfold w_X9_endOperand at h
  refine bd_j h (fun J57 e57 h => ?_)
  have j57 : ∀ (σ1 : Sg) , J57  σ1 → Ex mX9_endOperand 2 false (0, 0) sx G0 57 [some (.ref 11)] [] σ1 (qV Q) := by
    intro  σ1  h
    subst e57
    replace h := h
    refine X_aload_n dX9_endOperand_57 rfl rfl ?_
    refine X_iconst (v := 0) dX9_endOperand_58 iconst_0 ?_
    refine X_putI ck_X9 f_X9_31 rfl g_11 rfl rfl rfl dX9_endOperand_59 h (fun σ2 h => ?_)
    exact X_retv rfl dX9_endOperand_62 h
  obtain ⟨n0, h⟩ := h
  have key0 : ∀ (n : Nat) (σ3 : Sg) , w_X9_endOperand_l0 J57 n  σ3 → Ex mX9_endOperand 2 false (0, 0) sx G0 0 [some (.ref 11)] [] σ3 (qV Q) := by
    intro n0
    induction n0 with
    | zero => intro _  h; exact h.elim
    | succ n0 ih0 =>
      intro  σ3  h
      unfold w_X9_endOperand_l0 at h
      refine X_aload_n dX9_endOperand_0 rfl rfl ?_
      refine X_get (v := .int (σ3.1 11 3)) ck_X9 f_X9_22 g_11 rfl (fun _ => rfl) dX9_endOperand_1 ?_
      refine X_if_le (tgt := 57) dX9_endOperand_4 (by decide) h (fun h => ?_) (fun h => ?_)
      · exact j57 _  h
      · refine X_aload_n dX9_endOperand_7 rfl rfl ?_
        refine X_callVi [] [] c_X9_lastWaiting v_X9_lastWaiting lk_X9_81 dX9_endOperand_8 g_11 rfl rfl rfl (by decide) (Nat.le_of_ble_eq_true rfl) rfl (s_X9_lastWaiting sx   σ3 _ h) (fun r5 σ4 h => ?_)
        refine X_bipush (v := 33) dX9_endOperand_11 bipush_33 ?_
        refine bd_j h (fun J25 e25 h => ?_)
        have j25 : ∀ (σ6 : Sg) , J25  σ6 → Ex mX9_endOperand 2 false (0, 0) sx G0 25 [some (.ref 11)] [] σ6 (qV Q) := by
          intro  σ6  h
          subst e25
          replace h := h
          refine X_aload_n dX9_endOperand_25 rfl rfl ?_
          refine X_aload_n dX9_endOperand_26 rfl rfl ?_
          refine X_callVi [] [.ref 11] c_X9_lastWaiting v_X9_lastWaiting lk_X9_81 dX9_endOperand_27 g_11 rfl rfl rfl (by decide) (Nat.le_of_ble_eq_true rfl) rfl (s_X9_lastWaiting sx   σ6 _ h) (fun r8 σ7 h => ?_)
          refine X_ineg dX9_endOperand_30 ?_
          refine X_callVv [.int (-r8)] [] c_X9_write v_X9_write lk_X9_62 dX9_endOperand_31 g_11 rfl rfl rfl (by decide) (Nat.le_of_ble_eq_true rfl) rfl (s_X9_write sx (-r8)  σ7 _ h) (fun  σ9 h => ?_)
          refine X_aload_n dX9_endOperand_34 rfl rfl ?_
          refine X_dup dX9_endOperand_35 rfl ?_
          refine X_get (v := .int (σ9.1 11 3)) ck_X9 f_X9_22 g_11 rfl (fun _ => rfl) dX9_endOperand_36 ?_
          refine X_iconst (v := 1) dX9_endOperand_39 iconst_1 ?_
          refine X_isub dX9_endOperand_40 ?_
          refine X_putI ck_X9 f_X9_22 rfl g_11 rfl rfl rfl dX9_endOperand_41 h (fun σ10 h => ?_)
          refine X_aload_n dX9_endOperand_44 rfl rfl ?_
          refine X_dup dX9_endOperand_45 rfl ?_
          refine X_get (v := .int (σ10.1 11 4)) ck_X9 f_X9_25 g_11 rfl (fun _ => rfl) dX9_endOperand_46 ?_
          refine X_iconst (v := 1) dX9_endOperand_49 iconst_1 ?_
          refine X_isub dX9_endOperand_50 ?_
          refine X_putI ck_X9 f_X9_25 rfl g_11 rfl rfl rfl dX9_endOperand_51 h (fun σ11 h => ?_)
          refine X_goto (tgt := 0) dX9_endOperand_54 (by decide) ?_
          exact ih0 _  h
        refine X_icmp_eq (tgt := 25) dX9_endOperand_13 (by decide) h (fun h => ?_) (fun h => ?_)
        · exact j25 _  h
        · refine X_aload_n dX9_endOperand_16 rfl rfl ?_
          refine X_callVi [] [] c_X9_lastWaiting v_X9_lastWaiting lk_X9_81 dX9_endOperand_17 g_11 rfl rfl rfl (by decide) (Nat.le_of_ble_eq_true rfl) rfl (s_X9_lastWaiting sx   σ4 _ h) (fun r13 σ12 h => ?_)
          refine X_bipush (v := 95) dX9_endOperand_20 bipush_95 ?_
          refine X_icmp_ne (tgt := 57) dX9_endOperand_22 (by decide) h (fun h => ?_) (fun h => ?_)
          · exact j57 _  h
          · exact j25 _  h
  exact key0 _ _  h
def w_X9_isDigit (a0 : Int32) (σ : Sg) (Q : Int32 → Sg → Prop) : Prop := if a0 < (48 : Int32) then (Q (0 : Int32) σ) else (if (57 : Int32) < a0 then (Q (0 : Int32) σ) else (Q (1 : Int32) σ))
set_option maxRecDepth 100000 in
set_option maxHeartbeats 4000000 in
theorem s_X9_isDigit (sx : Nat × (Nat → Int32)) (a0 : Int32) (σ : Sg) (Q : Int32 → Sg → Prop) (h : w_X9_isDigit a0 σ Q) : Ct mX9_isDigit 0 false (0, 0) sx G0 [.int a0] σ (qI Q) := by
  refine Ct.of (L := [some (.int a0)]) (by decide) (Nat.le_of_ble_eq_true rfl) rfl ?_
  unfold w_X9_isDigit at h
  refine X_iload_n dX9_isDigit_0 rfl rfl ?_
  refine X_bipush (v := 48) dX9_isDigit_1 bipush_48 ?_
  refine X_icmp_lt (tgt := 16) dX9_isDigit_3 (by decide) h (fun h => ?_) (fun h => ?_)
  · refine X_iconst (v := 0) dX9_isDigit_16 iconst_0 ?_
    exact X_retz rfl rfl dX9_isDigit_17 h
  · refine X_iload_n dX9_isDigit_6 rfl rfl ?_
    refine X_bipush (v := 57) dX9_isDigit_7 bipush_57 ?_
    refine X_icmp_gt (tgt := 16) dX9_isDigit_9 (by decide) h (fun h => ?_) (fun h => ?_)
    · refine X_iconst (v := 0) dX9_isDigit_16 iconst_0 ?_
      exact X_retz rfl rfl dX9_isDigit_17 h
    · refine X_iconst (v := 1) dX9_isDigit_12 iconst_1 ?_
      refine X_goto (tgt := 17) dX9_isDigit_13 (by decide) ?_
      exact X_retz rfl rfl dX9_isDigit_17 h
def w_X9_number_l6 (b0 : Int32) (c0 : Int32) (J55 : Int32 → Int32 → Sg → Prop) : Nat → Int32 → Int32 → Sg → Prop
  | 0, _, _, _ => False
  | n6 + 1, x6, x7, σ8 => if (4 : Int32) ≤ x6 then (J55 x6 x7 σ8) else (if c0 ≤ (b0 + x6) then (J55 x6 x7 σ8) else (vp_in (b0 + x6) 120 ∧ w_X9_isDigit (σ8.1 14 (Int32.toNatClampNeg (b0 + x6))) σ8 (fun r10 σ9 => if r10 = 0 then (J55 x6 x7 σ9) else (vp_in (b0 + x6) 120 ∧ bd ((((10 : Int32) * x7) + (σ9.1 14 (Int32.toNatClampNeg (b0 + x6)))) - (48 : Int32)) fun x11 => w_X9_number_l6 b0 c0 J55 n6 (x6 + 1) x11 σ9))))
def w_X9_number (b0 : Int32) (c0 : Int32) (σ : Sg) (Q : Int32 → Sg → Prop) : Prop := bd (fun (x1 : Int32) (x2 : Int32) (σ3 : Sg) => w_X9_write x2 σ3 (fun  σ4 => w_X9_endOperand  σ4 (fun  σ5 => Q x1 σ5))) fun J55 => ∃ n, w_X9_number_l6 b0 c0 J55 n (0 : Int32) (0 : Int32) σ
set_option maxRecDepth 100000 in
set_option maxHeartbeats 4000000 in
theorem s_X9_number (sx : Nat × (Nat → Int32)) (b0 : Int32) (c0 : Int32) (σ : Sg) (Q : Int32 → Sg → Prop) (h : w_X9_number b0 c0 σ Q) : Ct mX9_number 3 false (0, 0) sx G0 [.ref 11, .ref 14, .int b0, .int c0] σ (qI Q) := by
  refine Ct.of (L := [some (.ref 11), some (.ref 14), some (.int b0), some (.int c0), none, none]) (by decide) (Nat.le_of_ble_eq_true rfl) rfl ?_
  unfold w_X9_number at h
  refine X_iconst (v := 0) dX9_number_0 iconst_0 ?_
  refine X_istore (L' := [some (.ref 11), some (.ref 14), some (.int b0), some (.int c0), some (.int (0 : Int32)), none]) dX9_number_1 (by decide) rfl ?_
  refine X_iconst (v := 0) dX9_number_3 iconst_0 ?_
  refine X_istore (L' := [some (.ref 11), some (.ref 14), some (.int b0), some (.int c0), some (.int (0 : Int32)), some (.int (0 : Int32))]) dX9_number_4 (by decide) rfl ?_
  refine bd_j h (fun J55 e55 h => ?_)
  have j55 : ∀ (x1 : Int32) (x2 : Int32) (σ3 : Sg) , J55 x1 x2 σ3 → Ex mX9_number 3 false (0, 0) sx G0 55 [some (.ref 11), none, none, none, some (.int x1), some (.int x2)] [] σ3 (qI Q) := by
    intro x1 x2 σ3  h
    subst e55
    replace h := h
    refine X_aload_n dX9_number_55 rfl rfl ?_
    refine X_iload dX9_number_56 rfl ?_
    refine X_callVv [.int x2] [] c_X9_write v_X9_write lk_X9_62 dX9_number_58 g_11 rfl rfl rfl (by decide) (Nat.le_of_ble_eq_true rfl) rfl (s_X9_write sx x2  σ3 _ h) (fun  σ4 h => ?_)
    refine X_aload_n dX9_number_61 rfl rfl ?_
    refine X_callVv [] [] c_X9_endOperand v_X9_endOperand lk_X9_65 dX9_number_62 g_11 rfl rfl rfl (by decide) (Nat.le_of_ble_eq_true rfl) rfl (s_X9_endOperand sx   σ4 _ h) (fun  σ5 h => ?_)
    refine X_iload dX9_number_65 rfl ?_
    exact X_reti rfl dX9_number_67 h
  obtain ⟨n6, h⟩ := h
  have key6 : ∀ (n : Nat) (x6 : Int32) (x7 : Int32) (σ8 : Sg) , w_X9_number_l6 b0 c0 J55 n x6 x7 σ8 → Ex mX9_number 3 false (0, 0) sx G0 6 [some (.ref 11), some (.ref 14), some (.int b0), some (.int c0), some (.int x6), some (.int x7)] [] σ8 (qI Q) := by
    intro n6
    induction n6 with
    | zero => intro _ _ _  h; exact h.elim
    | succ n6 ih6 =>
      intro x6 x7 σ8  h
      unfold w_X9_number_l6 at h
      refine X_iload dX9_number_6 rfl ?_
      refine X_iconst (v := 4) dX9_number_8 iconst_4 ?_
      refine X_icmp_ge (tgt := 55) dX9_number_9 (by decide) h (fun h => ?_) (fun h => ?_)
      · refine X_drop (L' := [some (.ref 11), none, none, none, some (.int x6), some (.int x7)]) ⟨rfl, ⟨rfl, ⟨rfl, trivial⟩⟩⟩ ?_
        exact j55 _ _ _  h
      · refine X_iload_n dX9_number_12 rfl rfl ?_
        refine X_iload dX9_number_13 rfl ?_
        refine X_iadd dX9_number_15 ?_
        refine X_iload_n dX9_number_16 rfl rfl ?_
        refine X_icmp_ge (tgt := 55) dX9_number_17 (by decide) h (fun h => ?_) (fun h => ?_)
        · refine X_drop (L' := [some (.ref 11), none, none, none, some (.int x6), some (.int x7)]) ⟨rfl, ⟨rfl, ⟨rfl, trivial⟩⟩⟩ ?_
          exact j55 _ _ _  h
        · refine X_aload_n dX9_number_20 rfl rfl ?_
          refine X_iload_n dX9_number_21 rfl rfl ?_
          refine X_iload dX9_number_22 rfl ?_
          refine X_iadd dX9_number_24 ?_
          refine X_iald g_14 dX9_number_25 h (fun h => ?_)
          refine X_callSi [.int (σ8.1 14 (Int32.toNatClampNeg (b0 + x6)))] [] c_X9_isDigit t_X9_isDigit lk_X9_50 dX9_number_26 rfl (by decide) (Nat.le_of_ble_eq_true rfl) rfl (s_X9_isDigit sx (σ8.1 14 (Int32.toNatClampNeg (b0 + x6)))  σ8 _ h) (fun r10 σ9 h => ?_)
          refine X_if_eq (tgt := 55) dX9_number_29 (by decide) h (fun h => ?_) (fun h => ?_)
          · refine X_drop (L' := [some (.ref 11), none, none, none, some (.int x6), some (.int x7)]) ⟨rfl, ⟨rfl, ⟨rfl, trivial⟩⟩⟩ ?_
            exact j55 _ _ _  h
          · refine X_bipush (v := 10) dX9_number_32 bipush_10 ?_
            refine X_iload dX9_number_34 rfl ?_
            refine X_imul dX9_number_36 ?_
            refine X_aload_n dX9_number_37 rfl rfl ?_
            refine X_iload_n dX9_number_38 rfl rfl ?_
            refine X_iload dX9_number_39 rfl ?_
            refine X_iadd dX9_number_41 ?_
            refine X_iald g_14 dX9_number_42 h (fun h => ?_)
            refine X_iadd dX9_number_43 ?_
            refine X_bipush (v := 48) dX9_number_44 bipush_48 ?_
            refine X_isub dX9_number_46 ?_
            refine X_topI h (fun x11 h => ?_)
            refine X_istore (L' := [some (.ref 11), some (.ref 14), some (.int b0), some (.int c0), some (.int x6), some (.int x11)]) dX9_number_47 (by decide) rfl ?_
            refine X_iinc (v := (x6 + 1)) (L' := [some (.ref 11), some (.ref 14), some (.int b0), some (.int c0), some (.int (x6 + 1)), some (.int x11)]) dX9_number_49 rfl rfl (by decide) rfl ?_
            refine X_goto (tgt := 6) dX9_number_52 (by decide) ?_
            exact ih6 _ _ _  h
  exact key6 _ _ _ _  h
def w_X9_operand (b0 : Int32) (c0 : Int32) (σ : Sg) (Q : Int32 → Sg → Prop) : Prop := vp_in b0 120 ∧ bd (σ.1 14 (Int32.toNatClampNeg b0)) fun x1 => w_X9_isDigit x1 σ (fun r3 σ2 => if r3 = 0 then (w_X8_isName x1 σ2 (fun r5 σ4 => if r5 = 0 then (bd (fun (σ6 : Sg) => if (σ6.1 11 4) < (6 : Int32) then (bd (sI σ6 11 4 ((σ6.1 11 4) + (1 : Int32))) fun σ7 => bd (fun (σ8 : Sg) => bd (fun (x9 : Int32) (σ10 : Sg) => w_X9_await x9 σ10 (fun  σ11 => Q (1 : Int32) σ11)) fun J116 => if x1 = (45 : Int32) then (J116 (95 : Int32) σ8) else (J116 x1 σ8)) fun J101 => if x1 = (40 : Int32) then (bd (sI σ7 11 5 ((σ7.1 11 5) + (1 : Int32))) fun σ12 => J101 σ12) else (J101 σ7)) else (Q (0 : Int32) σ6)) fun J63 => if x1 = (40 : Int32) then (J63 σ4) else (if x1 = (33 : Int32) then (J63 σ4) else (if x1 = (45 : Int32) then (J63 σ4) else (Q (0 : Int32) σ4)))) else (w_X9_write (-x1) σ4 (fun  σ13 => w_X9_endOperand  σ13 (fun  σ14 => Q (1 : Int32) σ14))))) else (w_X9_number b0 c0 σ2 (fun r16 σ15 => Q r16 σ15)))
set_option maxRecDepth 100000 in
set_option maxHeartbeats 4000000 in
theorem s_X9_operand (sx : Nat × (Nat → Int32)) (b0 : Int32) (c0 : Int32) (σ : Sg) (Q : Int32 → Sg → Prop) (h : w_X9_operand b0 c0 σ Q) : Ct mX9_operand 4 false (0, 0) sx G0 [.ref 11, .ref 14, .int b0, .int c0] σ (qI Q) := by
  refine Ct.of (L := [some (.ref 11), some (.ref 14), some (.int b0), some (.int c0), none]) (by decide) (Nat.le_of_ble_eq_true rfl) rfl ?_
  unfold w_X9_operand at h
  refine X_aload_n dX9_operand_0 rfl rfl ?_
  refine X_iload_n dX9_operand_1 rfl rfl ?_
  refine X_iald g_14 dX9_operand_2 h (fun h => ?_)
  refine X_topI h (fun x1 h => ?_)
  refine X_istore (L' := [some (.ref 11), some (.ref 14), some (.int b0), some (.int c0), some (.int x1)]) dX9_operand_3 (by decide) rfl ?_
  refine X_iload dX9_operand_5 rfl ?_
  refine X_callSi [.int x1] [] c_X9_isDigit t_X9_isDigit lk_X9_50 dX9_operand_7 rfl (by decide) (Nat.le_of_ble_eq_true rfl) rfl (s_X9_isDigit sx x1  σ _ h) (fun r3 σ2 h => ?_)
  refine X_if_eq (tgt := 21) dX9_operand_10 (by decide) h (fun h => ?_) (fun h => ?_)
  · refine X_iload dX9_operand_21 rfl ?_
    refine X_callSi [.int x1] [] c_X8_isName t_X8_isName lk_X9_57 dX9_operand_23 rfl (by decide) (Nat.le_of_ble_eq_true rfl) rfl (s_X8_isName sx x1  σ2 _ h) (fun r5 σ4 h => ?_)
    refine X_if_eq (tgt := 42) dX9_operand_26 (by decide) h (fun h => ?_) (fun h => ?_)
    · refine X_iload dX9_operand_42 rfl ?_
      refine X_bipush (v := 40) dX9_operand_44 bipush_40 ?_
      refine bd_j h (fun J63 e63 h => ?_)
      have j63 : ∀ (σ6 : Sg) , J63  σ6 → Ex mX9_operand 4 false (0, 0) sx G0 63 [some (.ref 11), none, none, none, some (.int x1)] [] σ6 (qI Q) := by
        intro  σ6  h
        subst e63
        replace h := h
        refine X_aload_n dX9_operand_63 rfl rfl ?_
        refine X_get (v := .int (σ6.1 11 4)) ck_X9 f_X9_25 g_11 rfl (fun _ => rfl) dX9_operand_64 ?_
        refine X_bipush (v := 6) dX9_operand_67 bipush_6 ?_
        refine X_icmp_lt (tgt := 74) dX9_operand_69 (by decide) h (fun h => ?_) (fun h => ?_)
        · refine X_aload_n dX9_operand_74 rfl rfl ?_
          refine X_dup dX9_operand_75 rfl ?_
          refine X_get (v := .int (σ6.1 11 4)) ck_X9 f_X9_25 g_11 rfl (fun _ => rfl) dX9_operand_76 ?_
          refine X_iconst (v := 1) dX9_operand_79 iconst_1 ?_
          refine X_iadd dX9_operand_80 ?_
          refine X_putI ck_X9 f_X9_25 rfl g_11 rfl rfl rfl dX9_operand_81 h (fun σ7 h => ?_)
          refine X_iload dX9_operand_84 rfl ?_
          refine X_bipush (v := 40) dX9_operand_86 bipush_40 ?_
          refine bd_j h (fun J101 e101 h => ?_)
          have j101 : ∀ (σ8 : Sg) , J101  σ8 → Ex mX9_operand 4 false (0, 0) sx G0 101 [some (.ref 11), none, none, none, some (.int x1)] [] σ8 (qI Q) := by
            intro  σ8  h
            subst e101
            replace h := h
            refine X_aload_n dX9_operand_101 rfl rfl ?_
            refine X_iload dX9_operand_102 rfl ?_
            refine X_bipush (v := 45) dX9_operand_104 bipush_45 ?_
            refine bd_j h (fun J116 e116 h => ?_)
            have j116 : ∀ (x9 : Int32) (σ10 : Sg) , J116 x9 σ10 → Ex mX9_operand 4 false (0, 0) sx G0 116 [none, none, none, none, none] [.int x9, .ref 11] σ10 (qI Q) := by
              intro x9 σ10  h
              subst e116
              replace h := h
              refine X_callVv [.int x9] [] c_X9_await v_X9_await lk_X9_68 dX9_operand_116 g_11 rfl rfl rfl (by decide) (Nat.le_of_ble_eq_true rfl) rfl (s_X9_await sx x9  σ10 _ h) (fun  σ11 h => ?_)
              refine X_iconst (v := 1) dX9_operand_119 iconst_1 ?_
              exact X_reti rfl dX9_operand_120 h
            refine X_icmp_ne (tgt := 114) dX9_operand_106 (by decide) h (fun h => ?_) (fun h => ?_)
            · refine X_iload dX9_operand_114 rfl ?_
              refine X_drop (L' := [none, none, none, none, none]) trivial ?_
              exact j116 _ _  h
            · refine X_bipush (v := 95) dX9_operand_109 bipush_95 ?_
              refine X_goto (tgt := 116) dX9_operand_111 (by decide) ?_
              refine X_drop (L' := [none, none, none, none, none]) trivial ?_
              exact j116 _ _  h
          refine X_icmp_ne (tgt := 101) dX9_operand_88 (by decide) h (fun h => ?_) (fun h => ?_)
          · exact j101 _  h
          · refine X_aload_n dX9_operand_91 rfl rfl ?_
            refine X_dup dX9_operand_92 rfl ?_
            refine X_get (v := .int (σ7.1 11 5)) ck_X9 f_X9_28 g_11 rfl (fun _ => rfl) dX9_operand_93 ?_
            refine X_iconst (v := 1) dX9_operand_96 iconst_1 ?_
            refine X_iadd dX9_operand_97 ?_
            refine X_putI ck_X9 f_X9_28 rfl g_11 rfl rfl rfl dX9_operand_98 h (fun σ12 h => ?_)
            exact j101 _  h
        · refine X_iconst (v := 0) dX9_operand_72 iconst_0 ?_
          exact X_reti rfl dX9_operand_73 h
      refine X_icmp_eq (tgt := 63) dX9_operand_46 (by decide) h (fun h => ?_) (fun h => ?_)
      · refine X_drop (L' := [some (.ref 11), none, none, none, some (.int x1)]) ⟨rfl, ⟨rfl, trivial⟩⟩ ?_
        exact j63 _  h
      · refine X_iload dX9_operand_49 rfl ?_
        refine X_bipush (v := 33) dX9_operand_51 bipush_33 ?_
        refine X_icmp_eq (tgt := 63) dX9_operand_53 (by decide) h (fun h => ?_) (fun h => ?_)
        · refine X_drop (L' := [some (.ref 11), none, none, none, some (.int x1)]) ⟨rfl, ⟨rfl, trivial⟩⟩ ?_
          exact j63 _  h
        · refine X_iload dX9_operand_56 rfl ?_
          refine X_bipush (v := 45) dX9_operand_58 bipush_45 ?_
          refine X_icmp_ne (tgt := 72) dX9_operand_60 (by decide) h (fun h => ?_) (fun h => ?_)
          · refine X_iconst (v := 0) dX9_operand_72 iconst_0 ?_
            exact X_reti rfl dX9_operand_73 h
          · refine X_drop (L' := [some (.ref 11), none, none, none, some (.int x1)]) ⟨rfl, ⟨rfl, trivial⟩⟩ ?_
            exact j63 _  h
    · refine X_aload_n dX9_operand_29 rfl rfl ?_
      refine X_iload dX9_operand_30 rfl ?_
      refine X_ineg dX9_operand_32 ?_
      refine X_callVv [.int (-x1)] [] c_X9_write v_X9_write lk_X9_62 dX9_operand_33 g_11 rfl rfl rfl (by decide) (Nat.le_of_ble_eq_true rfl) rfl (s_X9_write sx (-x1)  σ4 _ h) (fun  σ13 h => ?_)
      refine X_aload_n dX9_operand_36 rfl rfl ?_
      refine X_callVv [] [] c_X9_endOperand v_X9_endOperand lk_X9_65 dX9_operand_37 g_11 rfl rfl rfl (by decide) (Nat.le_of_ble_eq_true rfl) rfl (s_X9_endOperand sx   σ13 _ h) (fun  σ14 h => ?_)
      refine X_iconst (v := 1) dX9_operand_40 iconst_1 ?_
      exact X_reti rfl dX9_operand_41 h
  · refine X_aload_n dX9_operand_13 rfl rfl ?_
    refine X_aload_n dX9_operand_14 rfl rfl ?_
    refine X_iload_n dX9_operand_15 rfl rfl ?_
    refine X_iload_n dX9_operand_16 rfl rfl ?_
    refine X_callVi [.ref 14, .int b0, .int c0] [] c_X9_number v_X9_number lk_X9_54 dX9_operand_17 g_11 rfl rfl rfl (by decide) (Nat.le_of_ble_eq_true rfl) rfl (s_X9_number sx b0 c0  σ2 _ h) (fun r16 σ15 h => ?_)
    exact X_reti rfl dX9_operand_20 h
