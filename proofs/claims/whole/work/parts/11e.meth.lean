def w_X11_buy (a0 : Int32) (b0 : Int32) (c0 : Int32) (σ : Sg) (Q : Int32 → Sg → Prop) : Prop := w_X11_within a0 (1 : Int32) (3 : Int32) σ (fun r2 σ1 => if r2 = 0 then (Q (-1 : Int32) σ1) else (w_X11_within b0 (0 : Int32) (30 : Int32) σ1 (fun r4 σ3 => if r4 = 0 then (Q (-1 : Int32) σ3) else (w_X11_within c0 (0 : Int32) (1 : Int32) σ3 (fun r6 σ5 => if r6 = 0 then (Q (-1 : Int32) σ5) else (w_X6_followAll b0 σ5 (fun  σ7 => w_X6_bestHouses a0 b0 σ7 (fun r9 σ8 => if c0 = (1 : Int32) then (Q r9 σ8) else (w_X6_passersOf r9 σ8 (fun r11 σ10 => w_J6_bitCount_0f7a4 r11 σ10 (fun r13 σ12 => Q r13 σ12)))))))))))
set_option maxRecDepth 100000 in
set_option maxHeartbeats 4000000 in
theorem s_X11_buy (sx : Nat × (Nat → Int32)) (a0 : Int32) (b0 : Int32) (c0 : Int32) (σ : Sg) (Q : Int32 → Sg → Prop) (h : w_X11_buy a0 b0 c0 σ Q) : Ct mX11_buy 7 false (0, 0) sx G0 [.ref 0, .int a0, .int b0, .int c0] σ (qI Q) := by
  refine Ct.of (L := [some (.ref 0), some (.int a0), some (.int b0), some (.int c0), none]) (by decide) (Nat.le_of_ble_eq_true rfl) rfl ?_
  unfold w_X11_buy at h
  refine X_iload_n dX11_buy_0 rfl rfl ?_
  refine X_iconst (v := 1) dX11_buy_1 iconst_1 ?_
  refine X_iconst (v := 3) dX11_buy_2 iconst_3 ?_
  refine X_callSi [.int a0, .int (1 : Int32), .int (3 : Int32)] [] c_X11_within t_X11_within lk_X11_110 dX11_buy_3 rfl (by decide) (Nat.le_of_ble_eq_true rfl) rfl (s_X11_within sx a0 (1 : Int32) (3 : Int32)  σ _ h) (fun r2 σ1 h => ?_)
  refine X_if_eq (tgt := 28) dX11_buy_6 (by decide) h (fun h => ?_) (fun h => ?_)
  · refine X_iconst (v := -1) dX11_buy_28 iconst_m1 ?_
    exact X_reti rfl dX11_buy_29 h
  · refine X_iload_n dX11_buy_9 rfl rfl ?_
    refine X_iconst (v := 0) dX11_buy_10 iconst_0 ?_
    refine X_bipush (v := 30) dX11_buy_11 bipush_30 ?_
    refine X_callSi [.int b0, .int (0 : Int32), .int (30 : Int32)] [] c_X11_within t_X11_within lk_X11_110 dX11_buy_13 rfl (by decide) (Nat.le_of_ble_eq_true rfl) rfl (s_X11_within sx b0 (0 : Int32) (30 : Int32)  σ1 _ h) (fun r4 σ3 h => ?_)
    refine X_if_eq (tgt := 28) dX11_buy_16 (by decide) h (fun h => ?_) (fun h => ?_)
    · refine X_iconst (v := -1) dX11_buy_28 iconst_m1 ?_
      exact X_reti rfl dX11_buy_29 h
    · refine X_iload_n dX11_buy_19 rfl rfl ?_
      refine X_iconst (v := 0) dX11_buy_20 iconst_0 ?_
      refine X_iconst (v := 1) dX11_buy_21 iconst_1 ?_
      refine X_callSi [.int c0, .int (0 : Int32), .int (1 : Int32)] [] c_X11_within t_X11_within lk_X11_110 dX11_buy_22 rfl (by decide) (Nat.le_of_ble_eq_true rfl) rfl (s_X11_within sx c0 (0 : Int32) (1 : Int32)  σ3 _ h) (fun r6 σ5 h => ?_)
      refine X_if_ne (tgt := 30) dX11_buy_25 (by decide) h (fun h => ?_) (fun h => ?_)
      · refine X_aload_n dX11_buy_30 rfl rfl ?_
        refine X_get (v := .ref 28) ck_X11 f_X11_48 g_0 rfl (fun _ => rfl) dX11_buy_31 ?_
        refine X_iload_n dX11_buy_34 rfl rfl ?_
        refine X_callVv [.int b0] [] c_X6_followAll v_X6_followAll lk_X11_217 dX11_buy_35 g_28 rfl rfl rfl (by decide) (Nat.le_of_ble_eq_true rfl) rfl (s_X6_followAll sx b0  σ5 _ h) (fun  σ7 h => ?_)
        refine X_aload_n dX11_buy_38 rfl rfl ?_
        refine X_get (v := .ref 28) ck_X11 f_X11_48 g_0 rfl (fun _ => rfl) dX11_buy_39 ?_
        refine X_iload_n dX11_buy_42 rfl rfl ?_
        refine X_iload_n dX11_buy_43 rfl rfl ?_
        refine X_callVi [.int a0, .int b0] [] c_X6_bestHouses v_X6_bestHouses lk_X11_230 dX11_buy_44 g_28 rfl rfl rfl (by decide) (Nat.le_of_ble_eq_true rfl) rfl (s_X6_bestHouses sx a0 b0  σ7 _ h) (fun r9 σ8 h => ?_)
        refine X_istore (L' := [some (.ref 0), some (.int a0), some (.int b0), some (.int c0), some (.int r9)]) dX11_buy_47 (by decide) rfl ?_
        refine X_iload_n dX11_buy_49 rfl rfl ?_
        refine X_iconst (v := 1) dX11_buy_50 iconst_1 ?_
        refine X_icmp_ne (tgt := 59) dX11_buy_51 (by decide) h (fun h => ?_) (fun h => ?_)
        · refine X_aload_n dX11_buy_59 rfl rfl ?_
          refine X_get (v := .ref 28) ck_X11 f_X11_48 g_0 rfl (fun _ => rfl) dX11_buy_60 ?_
          refine X_iload dX11_buy_63 rfl ?_
          refine X_callVi [.int r9] [] c_X6_passersOf v_X6_passersOf lk_X11_233 dX11_buy_65 g_28 rfl rfl rfl (by decide) (Nat.le_of_ble_eq_true rfl) rfl (s_X6_passersOf sx r9  σ8 _ h) (fun r11 σ10 h => ?_)
          refine X_callSi [.int r11] [] c_J6_bitCount_0f7a4 t_J6_bitCount_0f7a4 lk_X11_236 dX11_buy_68 rfl (by decide) (Nat.le_of_ble_eq_true rfl) rfl (s_J6_bitCount_0f7a4 sx r11  σ10 _ h) (fun r13 σ12 h => ?_)
          exact X_reti rfl dX11_buy_71 h
        · refine X_iload dX11_buy_54 rfl ?_
          refine X_goto (tgt := 71) dX11_buy_56 (by decide) ?_
          exact X_reti rfl dX11_buy_71 h
      · refine X_iconst (v := -1) dX11_buy_28 iconst_m1 ?_
        exact X_reti rfl dX11_buy_29 h
def w_X11_judge (a0 : Int32) (b0 : Int32) (σ : Sg) (Q : Int32 → Sg → Prop) : Prop := w_X11_isShelf a0 σ (fun r2 σ1 => if r2 = 0 then (Q (-1 : Int32) σ1) else (w_X7_hasCarriage b0 σ1 (fun r4 σ3 => if r4 = 0 then (Q (-1 : Int32) σ3) else (vp_in a0 6 ∧ w_X10_refusalAsBytes (Int32.toNatClampNeg a0) σ3 (fun r7 σ6 => if r7 = 0 then (vp_in a0 6 ∧ w_X5_firstWrongNow (Int32.toNatClampNeg a0) b0 σ6 (fun r10 σ9 => Q r10 σ9)) else (Q r7 σ6))))))
set_option maxRecDepth 100000 in
set_option maxHeartbeats 4000000 in
theorem s_X11_judge (sx : Nat × (Nat → Int32)) (a0 : Int32) (b0 : Int32) (σ : Sg) (Q : Int32 → Sg → Prop) (h : w_X11_judge a0 b0 σ Q) : Ct mX11_judge 7 false (0, 0) sx G0 [.ref 0, .int a0, .int b0] σ (qI Q) := by
  refine Ct.of (L := [some (.ref 0), some (.int a0), some (.int b0), none]) (by decide) (Nat.le_of_ble_eq_true rfl) rfl ?_
  unfold w_X11_judge at h
  refine X_iload_n dX11_judge_0 rfl rfl ?_
  refine X_callSi [.int a0] [] c_X11_isShelf t_X11_isShelf lk_X11_106 dX11_judge_1 rfl (by decide) (Nat.le_of_ble_eq_true rfl) rfl (s_X11_isShelf sx a0  σ _ h) (fun r2 σ1 h => ?_)
  refine X_if_eq (tgt := 18) dX11_judge_4 (by decide) h (fun h => ?_) (fun h => ?_)
  · refine X_iconst (v := -1) dX11_judge_18 iconst_m1 ?_
    exact X_reti rfl dX11_judge_19 h
  · refine X_aload_n dX11_judge_7 rfl rfl ?_
    refine X_get (v := .ref 1) ck_X11 f_X11_10 g_0 rfl (fun _ => rfl) dX11_judge_8 ?_
    refine X_iload_n dX11_judge_11 rfl rfl ?_
    refine X_callVi [.int b0] [] c_X7_hasCarriage v_X7_hasCarriage lk_X11_156 dX11_judge_12 g_1 rfl rfl rfl (by decide) (Nat.le_of_ble_eq_true rfl) rfl (s_X7_hasCarriage sx b0  σ1 _ h) (fun r4 σ3 h => ?_)
    refine X_if_ne (tgt := 20) dX11_judge_15 (by decide) h (fun h => ?_) (fun h => ?_)
    · refine X_aload_n dX11_judge_20 rfl rfl ?_
      refine X_get (v := .ref 44) ck_X11 f_X11_86 g_0 rfl (fun _ => rfl) dX11_judge_21 ?_
      refine X_iload_n dX11_judge_24 rfl rfl ?_
      have hk5 := vp_lt h.1
      refine X_aald g_44 (Or.inr rfl) dX11_judge_25 h (fun q => g_shelves (vp_lt q)) (fun h => ?_)
      refine X_callVi [] [] c_X10_refusalAsBytes v_X10_refusalAsBytes lk_X11_241 dX11_judge_26 (g_shelf hk5) rfl rfl rfl (by decide) (Nat.le_of_ble_eq_true rfl) rfl (s_X10_refusalAsBytes sx (Int32.toNatClampNeg a0) hk5 σ3 _ h) (fun r7 σ6 h => ?_)
      refine X_istore_n (L' := [some (.ref 0), some (.int a0), some (.int b0), some (.int r7)]) dX11_judge_29 rfl (by decide) rfl ?_
      refine X_iload_n dX11_judge_30 rfl rfl ?_
      refine X_if_eq (tgt := 38) dX11_judge_31 (by decide) h (fun h => ?_) (fun h => ?_)
      · refine X_aload_n dX11_judge_38 rfl rfl ?_
        refine X_get (v := .ref 31) ck_X11 f_X11_57 g_0 rfl (fun _ => rfl) dX11_judge_39 ?_
        refine X_aload_n dX11_judge_42 rfl rfl ?_
        refine X_get (v := .ref 44) ck_X11 f_X11_86 g_0 rfl (fun _ => rfl) dX11_judge_43 ?_
        refine X_iload_n dX11_judge_46 rfl rfl ?_
        have hk8 := vp_lt h.1
        refine X_aald g_44 (Or.inr rfl) dX11_judge_47 h (fun q => g_shelves (vp_lt q)) (fun h => ?_)
        refine X_iload_n dX11_judge_48 rfl rfl ?_
        refine X_callVi [.ref (45 + 2 * (Int32.toNatClampNeg a0)), .int b0] [] c_X5_firstWrongNow v_X5_firstWrongNow lk_X11_245 dX11_judge_49 g_31 rfl rfl rfl (by decide) (Nat.le_of_ble_eq_true rfl) rfl (s_X5_firstWrongNow sx (Int32.toNatClampNeg a0) b0 hk8 σ6 _ h) (fun r10 σ9 h => ?_)
        exact X_reti rfl dX11_judge_52 h
      · refine X_iload_n dX11_judge_34 rfl rfl ?_
        refine X_goto (tgt := 52) dX11_judge_35 (by decide) ?_
        exact X_reti rfl dX11_judge_52 h
    · refine X_iconst (v := -1) dX11_judge_18 iconst_m1 ?_
      exact X_reti rfl dX11_judge_19 h
def w_X11_dined (a0 : Int32) (b0 : Int32) (c0 : Int32) (σ : Sg) (Q : Int32 → Sg → Prop) : Prop := w_X11_isShelf a0 σ (fun r2 σ1 => if r2 = 0 then (Q (-1 : Int32) σ1) else (w_X7_hasCarriage b0 σ1 (fun r4 σ3 => if r4 = 0 then (Q (-1 : Int32) σ3) else (w_X11_within c0 (0 : Int32) (3 : Int32) σ3 (fun r6 σ5 => if r6 = 0 then (Q (-1 : Int32) σ5) else (vp_in a0 6 ∧ w_X10_refusalAsBytes (Int32.toNatClampNeg a0) σ5 (fun r9 σ8 => if r9 = 0 then (if c0 = 0 then (w_X5_waysThatFit (Int32.toNatClampNeg a0) b0 σ8 (fun r18 σ17 => Q r18 σ17)) else (if c0 = (3 : Int32) then (w_X5_pacesThatFit (Int32.toNatClampNeg a0) b0 σ8 (fun r16 σ15 => Q r16 σ15)) else (bd (fun (x10 : Int32) (x11 : Int32) (σ12 : Sg) => w_X5_cellsThatFit (Int32.toNatClampNeg a0) x10 x11 σ12 (fun r14 σ13 => Q r14 σ13)) fun J100 => if c0 = (2 : Int32) then (J100 b0 (1 : Int32) σ8) else (J100 b0 (0 : Int32) σ8)))) else (Q r9 σ8))))))))
set_option maxRecDepth 100000 in
set_option maxHeartbeats 4000000 in
theorem s_X11_dined (sx : Nat × (Nat → Int32)) (a0 : Int32) (b0 : Int32) (c0 : Int32) (σ : Sg) (Q : Int32 → Sg → Prop) (h : w_X11_dined a0 b0 c0 σ Q) : Ct mX11_dined 7 false (0, 0) sx G0 [.ref 0, .int a0, .int b0, .int c0] σ (qI Q) := by
  refine Ct.of (L := [some (.ref 0), some (.int a0), some (.int b0), some (.int c0), none, none]) (by decide) (Nat.le_of_ble_eq_true rfl) rfl ?_
  unfold w_X11_dined at h
  refine X_iload_n dX11_dined_0 rfl rfl ?_
  refine X_callSi [.int a0] [] c_X11_isShelf t_X11_isShelf lk_X11_106 dX11_dined_1 rfl (by decide) (Nat.le_of_ble_eq_true rfl) rfl (s_X11_isShelf sx a0  σ _ h) (fun r2 σ1 h => ?_)
  refine X_if_eq (tgt := 27) dX11_dined_4 (by decide) h (fun h => ?_) (fun h => ?_)
  · refine X_iconst (v := -1) dX11_dined_27 iconst_m1 ?_
    exact X_reti rfl dX11_dined_28 h
  · refine X_aload_n dX11_dined_7 rfl rfl ?_
    refine X_get (v := .ref 1) ck_X11 f_X11_10 g_0 rfl (fun _ => rfl) dX11_dined_8 ?_
    refine X_iload_n dX11_dined_11 rfl rfl ?_
    refine X_callVi [.int b0] [] c_X7_hasCarriage v_X7_hasCarriage lk_X11_156 dX11_dined_12 g_1 rfl rfl rfl (by decide) (Nat.le_of_ble_eq_true rfl) rfl (s_X7_hasCarriage sx b0  σ1 _ h) (fun r4 σ3 h => ?_)
    refine X_if_eq (tgt := 27) dX11_dined_15 (by decide) h (fun h => ?_) (fun h => ?_)
    · refine X_iconst (v := -1) dX11_dined_27 iconst_m1 ?_
      exact X_reti rfl dX11_dined_28 h
    · refine X_iload_n dX11_dined_18 rfl rfl ?_
      refine X_iconst (v := 0) dX11_dined_19 iconst_0 ?_
      refine X_iconst (v := 3) dX11_dined_20 iconst_3 ?_
      refine X_callSi [.int c0, .int (0 : Int32), .int (3 : Int32)] [] c_X11_within t_X11_within lk_X11_110 dX11_dined_21 rfl (by decide) (Nat.le_of_ble_eq_true rfl) rfl (s_X11_within sx c0 (0 : Int32) (3 : Int32)  σ3 _ h) (fun r6 σ5 h => ?_)
      refine X_if_ne (tgt := 29) dX11_dined_24 (by decide) h (fun h => ?_) (fun h => ?_)
      · refine X_aload_n dX11_dined_29 rfl rfl ?_
        refine X_get (v := .ref 44) ck_X11 f_X11_86 g_0 rfl (fun _ => rfl) dX11_dined_30 ?_
        refine X_iload_n dX11_dined_33 rfl rfl ?_
        have hk7 := vp_lt h.1
        refine X_aald g_44 (Or.inr rfl) dX11_dined_34 h (fun q => g_shelves (vp_lt q)) (fun h => ?_)
        refine X_astore (L' := [some (.ref 0), some (.int a0), some (.int b0), some (.int c0), some (.ref (45 + 2 * (Int32.toNatClampNeg a0))), none]) dX11_dined_35 (by decide) rfl ?_
        refine X_aload dX11_dined_37 rfl ?_
        refine X_callVi [] [] c_X10_refusalAsBytes v_X10_refusalAsBytes lk_X11_241 dX11_dined_39 (g_shelf hk7) rfl rfl rfl (by decide) (Nat.le_of_ble_eq_true rfl) rfl (s_X10_refusalAsBytes sx (Int32.toNatClampNeg a0) hk7 σ5 _ h) (fun r9 σ8 h => ?_)
        refine X_istore (L' := [some (.ref 0), some (.int a0), some (.int b0), some (.int c0), some (.ref (45 + 2 * (Int32.toNatClampNeg a0))), some (.int r9)]) dX11_dined_42 (by decide) rfl ?_
        refine X_iload dX11_dined_44 rfl ?_
        refine X_if_eq (tgt := 52) dX11_dined_46 (by decide) h (fun h => ?_) (fun h => ?_)
        · refine X_iload_n dX11_dined_52 rfl rfl ?_
          refine X_if_ne (tgt := 67) dX11_dined_53 (by decide) h (fun h => ?_) (fun h => ?_)
          · refine X_iload_n dX11_dined_67 rfl rfl ?_
            refine X_iconst (v := 3) dX11_dined_68 iconst_3 ?_
            refine X_icmp_ne (tgt := 83) dX11_dined_69 (by decide) h (fun h => ?_) (fun h => ?_)
            · refine X_aload_n dX11_dined_83 rfl rfl ?_
              refine X_get (v := .ref 31) ck_X11 f_X11_57 g_0 rfl (fun _ => rfl) dX11_dined_84 ?_
              refine X_aload dX11_dined_87 rfl ?_
              refine X_iload_n dX11_dined_89 rfl rfl ?_
              refine X_iload_n dX11_dined_90 rfl rfl ?_
              refine X_iconst (v := 2) dX11_dined_91 iconst_2 ?_
              refine bd_j h (fun J100 e100 h => ?_)
              have j100 : ∀ (x10 : Int32) (x11 : Int32) (σ12 : Sg) , J100 x10 x11 σ12 → Ex mX11_dined 7 false (0, 0) sx G0 100 [none, none, none, none, none, none] [.int x11, .int x10, .ref (45 + 2 * (Int32.toNatClampNeg a0)), .ref 31] σ12 (qI Q) := by
                intro x10 x11 σ12  h
                subst e100
                replace h := h
                refine X_callVi [.ref (45 + 2 * (Int32.toNatClampNeg a0)), .int x10, .int x11] [] c_X5_cellsThatFit v_X5_cellsThatFit lk_X11_255 dX11_dined_100 g_31 rfl rfl rfl (by decide) (Nat.le_of_ble_eq_true rfl) rfl (s_X5_cellsThatFit sx (Int32.toNatClampNeg a0) x10 x11 hk7 σ12 _ h) (fun r14 σ13 h => ?_)
                exact X_reti rfl dX11_dined_103 h
              refine X_icmp_ne (tgt := 99) dX11_dined_92 (by decide) h (fun h => ?_) (fun h => ?_)
              · refine X_iconst (v := 0) dX11_dined_99 iconst_0 ?_
                refine X_drop (L' := [none, none, none, none, none, none]) trivial ?_
                exact j100 _ _ _  h
              · refine X_iconst (v := 1) dX11_dined_95 iconst_1 ?_
                refine X_goto (tgt := 100) dX11_dined_96 (by decide) ?_
                refine X_drop (L' := [none, none, none, none, none, none]) trivial ?_
                exact j100 _ _ _  h
            · refine X_aload_n dX11_dined_72 rfl rfl ?_
              refine X_get (v := .ref 31) ck_X11 f_X11_57 g_0 rfl (fun _ => rfl) dX11_dined_73 ?_
              refine X_aload dX11_dined_76 rfl ?_
              refine X_iload_n dX11_dined_78 rfl rfl ?_
              refine X_callVi [.ref (45 + 2 * (Int32.toNatClampNeg a0)), .int b0] [] c_X5_pacesThatFit v_X5_pacesThatFit lk_X11_252 dX11_dined_79 g_31 rfl rfl rfl (by decide) (Nat.le_of_ble_eq_true rfl) rfl (s_X5_pacesThatFit sx (Int32.toNatClampNeg a0) b0 hk7 σ8 _ h) (fun r16 σ15 h => ?_)
              exact X_reti rfl dX11_dined_82 h
          · refine X_aload_n dX11_dined_56 rfl rfl ?_
            refine X_get (v := .ref 31) ck_X11 f_X11_57 g_0 rfl (fun _ => rfl) dX11_dined_57 ?_
            refine X_aload dX11_dined_60 rfl ?_
            refine X_iload_n dX11_dined_62 rfl rfl ?_
            refine X_callVi [.ref (45 + 2 * (Int32.toNatClampNeg a0)), .int b0] [] c_X5_waysThatFit v_X5_waysThatFit lk_X11_249 dX11_dined_63 g_31 rfl rfl rfl (by decide) (Nat.le_of_ble_eq_true rfl) rfl (s_X5_waysThatFit sx (Int32.toNatClampNeg a0) b0 hk7 σ8 _ h) (fun r18 σ17 h => ?_)
            exact X_reti rfl dX11_dined_66 h
        · refine X_iload dX11_dined_49 rfl ?_
          exact X_reti rfl dX11_dined_51 h
      · refine X_iconst (v := -1) dX11_dined_27 iconst_m1 ?_
        exact X_reti rfl dX11_dined_28 h
def w_X11_reins (a0 : Int32) (b0 : Int32) (c0 : Int32) (σ : Sg) (Q : Int32 → Sg → Prop) : Prop := w_X11_isPair a0 σ (fun r2 σ1 => if r2 = 0 then (Q (-1 : Int32) σ1) else (w_X11_within b0 (0 : Int32) (12 : Int32) σ1 (fun r4 σ3 => if r4 = 0 then (Q (-1 : Int32) σ3) else (if (-1 : Int32) ≤ c0 then (if c0 < b0 then (vp_in (a0 - a0 / (10 : Int32) * (10 : Int32)) 8 ∧ w_X1_fewestReins (a0 / (10 : Int32)) (σ3.1 6 (Int32.toNatClampNeg (a0 - a0 / (10 : Int32) * (10 : Int32)))) b0 σ3 (fun r6 σ5 => if r6 = (2147483647 : Int32) then (Q (-2 : Int32) σ5) else (if c0 = (-1 : Int32) then (w_X1_reinsIn r6 σ5 (fun r10 σ9 => Q r10 σ9)) else (w_X1_reinAt r6 c0 σ5 (fun r8 σ7 => Q r8 σ7))))) else (Q (-2 : Int32) σ3)) else (Q (-1 : Int32) σ3)))))
set_option maxRecDepth 100000 in
set_option maxHeartbeats 4000000 in
theorem s_X11_reins (sx : Nat × (Nat → Int32)) (a0 : Int32) (b0 : Int32) (c0 : Int32) (σ : Sg) (Q : Int32 → Sg → Prop) (h : w_X11_reins a0 b0 c0 σ Q) : Ct mX11_reins 7 false (0, 0) sx G0 [.ref 0, .int a0, .int b0, .int c0] σ (qI Q) := by
  refine Ct.of (L := [some (.ref 0), some (.int a0), some (.int b0), some (.int c0), none]) (by decide) (Nat.le_of_ble_eq_true rfl) rfl ?_
  unfold w_X11_reins at h
  refine X_aload_n dX11_reins_0 rfl rfl ?_
  refine X_iload_n dX11_reins_1 rfl rfl ?_
  refine X_callVi [.int a0] [] c_X11_isPair v_X11_isPair lk_X11_190 dX11_reins_2 g_0 rfl rfl rfl (by decide) (Nat.le_of_ble_eq_true rfl) rfl (s_X11_isPair sx a0  σ _ h) (fun r2 σ1 h => ?_)
  refine X_if_eq (tgt := 23) dX11_reins_5 (by decide) h (fun h => ?_) (fun h => ?_)
  · refine X_iconst (v := -1) dX11_reins_23 iconst_m1 ?_
    exact X_reti rfl dX11_reins_24 h
  · refine X_iload_n dX11_reins_8 rfl rfl ?_
    refine X_iconst (v := 0) dX11_reins_9 iconst_0 ?_
    refine X_bipush (v := 12) dX11_reins_10 bipush_12 ?_
    refine X_callSi [.int b0, .int (0 : Int32), .int (12 : Int32)] [] c_X11_within t_X11_within lk_X11_110 dX11_reins_12 rfl (by decide) (Nat.le_of_ble_eq_true rfl) rfl (s_X11_within sx b0 (0 : Int32) (12 : Int32)  σ1 _ h) (fun r4 σ3 h => ?_)
    refine X_if_eq (tgt := 23) dX11_reins_15 (by decide) h (fun h => ?_) (fun h => ?_)
    · refine X_iconst (v := -1) dX11_reins_23 iconst_m1 ?_
      exact X_reti rfl dX11_reins_24 h
    · refine X_iload_n dX11_reins_18 rfl rfl ?_
      refine X_iconst (v := -1) dX11_reins_19 iconst_m1 ?_
      refine X_icmp_ge (tgt := 25) dX11_reins_20 (by decide) h (fun h => ?_) (fun h => ?_)
      · refine X_iload_n dX11_reins_25 rfl rfl ?_
        refine X_iload_n dX11_reins_26 rfl rfl ?_
        refine X_icmp_lt (tgt := 33) dX11_reins_27 (by decide) h (fun h => ?_) (fun h => ?_)
        · refine X_aload_n dX11_reins_33 rfl rfl ?_
          refine X_get (v := .ref 32) ck_X11 f_X11_64 g_0 rfl (fun _ => rfl) dX11_reins_34 ?_
          refine X_iload_n dX11_reins_37 rfl rfl ?_
          refine X_bipush (v := 10) dX11_reins_38 bipush_10 ?_
          refine X_idiv dX11_reins_40 (by decide) ?_
          refine X_aload_n dX11_reins_41 rfl rfl ?_
          refine X_get (v := .ref 1) ck_X11 f_X11_10 g_0 rfl (fun _ => rfl) dX11_reins_42 ?_
          refine X_get (v := .ref 6) ck_X7 f_X11_193 g_1 rfl (fun _ => rfl) dX11_reins_45 ?_
          refine X_iload_n dX11_reins_48 rfl rfl ?_
          refine X_bipush (v := 10) dX11_reins_49 bipush_10 ?_
          refine X_irem dX11_reins_51 (by decide) ?_
          refine X_iald g_6 dX11_reins_52 h (fun h => ?_)
          refine X_iload_n dX11_reins_53 rfl rfl ?_
          refine X_callVi [.int (a0 / (10 : Int32)), .int (σ3.1 6 (Int32.toNatClampNeg (a0 - a0 / (10 : Int32) * (10 : Int32)))), .int b0] [] c_X1_fewestReins v_X1_fewestReins lk_X11_259 dX11_reins_54 g_32 rfl rfl rfl (by decide) (Nat.le_of_ble_eq_true rfl) rfl (s_X1_fewestReins sx (a0 / (10 : Int32)) (σ3.1 6 (Int32.toNatClampNeg (a0 - a0 / (10 : Int32) * (10 : Int32)))) b0  σ3 _ h) (fun r6 σ5 h => ?_)
          refine X_istore (L' := [some (.ref 0), some (.int a0), some (.int b0), some (.int c0), some (.int r6)]) dX11_reins_57 (by decide) rfl ?_
          refine X_iload dX11_reins_59 rfl ?_
          refine X_ldcw (v := 2147483647) dX11_reins_61 k_X11_262 ?_
          refine X_icmp_ne (tgt := 70) dX11_reins_64 (by decide) h (fun h => ?_) (fun h => ?_)
          · refine X_iload_n dX11_reins_70 rfl rfl ?_
            refine X_iconst (v := -1) dX11_reins_71 iconst_m1 ?_
            refine X_icmp_ne (tgt := 83) dX11_reins_72 (by decide) h (fun h => ?_) (fun h => ?_)
            · refine X_iload dX11_reins_83 rfl ?_
              refine X_iload_n dX11_reins_85 rfl rfl ?_
              refine X_callSi [.int r6, .int c0] [] c_X1_reinAt t_X1_reinAt lk_X11_266 dX11_reins_86 rfl (by decide) (Nat.le_of_ble_eq_true rfl) rfl (s_X1_reinAt sx r6 c0  σ5 _ h) (fun r8 σ7 h => ?_)
              exact X_reti rfl dX11_reins_89 h
            · refine X_iload dX11_reins_75 rfl ?_
              refine X_callSi [.int r6] [] c_X1_reinsIn t_X1_reinsIn lk_X11_263 dX11_reins_77 rfl (by decide) (Nat.le_of_ble_eq_true rfl) rfl (s_X1_reinsIn sx r6  σ5 _ h) (fun r10 σ9 h => ?_)
              refine X_goto (tgt := 89) dX11_reins_80 (by decide) ?_
              exact X_reti rfl dX11_reins_89 h
          · refine X_bipush (v := -2) dX11_reins_67 bipush_m2 ?_
            exact X_reti rfl dX11_reins_69 h
        · refine X_bipush (v := -2) dX11_reins_30 bipush_m2 ?_
          exact X_reti rfl dX11_reins_32 h
      · refine X_iconst (v := -1) dX11_reins_23 iconst_m1 ?_
        exact X_reti rfl dX11_reins_24 h
def w_X11_chance (a0 : Int32) (b0 : Int32) (c0 : Int32) (d0 : Int32) (σ : Sg) (Q : Int64 → Sg → Prop) : Prop := w_X11_isPair a0 σ (fun r2 σ1 => if r2 = 0 then (Q (-9223372036854775808 : Int64) σ1) else (w_X11_within b0 (0 : Int32) (8 : Int32) σ1 (fun r4 σ3 => if r4 = 0 then (Q (-9223372036854775808 : Int64) σ3) else (w_X11_within c0 (0 : Int32) (12 : Int32) σ3 (fun r6 σ5 => if r6 = 0 then (Q (-9223372036854775808 : Int64) σ5) else (w_X11_within d0 (0 : Int32) (1 : Int32) σ5 (fun r8 σ7 => if r8 = 0 then (Q (-9223372036854775808 : Int64) σ7) else (w_X1_weight a0 b0 c0 (0 : Int32) σ7 (fun r10 σ9 => w_X1_fraction r10 b0 d0 σ9 (fun r12 σ11 => Q r12 σ11))))))))))
set_option maxRecDepth 100000 in
set_option maxHeartbeats 4000000 in
theorem s_X11_chance (sx : Nat × (Nat → Int32)) (a0 : Int32) (b0 : Int32) (c0 : Int32) (d0 : Int32) (σ : Sg) (Q : Int64 → Sg → Prop) (h : w_X11_chance a0 b0 c0 d0 σ Q) : Ct mX11_chance 6 false (0, 0) sx G0 [.ref 0, .int a0, .int b0, .int c0, .int d0] σ (qJ Q) := by
  refine Ct.of (L := [some (.ref 0), some (.int a0), some (.int b0), some (.int c0), some (.int d0)]) (by decide) (Nat.le_of_ble_eq_true rfl) rfl ?_
  unfold w_X11_chance at h
  refine X_aload_n dX11_chance_0 rfl rfl ?_
  refine X_iload_n dX11_chance_1 rfl rfl ?_
  refine X_callVi [.int a0] [] c_X11_isPair v_X11_isPair lk_X11_190 dX11_chance_2 g_0 rfl rfl rfl (by decide) (Nat.le_of_ble_eq_true rfl) rfl (s_X11_isPair sx a0  σ _ h) (fun r2 σ1 h => ?_)
  refine X_if_eq (tgt := 38) dX11_chance_5 (by decide) h (fun h => ?_) (fun h => ?_)
  · refine X_ldc2 (v := -9223372036854775808) dX11_chance_38 k_X11_271 ?_
    exact X_retl rfl dX11_chance_41 h
  · refine X_iload_n dX11_chance_8 rfl rfl ?_
    refine X_iconst (v := 0) dX11_chance_9 iconst_0 ?_
    refine X_bipush (v := 8) dX11_chance_10 bipush_8 ?_
    refine X_callSi [.int b0, .int (0 : Int32), .int (8 : Int32)] [] c_X11_within t_X11_within lk_X11_110 dX11_chance_12 rfl (by decide) (Nat.le_of_ble_eq_true rfl) rfl (s_X11_within sx b0 (0 : Int32) (8 : Int32)  σ1 _ h) (fun r4 σ3 h => ?_)
    refine X_if_eq (tgt := 38) dX11_chance_15 (by decide) h (fun h => ?_) (fun h => ?_)
    · refine X_ldc2 (v := -9223372036854775808) dX11_chance_38 k_X11_271 ?_
      exact X_retl rfl dX11_chance_41 h
    · refine X_iload_n dX11_chance_18 rfl rfl ?_
      refine X_iconst (v := 0) dX11_chance_19 iconst_0 ?_
      refine X_bipush (v := 12) dX11_chance_20 bipush_12 ?_
      refine X_callSi [.int c0, .int (0 : Int32), .int (12 : Int32)] [] c_X11_within t_X11_within lk_X11_110 dX11_chance_22 rfl (by decide) (Nat.le_of_ble_eq_true rfl) rfl (s_X11_within sx c0 (0 : Int32) (12 : Int32)  σ3 _ h) (fun r6 σ5 h => ?_)
      refine X_if_eq (tgt := 38) dX11_chance_25 (by decide) h (fun h => ?_) (fun h => ?_)
      · refine X_ldc2 (v := -9223372036854775808) dX11_chance_38 k_X11_271 ?_
        exact X_retl rfl dX11_chance_41 h
      · refine X_iload dX11_chance_28 rfl ?_
        refine X_iconst (v := 0) dX11_chance_30 iconst_0 ?_
        refine X_iconst (v := 1) dX11_chance_31 iconst_1 ?_
        refine X_callSi [.int d0, .int (0 : Int32), .int (1 : Int32)] [] c_X11_within t_X11_within lk_X11_110 dX11_chance_32 rfl (by decide) (Nat.le_of_ble_eq_true rfl) rfl (s_X11_within sx d0 (0 : Int32) (1 : Int32)  σ5 _ h) (fun r8 σ7 h => ?_)
        refine X_if_ne (tgt := 42) dX11_chance_35 (by decide) h (fun h => ?_) (fun h => ?_)
        · refine X_aload_n dX11_chance_42 rfl rfl ?_
          refine X_get (v := .ref 32) ck_X11 f_X11_64 g_0 rfl (fun _ => rfl) dX11_chance_43 ?_
          refine X_aload_n dX11_chance_46 rfl rfl ?_
          refine X_get (v := .ref 32) ck_X11 f_X11_64 g_0 rfl (fun _ => rfl) dX11_chance_47 ?_
          refine X_iload_n dX11_chance_50 rfl rfl ?_
          refine X_iload_n dX11_chance_51 rfl rfl ?_
          refine X_iload_n dX11_chance_52 rfl rfl ?_
          refine X_iconst (v := 0) dX11_chance_53 iconst_0 ?_
          refine X_callVl [.int a0, .int b0, .int c0, .int (0 : Int32)] [.ref 32] c_X1_weight v_X1_weight lk_X11_273 dX11_chance_54 g_32 rfl rfl rfl (by decide) (Nat.le_of_ble_eq_true rfl) rfl (s_X1_weight sx a0 b0 c0 (0 : Int32)  σ7 _ h) (fun r10 σ9 h => ?_)
          refine X_iload_n dX11_chance_57 rfl rfl ?_
          refine X_iload dX11_chance_58 rfl ?_
          refine X_callVl [.long r10, .int b0, .int d0] [] c_X1_fraction v_X1_fraction lk_X11_277 dX11_chance_60 g_32 rfl rfl rfl (by decide) (Nat.le_of_ble_eq_true rfl) rfl (s_X1_fraction sx r10 b0 d0  σ9 _ h) (fun r12 σ11 h => ?_)
          exact X_retl rfl dX11_chance_63 h
        · refine X_ldc2 (v := -9223372036854775808) dX11_chance_38 k_X11_271 ?_
          exact X_retl rfl dX11_chance_41 h
def w_X11_mean (a0 : Int32) (b0 : Int32) (c0 : Int32) (d0 : Int32) (σ : Sg) (Q : Int64 → Sg → Prop) : Prop := w_X11_isPair a0 σ (fun r2 σ1 => if r2 = 0 then (Q (-9223372036854775808 : Int64) σ1) else (w_X11_within b0 (0 : Int32) (8 : Int32) σ1 (fun r4 σ3 => if r4 = 0 then (Q (-9223372036854775808 : Int64) σ3) else (w_X11_within c0 (0 : Int32) (12 : Int32) σ3 (fun r6 σ5 => if r6 = 0 then (Q (-9223372036854775808 : Int64) σ5) else (w_X11_within d0 (0 : Int32) (1 : Int32) σ5 (fun r8 σ7 => if r8 = 0 then (Q (-9223372036854775808 : Int64) σ7) else (w_X1_weight a0 b0 c0 (1 : Int32) σ7 (fun r10 σ9 => w_X1_fraction r10 b0 d0 σ9 (fun r12 σ11 => Q r12 σ11))))))))))
set_option maxRecDepth 100000 in
set_option maxHeartbeats 4000000 in
theorem s_X11_mean (sx : Nat × (Nat → Int32)) (a0 : Int32) (b0 : Int32) (c0 : Int32) (d0 : Int32) (σ : Sg) (Q : Int64 → Sg → Prop) (h : w_X11_mean a0 b0 c0 d0 σ Q) : Ct mX11_mean 6 false (0, 0) sx G0 [.ref 0, .int a0, .int b0, .int c0, .int d0] σ (qJ Q) := by
  refine Ct.of (L := [some (.ref 0), some (.int a0), some (.int b0), some (.int c0), some (.int d0)]) (by decide) (Nat.le_of_ble_eq_true rfl) rfl ?_
  unfold w_X11_mean at h
  refine X_aload_n dX11_mean_0 rfl rfl ?_
  refine X_iload_n dX11_mean_1 rfl rfl ?_
  refine X_callVi [.int a0] [] c_X11_isPair v_X11_isPair lk_X11_190 dX11_mean_2 g_0 rfl rfl rfl (by decide) (Nat.le_of_ble_eq_true rfl) rfl (s_X11_isPair sx a0  σ _ h) (fun r2 σ1 h => ?_)
  refine X_if_eq (tgt := 38) dX11_mean_5 (by decide) h (fun h => ?_) (fun h => ?_)
  · refine X_ldc2 (v := -9223372036854775808) dX11_mean_38 k_X11_271 ?_
    exact X_retl rfl dX11_mean_41 h
  · refine X_iload_n dX11_mean_8 rfl rfl ?_
    refine X_iconst (v := 0) dX11_mean_9 iconst_0 ?_
    refine X_bipush (v := 8) dX11_mean_10 bipush_8 ?_
    refine X_callSi [.int b0, .int (0 : Int32), .int (8 : Int32)] [] c_X11_within t_X11_within lk_X11_110 dX11_mean_12 rfl (by decide) (Nat.le_of_ble_eq_true rfl) rfl (s_X11_within sx b0 (0 : Int32) (8 : Int32)  σ1 _ h) (fun r4 σ3 h => ?_)
    refine X_if_eq (tgt := 38) dX11_mean_15 (by decide) h (fun h => ?_) (fun h => ?_)
    · refine X_ldc2 (v := -9223372036854775808) dX11_mean_38 k_X11_271 ?_
      exact X_retl rfl dX11_mean_41 h
    · refine X_iload_n dX11_mean_18 rfl rfl ?_
      refine X_iconst (v := 0) dX11_mean_19 iconst_0 ?_
      refine X_bipush (v := 12) dX11_mean_20 bipush_12 ?_
      refine X_callSi [.int c0, .int (0 : Int32), .int (12 : Int32)] [] c_X11_within t_X11_within lk_X11_110 dX11_mean_22 rfl (by decide) (Nat.le_of_ble_eq_true rfl) rfl (s_X11_within sx c0 (0 : Int32) (12 : Int32)  σ3 _ h) (fun r6 σ5 h => ?_)
      refine X_if_eq (tgt := 38) dX11_mean_25 (by decide) h (fun h => ?_) (fun h => ?_)
      · refine X_ldc2 (v := -9223372036854775808) dX11_mean_38 k_X11_271 ?_
        exact X_retl rfl dX11_mean_41 h
      · refine X_iload dX11_mean_28 rfl ?_
        refine X_iconst (v := 0) dX11_mean_30 iconst_0 ?_
        refine X_iconst (v := 1) dX11_mean_31 iconst_1 ?_
        refine X_callSi [.int d0, .int (0 : Int32), .int (1 : Int32)] [] c_X11_within t_X11_within lk_X11_110 dX11_mean_32 rfl (by decide) (Nat.le_of_ble_eq_true rfl) rfl (s_X11_within sx d0 (0 : Int32) (1 : Int32)  σ5 _ h) (fun r8 σ7 h => ?_)
        refine X_if_ne (tgt := 42) dX11_mean_35 (by decide) h (fun h => ?_) (fun h => ?_)
        · refine X_aload_n dX11_mean_42 rfl rfl ?_
          refine X_get (v := .ref 32) ck_X11 f_X11_64 g_0 rfl (fun _ => rfl) dX11_mean_43 ?_
          refine X_aload_n dX11_mean_46 rfl rfl ?_
          refine X_get (v := .ref 32) ck_X11 f_X11_64 g_0 rfl (fun _ => rfl) dX11_mean_47 ?_
          refine X_iload_n dX11_mean_50 rfl rfl ?_
          refine X_iload_n dX11_mean_51 rfl rfl ?_
          refine X_iload_n dX11_mean_52 rfl rfl ?_
          refine X_iconst (v := 1) dX11_mean_53 iconst_1 ?_
          refine X_callVl [.int a0, .int b0, .int c0, .int (1 : Int32)] [.ref 32] c_X1_weight v_X1_weight lk_X11_273 dX11_mean_54 g_32 rfl rfl rfl (by decide) (Nat.le_of_ble_eq_true rfl) rfl (s_X1_weight sx a0 b0 c0 (1 : Int32)  σ7 _ h) (fun r10 σ9 h => ?_)
          refine X_iload_n dX11_mean_57 rfl rfl ?_
          refine X_iload dX11_mean_58 rfl ?_
          refine X_callVl [.long r10, .int b0, .int d0] [] c_X1_fraction v_X1_fraction lk_X11_277 dX11_mean_60 g_32 rfl rfl rfl (by decide) (Nat.le_of_ble_eq_true rfl) rfl (s_X1_fraction sx r10 b0 d0  σ9 _ h) (fun r12 σ11 h => ?_)
          exact X_retl rfl dX11_mean_63 h
        · refine X_ldc2 (v := -9223372036854775808) dX11_mean_38 k_X11_271 ?_
          exact X_retl rfl dX11_mean_41 h
def w_X11_drawn (a0 : Int32) (b0 : Int32) (c0 : Int32) (σ : Sg) (Q : Int32 → Sg → Prop) : Prop := if b0 < 0 then (Q (-1 : Int32) σ) else (w_X11_within (b0 / (100 : Int32)) (1 : Int32) (30 : Int32) σ (fun r2 σ1 => if r2 = 0 then (Q (-1 : Int32) σ1) else (w_X11_within (b0 - b0 / (100 : Int32) * (100 : Int32)) (1 : Int32) (40 : Int32) σ1 (fun r4 σ3 => if r4 = 0 then (Q (-1 : Int32) σ3) else (bd (fun (σ5 : Sg) => w_X1_byDraws a0 (b0 / (100 : Int32)) (b0 - b0 / (100 : Int32) * (100 : Int32)) c0 σ5 (fun r7 σ6 => Q r7 σ6)) fun J50 => if c0 = (-1 : Int32) then (J50 σ3) else (w_X7_hasPlace c0 σ3 (fun r9 σ8 => if r9 = 0 then (Q (-1 : Int32) σ8) else (J50 σ8))))))))
set_option maxRecDepth 100000 in
set_option maxHeartbeats 4000000 in
theorem s_X11_drawn (sx : Nat × (Nat → Int32)) (a0 : Int32) (b0 : Int32) (c0 : Int32) (σ : Sg) (Q : Int32 → Sg → Prop) (h : w_X11_drawn a0 b0 c0 σ Q) : Ct mX11_drawn 7 false (0, 0) sx G0 [.ref 0, .int a0, .int b0, .int c0] σ (qI Q) := by
  refine Ct.of (L := [some (.ref 0), some (.int a0), some (.int b0), some (.int c0)]) (by decide) (Nat.le_of_ble_eq_true rfl) rfl ?_
  unfold w_X11_drawn at h
  refine X_iload_n dX11_drawn_0 rfl rfl ?_
  refine X_if_lt (tgt := 30) dX11_drawn_1 (by decide) h (fun h => ?_) (fun h => ?_)
  · refine X_iconst (v := -1) dX11_drawn_30 iconst_m1 ?_
    exact X_reti rfl dX11_drawn_31 h
  · refine X_iload_n dX11_drawn_4 rfl rfl ?_
    refine X_bipush (v := 100) dX11_drawn_5 bipush_100 ?_
    refine X_idiv dX11_drawn_7 (by decide) ?_
    refine X_iconst (v := 1) dX11_drawn_8 iconst_1 ?_
    refine X_bipush (v := 30) dX11_drawn_9 bipush_30 ?_
    refine X_callSi [.int (b0 / (100 : Int32)), .int (1 : Int32), .int (30 : Int32)] [] c_X11_within t_X11_within lk_X11_110 dX11_drawn_11 rfl (by decide) (Nat.le_of_ble_eq_true rfl) rfl (s_X11_within sx (b0 / (100 : Int32)) (1 : Int32) (30 : Int32)  σ _ h) (fun r2 σ1 h => ?_)
    refine X_if_eq (tgt := 30) dX11_drawn_14 (by decide) h (fun h => ?_) (fun h => ?_)
    · refine X_iconst (v := -1) dX11_drawn_30 iconst_m1 ?_
      exact X_reti rfl dX11_drawn_31 h
    · refine X_iload_n dX11_drawn_17 rfl rfl ?_
      refine X_bipush (v := 100) dX11_drawn_18 bipush_100 ?_
      refine X_irem dX11_drawn_20 (by decide) ?_
      refine X_iconst (v := 1) dX11_drawn_21 iconst_1 ?_
      refine X_bipush (v := 40) dX11_drawn_22 bipush_40 ?_
      refine X_callSi [.int (b0 - b0 / (100 : Int32) * (100 : Int32)), .int (1 : Int32), .int (40 : Int32)] [] c_X11_within t_X11_within lk_X11_110 dX11_drawn_24 rfl (by decide) (Nat.le_of_ble_eq_true rfl) rfl (s_X11_within sx (b0 - b0 / (100 : Int32) * (100 : Int32)) (1 : Int32) (40 : Int32)  σ1 _ h) (fun r4 σ3 h => ?_)
      refine X_if_ne (tgt := 32) dX11_drawn_27 (by decide) h (fun h => ?_) (fun h => ?_)
      · refine X_iload_n dX11_drawn_32 rfl rfl ?_
        refine X_iconst (v := -1) dX11_drawn_33 iconst_m1 ?_
        refine bd_j h (fun J50 e50 h => ?_)
        have j50 : ∀ (σ5 : Sg) , J50  σ5 → Ex mX11_drawn 7 false (0, 0) sx G0 50 [some (.ref 0), some (.int a0), some (.int b0), some (.int c0)] [] σ5 (qI Q) := by
          intro  σ5  h
          subst e50
          replace h := h
          refine X_aload_n dX11_drawn_50 rfl rfl ?_
          refine X_get (v := .ref 32) ck_X11 f_X11_64 g_0 rfl (fun _ => rfl) dX11_drawn_51 ?_
          refine X_iload_n dX11_drawn_54 rfl rfl ?_
          refine X_iload_n dX11_drawn_55 rfl rfl ?_
          refine X_bipush (v := 100) dX11_drawn_56 bipush_100 ?_
          refine X_idiv dX11_drawn_58 (by decide) ?_
          refine X_iload_n dX11_drawn_59 rfl rfl ?_
          refine X_bipush (v := 100) dX11_drawn_60 bipush_100 ?_
          refine X_irem dX11_drawn_62 (by decide) ?_
          refine X_iload_n dX11_drawn_63 rfl rfl ?_
          refine X_callVi [.int a0, .int (b0 / (100 : Int32)), .int (b0 - b0 / (100 : Int32) * (100 : Int32)), .int c0] [] c_X1_byDraws v_X1_byDraws lk_X11_288 dX11_drawn_64 g_32 rfl rfl rfl (by decide) (Nat.le_of_ble_eq_true rfl) rfl (s_X1_byDraws sx a0 (b0 / (100 : Int32)) (b0 - b0 / (100 : Int32) * (100 : Int32)) c0  σ5 _ h) (fun r7 σ6 h => ?_)
          exact X_reti rfl dX11_drawn_67 h
        refine X_icmp_eq (tgt := 50) dX11_drawn_34 (by decide) h (fun h => ?_) (fun h => ?_)
        · exact j50 _  h
        · refine X_aload_n dX11_drawn_37 rfl rfl ?_
          refine X_get (v := .ref 1) ck_X11 f_X11_10 g_0 rfl (fun _ => rfl) dX11_drawn_38 ?_
          refine X_iload_n dX11_drawn_41 rfl rfl ?_
          refine X_callVi [.int c0] [] c_X7_hasPlace v_X7_hasPlace lk_X11_285 dX11_drawn_42 g_1 rfl rfl rfl (by decide) (Nat.le_of_ble_eq_true rfl) rfl (s_X7_hasPlace sx c0  σ3 _ h) (fun r9 σ8 h => ?_)
          refine X_if_ne (tgt := 50) dX11_drawn_45 (by decide) h (fun h => ?_) (fun h => ?_)
          · exact j50 _  h
          · refine X_iconst (v := -1) dX11_drawn_48 iconst_m1 ?_
            exact X_reti rfl dX11_drawn_49 h
      · refine X_iconst (v := -1) dX11_drawn_30 iconst_m1 ?_
        exact X_reti rfl dX11_drawn_31 h
def w_X11_hour (σ : Sg) (Q : Int32 → Sg → Prop) : Prop := w_X4_passHour  σ (fun  σ1 => Q (σ1.1 1 10) σ1)
set_option maxRecDepth 100000 in
set_option maxHeartbeats 4000000 in
theorem s_X11_hour (sx : Nat × (Nat → Int32)) (σ : Sg) (Q : Int32 → Sg → Prop) (h : w_X11_hour σ Q) : Ct mX11_hour 6 false (0, 0) sx G0 [.ref 0] σ (qI Q) := by
  refine Ct.of (L := [some (.ref 0)]) (by decide) (Nat.le_of_ble_eq_true rfl) rfl ?_
  unfold w_X11_hour at h
  refine X_aload_n dX11_hour_0 rfl rfl ?_
  refine X_get (v := .ref 38) ck_X11 f_X11_80 g_0 rfl (fun _ => rfl) dX11_hour_1 ?_
  refine X_callVv [] [] c_X4_passHour v_X4_passHour lk_X11_292 dX11_hour_4 g_38 rfl rfl rfl (by decide) (Nat.le_of_ble_eq_true rfl) rfl (s_X4_passHour sx   σ _ h) (fun  σ1 h => ?_)
  refine X_aload_n dX11_hour_7 rfl rfl ?_
  refine X_get (v := .ref 1) ck_X11 f_X11_10 g_0 rfl (fun _ => rfl) dX11_hour_8 ?_
  refine X_get (v := .int (σ1.1 1 10)) ck_X7 f_X11_295 g_1 rfl (fun _ => rfl) dX11_hour_11 ?_
  exact X_reti rfl dX11_hour_14 h
def w_X11_rein (a0 : Int32) (b0 : Int32) (σ : Sg) (Q : Int32 → Sg → Prop) : Prop := w_X7_hasCarriage a0 σ (fun r2 σ1 => if r2 = 0 then (Q (-1 : Int32) σ1) else (w_X11_within b0 (0 : Int32) (1 : Int32) σ1 (fun r4 σ3 => if r4 = 0 then (Q (-1 : Int32) σ3) else (bd (fun (x5 : Int32) (x6 : Int32) (σ7 : Sg) => w_X4_pullRein x5 x6 σ7 (fun r9 σ8 => Q r9 σ8)) fun J36 => if b0 = 0 then (J36 a0 (-1 : Int32) σ3) else (J36 a0 (1 : Int32) σ3)))))
set_option maxRecDepth 100000 in
set_option maxHeartbeats 4000000 in
theorem s_X11_rein (sx : Nat × (Nat → Int32)) (a0 : Int32) (b0 : Int32) (σ : Sg) (Q : Int32 → Sg → Prop) (h : w_X11_rein a0 b0 σ Q) : Ct mX11_rein 1 false (0, 0) sx G0 [.ref 0, .int a0, .int b0] σ (qI Q) := by
  refine Ct.of (L := [some (.ref 0), some (.int a0), some (.int b0)]) (by decide) (Nat.le_of_ble_eq_true rfl) rfl ?_
  unfold w_X11_rein at h
  refine X_aload_n dX11_rein_0 rfl rfl ?_
  refine X_get (v := .ref 1) ck_X11 f_X11_10 g_0 rfl (fun _ => rfl) dX11_rein_1 ?_
  refine X_iload_n dX11_rein_4 rfl rfl ?_
  refine X_callVi [.int a0] [] c_X7_hasCarriage v_X7_hasCarriage lk_X11_156 dX11_rein_5 g_1 rfl rfl rfl (by decide) (Nat.le_of_ble_eq_true rfl) rfl (s_X7_hasCarriage sx a0  σ _ h) (fun r2 σ1 h => ?_)
  refine X_if_eq (tgt := 20) dX11_rein_8 (by decide) h (fun h => ?_) (fun h => ?_)
  · refine X_iconst (v := -1) dX11_rein_20 iconst_m1 ?_
    exact X_reti rfl dX11_rein_21 h
  · refine X_iload_n dX11_rein_11 rfl rfl ?_
    refine X_iconst (v := 0) dX11_rein_12 iconst_0 ?_
    refine X_iconst (v := 1) dX11_rein_13 iconst_1 ?_
    refine X_callSi [.int b0, .int (0 : Int32), .int (1 : Int32)] [] c_X11_within t_X11_within lk_X11_110 dX11_rein_14 rfl (by decide) (Nat.le_of_ble_eq_true rfl) rfl (s_X11_within sx b0 (0 : Int32) (1 : Int32)  σ1 _ h) (fun r4 σ3 h => ?_)
    refine X_if_ne (tgt := 22) dX11_rein_17 (by decide) h (fun h => ?_) (fun h => ?_)
    · refine X_aload_n dX11_rein_22 rfl rfl ?_
      refine X_get (v := .ref 38) ck_X11 f_X11_80 g_0 rfl (fun _ => rfl) dX11_rein_23 ?_
      refine X_iload_n dX11_rein_26 rfl rfl ?_
      refine X_iload_n dX11_rein_27 rfl rfl ?_
      refine bd_j h (fun J36 e36 h => ?_)
      have j36 : ∀ (x5 : Int32) (x6 : Int32) (σ7 : Sg) , J36 x5 x6 σ7 → Ex mX11_rein 1 false (0, 0) sx G0 36 [none, none, none] [.int x6, .int x5, .ref 38] σ7 (qI Q) := by
        intro x5 x6 σ7  h
        subst e36
        replace h := h
        refine X_callVi [.int x5, .int x6] [] c_X4_pullRein v_X4_pullRein lk_X11_298 dX11_rein_36 g_38 rfl rfl rfl (by decide) (Nat.le_of_ble_eq_true rfl) rfl (s_X4_pullRein sx x5 x6  σ7 _ h) (fun r9 σ8 h => ?_)
        exact X_reti rfl dX11_rein_39 h
      refine X_if_ne (tgt := 35) dX11_rein_28 (by decide) h (fun h => ?_) (fun h => ?_)
      · refine X_iconst (v := 1) dX11_rein_35 iconst_1 ?_
        refine X_drop (L' := [none, none, none]) trivial ?_
        exact j36 _ _ _  h
      · refine X_iconst (v := -1) dX11_rein_31 iconst_m1 ?_
        refine X_goto (tgt := 36) dX11_rein_32 (by decide) ?_
        refine X_drop (L' := [none, none, none]) trivial ?_
        exact j36 _ _ _  h
    · refine X_iconst (v := -1) dX11_rein_20 iconst_m1 ?_
      exact X_reti rfl dX11_rein_21 h
def w_X11_shoe (a0 : Int32) (σ : Sg) (Q : Int32 → Sg → Prop) : Prop := w_X7_hasCarriage a0 σ (fun r2 σ1 => if r2 = 0 then (Q (-1 : Int32) σ1) else (w_X4_putShoe a0 σ1 (fun r4 σ3 => Q r4 σ3)))
set_option maxRecDepth 100000 in
set_option maxHeartbeats 4000000 in
theorem s_X11_shoe (sx : Nat × (Nat → Int32)) (a0 : Int32) (σ : Sg) (Q : Int32 → Sg → Prop) (h : w_X11_shoe a0 σ Q) : Ct mX11_shoe 1 false (0, 0) sx G0 [.ref 0, .int a0] σ (qI Q) := by
  refine Ct.of (L := [some (.ref 0), some (.int a0)]) (by decide) (Nat.le_of_ble_eq_true rfl) rfl ?_
  unfold w_X11_shoe at h
  refine X_aload_n dX11_shoe_0 rfl rfl ?_
  refine X_get (v := .ref 1) ck_X11 f_X11_10 g_0 rfl (fun _ => rfl) dX11_shoe_1 ?_
  refine X_iload_n dX11_shoe_4 rfl rfl ?_
  refine X_callVi [.int a0] [] c_X7_hasCarriage v_X7_hasCarriage lk_X11_156 dX11_shoe_5 g_1 rfl rfl rfl (by decide) (Nat.le_of_ble_eq_true rfl) rfl (s_X7_hasCarriage sx a0  σ _ h) (fun r2 σ1 h => ?_)
  refine X_if_eq (tgt := 22) dX11_shoe_8 (by decide) h (fun h => ?_) (fun h => ?_)
  · refine X_iconst (v := -1) dX11_shoe_22 iconst_m1 ?_
    exact X_reti rfl dX11_shoe_23 h
  · refine X_aload_n dX11_shoe_11 rfl rfl ?_
    refine X_get (v := .ref 38) ck_X11 f_X11_80 g_0 rfl (fun _ => rfl) dX11_shoe_12 ?_
    refine X_iload_n dX11_shoe_15 rfl rfl ?_
    refine X_callVi [.int a0] [] c_X4_putShoe v_X4_putShoe lk_X11_301 dX11_shoe_16 g_38 rfl rfl rfl (by decide) (Nat.le_of_ble_eq_true rfl) rfl (s_X4_putShoe sx a0  σ1 _ h) (fun r4 σ3 h => ?_)
    refine X_goto (tgt := 23) dX11_shoe_19 (by decide) ?_
    exact X_reti rfl dX11_shoe_23 h
def w_X11_buys (a0 : Int32) (σ : Sg) (Q : Int32 → Sg → Prop) : Prop := w_X7_hasPlace a0 σ (fun r2 σ1 => if r2 = 0 then (Q (-1 : Int32) σ1) else (vp_in a0 8 ∧ bd (σ1.1 7 (Int32.toNatClampNeg a0)) fun x3 => vp_in a0 8 ∧ bd (sI σ1 7 (Int32.toNatClampNeg a0) (9 : Int32)) fun σ4 => Q x3 σ4))
set_option maxRecDepth 100000 in
set_option maxHeartbeats 4000000 in
theorem s_X11_buys (sx : Nat × (Nat → Int32)) (a0 : Int32) (σ : Sg) (Q : Int32 → Sg → Prop) (h : w_X11_buys a0 σ Q) : Ct mX11_buys 1 false (0, 0) sx G0 [.ref 0, .int a0] σ (qI Q) := by
  refine Ct.of (L := [some (.ref 0), some (.int a0), none]) (by decide) (Nat.le_of_ble_eq_true rfl) rfl ?_
  unfold w_X11_buys at h
  refine X_aload_n dX11_buys_0 rfl rfl ?_
  refine X_get (v := .ref 1) ck_X11 f_X11_10 g_0 rfl (fun _ => rfl) dX11_buys_1 ?_
  refine X_iload_n dX11_buys_4 rfl rfl ?_
  refine X_callVi [.int a0] [] c_X7_hasPlace v_X7_hasPlace lk_X11_285 dX11_buys_5 g_1 rfl rfl rfl (by decide) (Nat.le_of_ble_eq_true rfl) rfl (s_X7_hasPlace sx a0  σ _ h) (fun r2 σ1 h => ?_)
  refine X_if_ne (tgt := 13) dX11_buys_8 (by decide) h (fun h => ?_) (fun h => ?_)
  · refine X_aload_n dX11_buys_13 rfl rfl ?_
    refine X_get (v := .ref 1) ck_X11 f_X11_10 g_0 rfl (fun _ => rfl) dX11_buys_14 ?_
    refine X_get (v := .ref 7) ck_X7 f_X11_304 g_1 rfl (fun _ => rfl) dX11_buys_17 ?_
    refine X_iload_n dX11_buys_20 rfl rfl ?_
    refine X_iald g_7 dX11_buys_21 h (fun h => ?_)
    refine X_topI h (fun x3 h => ?_)
    refine X_istore_n (L' := [some (.ref 0), some (.int a0), some (.int x3)]) dX11_buys_22 rfl (by decide) rfl ?_
    refine X_aload_n dX11_buys_23 rfl rfl ?_
    refine X_get (v := .ref 1) ck_X11 f_X11_10 g_0 rfl (fun _ => rfl) dX11_buys_24 ?_
    refine X_get (v := .ref 7) ck_X7 f_X11_304 g_1 rfl (fun _ => rfl) dX11_buys_27 ?_
    refine X_iload_n dX11_buys_30 rfl rfl ?_
    refine X_bipush (v := 9) dX11_buys_31 bipush_9 ?_
    refine X_iast g_7 dX11_buys_33 h (fun σ4 h => ?_)
    refine X_iload_n dX11_buys_34 rfl rfl ?_
    exact X_reti rfl dX11_buys_35 h
  · refine X_iconst (v := -1) dX11_buys_11 iconst_m1 ?_
    exact X_reti rfl dX11_buys_12 h
def w_X11_led (a0 : Int32) (σ : Sg) (Q : Int32 → Sg → Prop) : Prop := w_X11_within a0 (0 : Int32) (4 : Int32) σ (fun r2 σ1 => if r2 = 0 then (Q (-1 : Int32) σ1) else (vp_in a0 5 ∧ Q (σ1.1 39 (Int32.toNatClampNeg a0)) σ1))
set_option maxRecDepth 100000 in
set_option maxHeartbeats 4000000 in
theorem s_X11_led (sx : Nat × (Nat → Int32)) (a0 : Int32) (σ : Sg) (Q : Int32 → Sg → Prop) (h : w_X11_led a0 σ Q) : Ct mX11_led 1 false (0, 0) sx G0 [.ref 0, .int a0] σ (qI Q) := by
  refine Ct.of (L := [some (.ref 0), some (.int a0)]) (by decide) (Nat.le_of_ble_eq_true rfl) rfl ?_
  unfold w_X11_led at h
  refine X_iload_n dX11_led_0 rfl rfl ?_
  refine X_iconst (v := 0) dX11_led_1 iconst_0 ?_
  refine X_iconst (v := 4) dX11_led_2 iconst_4 ?_
  refine X_callSi [.int a0, .int (0 : Int32), .int (4 : Int32)] [] c_X11_within t_X11_within lk_X11_110 dX11_led_3 rfl (by decide) (Nat.le_of_ble_eq_true rfl) rfl (s_X11_within sx a0 (0 : Int32) (4 : Int32)  σ _ h) (fun r2 σ1 h => ?_)
  refine X_if_eq (tgt := 21) dX11_led_6 (by decide) h (fun h => ?_) (fun h => ?_)
  · refine X_iconst (v := -1) dX11_led_21 iconst_m1 ?_
    exact X_reti rfl dX11_led_22 h
  · refine X_aload_n dX11_led_9 rfl rfl ?_
    refine X_get (v := .ref 38) ck_X11 f_X11_80 g_0 rfl (fun _ => rfl) dX11_led_10 ?_
    refine X_get (v := .ref 39) ck_X4 f_X11_307 g_38 rfl (fun _ => rfl) dX11_led_13 ?_
    refine X_iload_n dX11_led_16 rfl rfl ?_
    refine X_iald g_39 dX11_led_17 h (fun h => ?_)
    refine X_goto (tgt := 22) dX11_led_18 (by decide) ?_
    exact X_reti rfl dX11_led_22 h
def w_X11_image (σ : Sg) (Q : Int32 → Sg → Prop) : Prop := w_X4_keepImage  σ (fun r2 σ1 => Q r2 σ1)
set_option maxRecDepth 100000 in
set_option maxHeartbeats 4000000 in
theorem s_X11_image (sx : Nat × (Nat → Int32)) (σ : Sg) (Q : Int32 → Sg → Prop) (h : w_X11_image σ Q) : Ct mX11_image 2 false (0, 0) sx G0 [.ref 0] σ (qI Q) := by
  refine Ct.of (L := [some (.ref 0)]) (by decide) (Nat.le_of_ble_eq_true rfl) rfl ?_
  unfold w_X11_image at h
  refine X_aload_n dX11_image_0 rfl rfl ?_
  refine X_get (v := .ref 38) ck_X11 f_X11_80 g_0 rfl (fun _ => rfl) dX11_image_1 ?_
  refine X_callVi [] [] c_X4_keepImage v_X4_keepImage lk_X11_310 dX11_image_4 g_38 rfl rfl rfl (by decide) (Nat.le_of_ble_eq_true rfl) rfl (s_X4_keepImage sx   σ _ h) (fun r2 σ1 h => ?_)
  exact X_reti rfl dX11_image_7 h
def w_X11_back (σ : Sg) (Q : Int32 → Sg → Prop) : Prop := w_X4_layBack  σ (fun r2 σ1 => Q r2 σ1)
set_option maxRecDepth 100000 in
set_option maxHeartbeats 4000000 in
theorem s_X11_back (sx : Nat × (Nat → Int32)) (σ : Sg) (Q : Int32 → Sg → Prop) (h : w_X11_back σ Q) : Ct mX11_back 2 false (0, 0) sx G0 [.ref 0] σ (qI Q) := by
  refine Ct.of (L := [some (.ref 0)]) (by decide) (Nat.le_of_ble_eq_true rfl) rfl ?_
  unfold w_X11_back at h
  refine X_aload_n dX11_back_0 rfl rfl ?_
  refine X_get (v := .ref 38) ck_X11 f_X11_80 g_0 rfl (fun _ => rfl) dX11_back_1 ?_
  refine X_callVi [] [] c_X4_layBack v_X4_layBack lk_X11_313 dX11_back_4 g_38 rfl rfl rfl (by decide) (Nat.le_of_ble_eq_true rfl) rfl (s_X4_layBack sx   σ _ h) (fun r2 σ1 h => ?_)
  exact X_reti rfl dX11_back_7 h
def w_X11_undo (σ : Sg) (Q : Int32 → Sg → Prop) : Prop := w_X2_takeBack  σ (fun r2 σ1 => Q r2 σ1)
set_option maxRecDepth 100000 in
set_option maxHeartbeats 4000000 in
theorem s_X11_undo (sx : Nat × (Nat → Int32)) (σ : Sg) (Q : Int32 → Sg → Prop) (h : w_X11_undo σ Q) : Ct mX11_undo 2 false (0, 0) sx G0 [.ref 0] σ (qI Q) := by
  refine Ct.of (L := [some (.ref 0)]) (by decide) (Nat.le_of_ble_eq_true rfl) rfl ?_
  unfold w_X11_undo at h
  refine X_aload_n dX11_undo_0 rfl rfl ?_
  refine X_get (v := .ref 36) ck_X11 f_X11_73 g_0 rfl (fun _ => rfl) dX11_undo_1 ?_
  refine X_callVi [] [] c_X2_takeBack v_X2_takeBack lk_X11_316 dX11_undo_4 g_36 rfl rfl rfl (by decide) (Nat.le_of_ble_eq_true rfl) rfl (s_X2_takeBack sx   σ _ h) (fun r2 σ1 h => ?_)
  exact X_reti rfl dX11_undo_7 h
def w_X11_redo (σ : Sg) (Q : Int32 → Sg → Prop) : Prop := w_X2_doAgain  σ (fun r2 σ1 => Q r2 σ1)
set_option maxRecDepth 100000 in
set_option maxHeartbeats 4000000 in
theorem s_X11_redo (sx : Nat × (Nat → Int32)) (σ : Sg) (Q : Int32 → Sg → Prop) (h : w_X11_redo σ Q) : Ct mX11_redo 2 false (0, 0) sx G0 [.ref 0] σ (qI Q) := by
  refine Ct.of (L := [some (.ref 0)]) (by decide) (Nat.le_of_ble_eq_true rfl) rfl ?_
  unfold w_X11_redo at h
  refine X_aload_n dX11_redo_0 rfl rfl ?_
  refine X_get (v := .ref 36) ck_X11 f_X11_73 g_0 rfl (fun _ => rfl) dX11_redo_1 ?_
  refine X_callVi [] [] c_X2_doAgain v_X2_doAgain lk_X11_319 dX11_redo_4 g_36 rfl rfl rfl (by decide) (Nat.le_of_ble_eq_true rfl) rfl (s_X2_doAgain sx   σ _ h) (fun r2 σ1 h => ?_)
  exact X_reti rfl dX11_redo_7 h
def w_X11_body (a0 : Int32) (σ : Sg) (Q : Int32 → Sg → Prop) : Prop := w_X11_within a0 (0 : Int32) (7 : Int32) σ (fun r2 σ1 => if r2 = 0 then (Q (-1 : Int32) σ1) else (w_X0_add a0 σ1 (fun r4 σ3 => Q r4 σ3)))
set_option maxRecDepth 100000 in
set_option maxHeartbeats 4000000 in
theorem s_X11_body (sx : Nat × (Nat → Int32)) (a0 : Int32) (σ : Sg) (Q : Int32 → Sg → Prop) (h : w_X11_body a0 σ Q) : Ct mX11_body 1 false (0, 0) sx G0 [.ref 0, .int a0] σ (qI Q) := by
  refine Ct.of (L := [some (.ref 0), some (.int a0)]) (by decide) (Nat.le_of_ble_eq_true rfl) rfl ?_
  unfold w_X11_body at h
  refine X_iload_n dX11_body_0 rfl rfl ?_
  refine X_iconst (v := 0) dX11_body_1 iconst_0 ?_
  refine X_bipush (v := 7) dX11_body_2 bipush_7 ?_
  refine X_callSi [.int a0, .int (0 : Int32), .int (7 : Int32)] [] c_X11_within t_X11_within lk_X11_110 dX11_body_4 rfl (by decide) (Nat.le_of_ble_eq_true rfl) rfl (s_X11_within sx a0 (0 : Int32) (7 : Int32)  σ _ h) (fun r2 σ1 h => ?_)
  refine X_if_eq (tgt := 21) dX11_body_7 (by decide) h (fun h => ?_) (fun h => ?_)
  · refine X_iconst (v := -1) dX11_body_21 iconst_m1 ?_
    exact X_reti rfl dX11_body_22 h
  · refine X_aload_n dX11_body_10 rfl rfl ?_
    refine X_get (v := .ref 57) ck_X11 f_X11_94 g_0 rfl (fun _ => rfl) dX11_body_11 ?_
    refine X_iload_n dX11_body_14 rfl rfl ?_
    refine X_callVi [.int a0] [] c_X0_add v_X0_add lk_X11_322 dX11_body_15 g_57 rfl rfl rfl (by decide) (Nat.le_of_ble_eq_true rfl) rfl (s_X0_add sx a0  σ1 _ h) (fun r4 σ3 h => ?_)
    refine X_goto (tgt := 22) dX11_body_18 (by decide) ?_
    exact X_reti rfl dX11_body_22 h
def w_X11_trace (a0 : Int32) (σ : Sg) (Q : Int32 → Sg → Prop) : Prop := w_X0_traced a0 σ (fun r2 σ1 => Q r2 σ1)
set_option maxRecDepth 100000 in
set_option maxHeartbeats 4000000 in
theorem s_X11_trace (sx : Nat × (Nat → Int32)) (a0 : Int32) (σ : Sg) (Q : Int32 → Sg → Prop) (h : w_X11_trace a0 σ Q) : Ct mX11_trace 1 false (0, 0) sx G0 [.ref 0, .int a0] σ (qI Q) := by
  refine Ct.of (L := [some (.ref 0), some (.int a0)]) (by decide) (Nat.le_of_ble_eq_true rfl) rfl ?_
  unfold w_X11_trace at h
  refine X_aload_n dX11_trace_0 rfl rfl ?_
  refine X_get (v := .ref 57) ck_X11 f_X11_94 g_0 rfl (fun _ => rfl) dX11_trace_1 ?_
  refine X_iload_n dX11_trace_4 rfl rfl ?_
  refine X_callVi [.int a0] [] c_X0_traced v_X0_traced lk_X11_332 dX11_trace_5 g_57 rfl rfl rfl (by decide) (Nat.le_of_ble_eq_true rfl) rfl (s_X0_traced sx a0  σ _ h) (fun r2 σ1 h => ?_)
  exact X_reti rfl dX11_trace_8 h
def w_X11_keep (a0 : Int32) (b0 : Int32) (σ : Sg) (Q : Int32 → Sg → Prop) : Prop := w_X11_isShelf a0 σ (fun r2 σ1 => if r2 = 0 then (Q (-1 : Int32) σ1) else (bd (fun (σ3 : Sg) => if b0 = (-1 : Int32) then (vp_in a0 6 ∧ w_X10_clear (Int32.toNatClampNeg a0) σ3 (fun  σ7 => Q (1 : Int32) σ7)) else (vp_in a0 6 ∧ w_X10_holdBody (Int32.toNatClampNeg a0) b0 σ3 (fun  σ5 => Q (1 : Int32) σ5))) fun J25 => if b0 = (-1 : Int32) then (J25 σ1) else (w_X0_has b0 σ1 (fun r9 σ8 => if r9 = 0 then (Q (-1 : Int32) σ8) else (J25 σ8)))))
set_option maxRecDepth 100000 in
set_option maxHeartbeats 4000000 in
theorem s_X11_keep (sx : Nat × (Nat → Int32)) (a0 : Int32) (b0 : Int32) (σ : Sg) (Q : Int32 → Sg → Prop) (h : w_X11_keep a0 b0 σ Q) : Ct mX11_keep 2 false (0, 0) sx G0 [.ref 0, .int a0, .int b0] σ (qI Q) := by
  refine Ct.of (L := [some (.ref 0), some (.int a0), some (.int b0)]) (by decide) (Nat.le_of_ble_eq_true rfl) rfl ?_
  unfold w_X11_keep at h
  refine X_iload_n dX11_keep_0 rfl rfl ?_
  refine X_callSi [.int a0] [] c_X11_isShelf t_X11_isShelf lk_X11_106 dX11_keep_1 rfl (by decide) (Nat.le_of_ble_eq_true rfl) rfl (s_X11_isShelf sx a0  σ _ h) (fun r2 σ1 h => ?_)
  refine X_if_eq (tgt := 23) dX11_keep_4 (by decide) h (fun h => ?_) (fun h => ?_)
  · refine X_iconst (v := -1) dX11_keep_23 iconst_m1 ?_
    exact X_reti rfl dX11_keep_24 h
  · refine X_iload_n dX11_keep_7 rfl rfl ?_
    refine X_iconst (v := -1) dX11_keep_8 iconst_m1 ?_
    refine bd_j h (fun J25 e25 h => ?_)
    have j25 : ∀ (σ3 : Sg) , J25  σ3 → Ex mX11_keep 2 false (0, 0) sx G0 25 [some (.ref 0), some (.int a0), some (.int b0)] [] σ3 (qI Q) := by
      intro  σ3  h
      subst e25
      replace h := h
      refine X_iload_n dX11_keep_25 rfl rfl ?_
      refine X_iconst (v := -1) dX11_keep_26 iconst_m1 ?_
      refine X_icmp_ne (tgt := 42) dX11_keep_27 (by decide) h (fun h => ?_) (fun h => ?_)
      · refine X_aload_n dX11_keep_42 rfl rfl ?_
        refine X_get (v := .ref 44) ck_X11 f_X11_86 g_0 rfl (fun _ => rfl) dX11_keep_43 ?_
        refine X_iload_n dX11_keep_46 rfl rfl ?_
        have hk4 := vp_lt h.1
        refine X_aald g_44 (Or.inr rfl) dX11_keep_47 h (fun q => g_shelves (vp_lt q)) (fun h => ?_)
        refine X_iload_n dX11_keep_48 rfl rfl ?_
        refine X_callVv [.int b0] [] c_X10_holdBody v_X10_holdBody lk_X11_338 dX11_keep_49 (g_shelf hk4) rfl rfl rfl (by decide) (Nat.le_of_ble_eq_true rfl) rfl (s_X10_holdBody sx (Int32.toNatClampNeg a0) b0 hk4 σ3 _ h) (fun  σ5 h => ?_)
        refine X_iconst (v := 1) dX11_keep_52 iconst_1 ?_
        exact X_reti rfl dX11_keep_53 h
      · refine X_aload_n dX11_keep_30 rfl rfl ?_
        refine X_get (v := .ref 44) ck_X11 f_X11_86 g_0 rfl (fun _ => rfl) dX11_keep_31 ?_
        refine X_iload_n dX11_keep_34 rfl rfl ?_
        have hk6 := vp_lt h.1
        refine X_aald g_44 (Or.inr rfl) dX11_keep_35 h (fun q => g_shelves (vp_lt q)) (fun h => ?_)
        refine X_callVv [] [] c_X10_clear v_X10_clear lk_X11_335 dX11_keep_36 (g_shelf hk6) rfl rfl rfl (by decide) (Nat.le_of_ble_eq_true rfl) rfl (s_X10_clear sx (Int32.toNatClampNeg a0) hk6 σ3 _ h) (fun  σ7 h => ?_)
        refine X_goto (tgt := 52) dX11_keep_39 (by decide) ?_
        refine X_iconst (v := 1) dX11_keep_52 iconst_1 ?_
        exact X_reti rfl dX11_keep_53 h
    refine X_icmp_eq (tgt := 25) dX11_keep_9 (by decide) h (fun h => ?_) (fun h => ?_)
    · exact j25 _  h
    · refine X_aload_n dX11_keep_12 rfl rfl ?_
      refine X_get (v := .ref 57) ck_X11 f_X11_94 g_0 rfl (fun _ => rfl) dX11_keep_13 ?_
      refine X_iload_n dX11_keep_16 rfl rfl ?_
      refine X_callVi [.int b0] [] c_X0_has v_X0_has lk_X11_328 dX11_keep_17 g_57 rfl rfl rfl (by decide) (Nat.le_of_ble_eq_true rfl) rfl (s_X0_has sx b0  σ1 _ h) (fun r9 σ8 h => ?_)
      refine X_if_ne (tgt := 25) dX11_keep_20 (by decide) h (fun h => ?_) (fun h => ?_)
      · exact j25 _  h
      · refine X_iconst (v := -1) dX11_keep_23 iconst_m1 ?_
        exact X_reti rfl dX11_keep_24 h
def w_X11_row (a0 : Int32) (b0 : Int32) (c0 : Int32) (σ : Sg) (Q : Int32 → Sg → Prop) : Prop := w_X11_isShelf a0 σ (fun r2 σ1 => if r2 = 0 then (Q (-1 : Int32) σ1) else (w_X11_within b0 (0 : Int32) (4 : Int32) σ1 (fun r4 σ3 => if r4 = 0 then (Q (-1 : Int32) σ3) else (if c0 ≤ (60 : Int32) then (if 0 ≤ c0 then (vp_in a0 6 ∧ w_X10_holdRow (Int32.toNatClampNeg a0) b0 c0 σ3 (fun  σ6 => Q (1 : Int32) σ6)) else (Q (-14 : Int32) σ3)) else (Q (-1 : Int32) σ3)))))
set_option maxRecDepth 100000 in
set_option maxHeartbeats 4000000 in
theorem s_X11_row (sx : Nat × (Nat → Int32)) (a0 : Int32) (b0 : Int32) (c0 : Int32) (σ : Sg) (Q : Int32 → Sg → Prop) (h : w_X11_row a0 b0 c0 σ Q) : Ct mX11_row 2 false (0, 0) sx G0 [.ref 0, .int a0, .int b0, .int c0] σ (qI Q) := by
  refine Ct.of (L := [some (.ref 0), some (.int a0), some (.int b0), some (.int c0)]) (by decide) (Nat.le_of_ble_eq_true rfl) rfl ?_
  unfold w_X11_row at h
  refine X_iload_n dX11_row_0 rfl rfl ?_
  refine X_callSi [.int a0] [] c_X11_isShelf t_X11_isShelf lk_X11_106 dX11_row_1 rfl (by decide) (Nat.le_of_ble_eq_true rfl) rfl (s_X11_isShelf sx a0  σ _ h) (fun r2 σ1 h => ?_)
  refine X_if_eq (tgt := 22) dX11_row_4 (by decide) h (fun h => ?_) (fun h => ?_)
  · refine X_iconst (v := -1) dX11_row_22 iconst_m1 ?_
    exact X_reti rfl dX11_row_23 h
  · refine X_iload_n dX11_row_7 rfl rfl ?_
    refine X_iconst (v := 0) dX11_row_8 iconst_0 ?_
    refine X_iconst (v := 4) dX11_row_9 iconst_4 ?_
    refine X_callSi [.int b0, .int (0 : Int32), .int (4 : Int32)] [] c_X11_within t_X11_within lk_X11_110 dX11_row_10 rfl (by decide) (Nat.le_of_ble_eq_true rfl) rfl (s_X11_within sx b0 (0 : Int32) (4 : Int32)  σ1 _ h) (fun r4 σ3 h => ?_)
    refine X_if_eq (tgt := 22) dX11_row_13 (by decide) h (fun h => ?_) (fun h => ?_)
    · refine X_iconst (v := -1) dX11_row_22 iconst_m1 ?_
      exact X_reti rfl dX11_row_23 h
    · refine X_iload_n dX11_row_16 rfl rfl ?_
      refine X_bipush (v := 60) dX11_row_17 bipush_60 ?_
      refine X_icmp_le (tgt := 24) dX11_row_19 (by decide) h (fun h => ?_) (fun h => ?_)
      · refine X_iload_n dX11_row_24 rfl rfl ?_
        refine X_if_ge (tgt := 31) dX11_row_25 (by decide) h (fun h => ?_) (fun h => ?_)
        · refine X_aload_n dX11_row_31 rfl rfl ?_
          refine X_get (v := .ref 44) ck_X11 f_X11_86 g_0 rfl (fun _ => rfl) dX11_row_32 ?_
          refine X_iload_n dX11_row_35 rfl rfl ?_
          have hk5 := vp_lt h.1
          refine X_aald g_44 (Or.inr rfl) dX11_row_36 h (fun q => g_shelves (vp_lt q)) (fun h => ?_)
          refine X_iload_n dX11_row_37 rfl rfl ?_
          refine X_iload_n dX11_row_38 rfl rfl ?_
          refine X_callVv [.int b0, .int c0] [] c_X10_holdRow v_X10_holdRow lk_X11_341 dX11_row_39 (g_shelf hk5) rfl rfl rfl (by decide) (Nat.le_of_ble_eq_true rfl) rfl (s_X10_holdRow sx (Int32.toNatClampNeg a0) b0 c0 hk5 σ3 _ h) (fun  σ6 h => ?_)
          refine X_iconst (v := 1) dX11_row_42 iconst_1 ?_
          exact X_reti rfl dX11_row_43 h
        · refine X_bipush (v := -14) dX11_row_28 bipush_m14 ?_
          exact X_reti rfl dX11_row_30 h
      · refine X_iconst (v := -1) dX11_row_22 iconst_m1 ?_
        exact X_reti rfl dX11_row_23 h
def w_X11_refusalOfElement (a0 : Int32) (b0 : Int32) (σ : Sg) (Q : Int32 → Sg → Prop) : Prop := w_X11_isShelf a0 σ (fun r2 σ1 => if r2 = 0 then (Q (-1 : Int32) σ1) else (vp_in a0 6 ∧ if (σ1.1 (45 + 2 * (Int32.toNatClampNeg a0)) 0) = (-2 : Int32) then (Q (-11 : Int32) σ1) else (if (σ1.1 (45 + 2 * (Int32.toNatClampNeg a0)) 0) = (-1 : Int32) then (Q (-12 : Int32) σ1) else (w_X11_within b0 (0 : Int32) ((σ1.1 (45 + 2 * (Int32.toNatClampNeg a0)) 2) - (1 : Int32)) σ1 (fun r5 σ4 => if r5 = 0 then (Q (-13 : Int32) σ4) else (Q (0 : Int32) σ4))))))
set_option maxRecDepth 100000 in
set_option maxHeartbeats 4000000 in
theorem s_X11_refusalOfElement (sx : Nat × (Nat → Int32)) (a0 : Int32) (b0 : Int32) (σ : Sg) (Q : Int32 → Sg → Prop) (h : w_X11_refusalOfElement a0 b0 σ Q) : Ct mX11_refusalOfElement 2 false (0, 0) sx G0 [.ref 0, .int a0, .int b0] σ (qI Q) := by
  refine Ct.of (L := [some (.ref 0), some (.int a0), some (.int b0), none]) (by decide) (Nat.le_of_ble_eq_true rfl) rfl ?_
  unfold w_X11_refusalOfElement at h
  refine X_iload_n dX11_refusalOfElement_0 rfl rfl ?_
  refine X_callSi [.int a0] [] c_X11_isShelf t_X11_isShelf lk_X11_106 dX11_refusalOfElement_1 rfl (by decide) (Nat.le_of_ble_eq_true rfl) rfl (s_X11_isShelf sx a0  σ _ h) (fun r2 σ1 h => ?_)
  refine X_if_ne (tgt := 9) dX11_refusalOfElement_4 (by decide) h (fun h => ?_) (fun h => ?_)
  · refine X_aload_n dX11_refusalOfElement_9 rfl rfl ?_
    refine X_get (v := .ref 44) ck_X11 f_X11_86 g_0 rfl (fun _ => rfl) dX11_refusalOfElement_10 ?_
    refine X_iload_n dX11_refusalOfElement_13 rfl rfl ?_
    have hk3 := vp_lt h.1
    refine X_aald g_44 (Or.inr rfl) dX11_refusalOfElement_14 h (fun q => g_shelves (vp_lt q)) (fun h => ?_)
    refine X_astore_n (L' := [some (.ref 0), some (.int a0), some (.int b0), some (.ref (45 + 2 * (Int32.toNatClampNeg a0)))]) dX11_refusalOfElement_15 rfl (by decide) rfl ?_
    refine X_aload_n dX11_refusalOfElement_16 rfl rfl ?_
    refine X_get (v := .int (σ1.1 (45 + 2 * (Int32.toNatClampNeg a0)) 0)) ck_X10 f_X11_114 (g_shelf hk3) rfl (fun _ => rfl) dX11_refusalOfElement_17 ?_
    refine X_bipush (v := -2) dX11_refusalOfElement_20 bipush_m2 ?_
    refine X_icmp_ne (tgt := 28) dX11_refusalOfElement_22 (by decide) h (fun h => ?_) (fun h => ?_)
    · refine X_aload_n dX11_refusalOfElement_28 rfl rfl ?_
      refine X_get (v := .int (σ1.1 (45 + 2 * (Int32.toNatClampNeg a0)) 0)) ck_X10 f_X11_114 (g_shelf hk3) rfl (fun _ => rfl) dX11_refusalOfElement_29 ?_
      refine X_iconst (v := -1) dX11_refusalOfElement_32 iconst_m1 ?_
      refine X_icmp_ne (tgt := 39) dX11_refusalOfElement_33 (by decide) h (fun h => ?_) (fun h => ?_)
      · refine X_iload_n dX11_refusalOfElement_39 rfl rfl ?_
        refine X_iconst (v := 0) dX11_refusalOfElement_40 iconst_0 ?_
        refine X_aload_n dX11_refusalOfElement_41 rfl rfl ?_
        refine X_get (v := .int (σ1.1 (45 + 2 * (Int32.toNatClampNeg a0)) 2)) ck_X10 f_X11_118 (g_shelf hk3) rfl (fun _ => rfl) dX11_refusalOfElement_42 ?_
        refine X_iconst (v := 1) dX11_refusalOfElement_45 iconst_1 ?_
        refine X_isub dX11_refusalOfElement_46 ?_
        refine X_callSi [.int b0, .int (0 : Int32), .int ((σ1.1 (45 + 2 * (Int32.toNatClampNeg a0)) 2) - (1 : Int32))] [] c_X11_within t_X11_within lk_X11_110 dX11_refusalOfElement_47 rfl (by decide) (Nat.le_of_ble_eq_true rfl) rfl (s_X11_within sx b0 (0 : Int32) ((σ1.1 (45 + 2 * (Int32.toNatClampNeg a0)) 2) - (1 : Int32))  σ1 _ h) (fun r5 σ4 h => ?_)
        refine X_if_eq (tgt := 57) dX11_refusalOfElement_50 (by decide) h (fun h => ?_) (fun h => ?_)
        · refine X_bipush (v := -13) dX11_refusalOfElement_57 bipush_m13 ?_
          exact X_reti rfl dX11_refusalOfElement_59 h
        · refine X_iconst (v := 0) dX11_refusalOfElement_53 iconst_0 ?_
          refine X_goto (tgt := 59) dX11_refusalOfElement_54 (by decide) ?_
          exact X_reti rfl dX11_refusalOfElement_59 h
      · refine X_bipush (v := -12) dX11_refusalOfElement_36 bipush_m12 ?_
        exact X_reti rfl dX11_refusalOfElement_38 h
    · refine X_bipush (v := -11) dX11_refusalOfElement_25 bipush_m11 ?_
      exact X_reti rfl dX11_refusalOfElement_27 h
  · refine X_iconst (v := -1) dX11_refusalOfElement_7 iconst_m1 ?_
    exact X_reti rfl dX11_refusalOfElement_8 h
def w_X11_put (a0 : Int32) (b0 : Int32) (c0 : Int64) (σ : Sg) (Q : Int32 → Sg → Prop) : Prop := w_X11_refusalOfElement a0 b0 σ (fun r2 σ1 => if r2 = 0 then (vp_in a0 6 ∧ w_X10_store (Int32.toNatClampNeg a0) b0 c0 σ1 (fun  σ4 => Q (1 : Int32) σ4)) else (Q r2 σ1))
set_option maxRecDepth 100000 in
set_option maxHeartbeats 4000000 in
theorem s_X11_put (sx : Nat × (Nat → Int32)) (a0 : Int32) (b0 : Int32) (c0 : Int64) (σ : Sg) (Q : Int32 → Sg → Prop) (h : w_X11_put a0 b0 c0 σ Q) : Ct mX11_put 3 false (0, 0) sx G0 [.ref 0, .int a0, .int b0, .long c0] σ (qI Q) := by
  refine Ct.of (L := [some (.ref 0), some (.int a0), some (.int b0), some (.long c0), none, none]) (by decide) (Nat.le_of_ble_eq_true rfl) rfl ?_
  unfold w_X11_put at h
  refine X_aload_n dX11_put_0 rfl rfl ?_
  refine X_iload_n dX11_put_1 rfl rfl ?_
  refine X_iload_n dX11_put_2 rfl rfl ?_
  refine X_callVi [.int a0, .int b0] [] c_X11_refusalOfElement v_X11_refusalOfElement lk_X11_344 dX11_put_3 g_0 rfl rfl rfl (by decide) (Nat.le_of_ble_eq_true rfl) rfl (s_X11_refusalOfElement sx a0 b0  σ _ h) (fun r2 σ1 h => ?_)
  refine X_istore (L' := [some (.ref 0), some (.int a0), some (.int b0), some (.long c0), none, some (.int r2)]) dX11_put_6 (by decide) rfl ?_
  refine X_iload dX11_put_8 rfl ?_
  refine X_if_eq (tgt := 16) dX11_put_10 (by decide) h (fun h => ?_) (fun h => ?_)
  · refine X_aload_n dX11_put_16 rfl rfl ?_
    refine X_get (v := .ref 44) ck_X11 f_X11_86 g_0 rfl (fun _ => rfl) dX11_put_17 ?_
    refine X_iload_n dX11_put_20 rfl rfl ?_
    have hk3 := vp_lt h.1
    refine X_aald g_44 (Or.inr rfl) dX11_put_21 h (fun q => g_shelves (vp_lt q)) (fun h => ?_)
    refine X_iload_n dX11_put_22 rfl rfl ?_
    refine X_lload_n dX11_put_23 rfl rfl ?_
    refine X_callVv [.int b0, .long c0] [] c_X10_store v_X10_store lk_X11_347 dX11_put_24 (g_shelf hk3) rfl rfl rfl (by decide) (Nat.le_of_ble_eq_true rfl) rfl (s_X10_store sx (Int32.toNatClampNeg a0) b0 c0 hk3 σ1 _ h) (fun  σ4 h => ?_)
    refine X_iconst (v := 1) dX11_put_27 iconst_1 ?_
    exact X_reti rfl dX11_put_28 h
  · refine X_iload dX11_put_13 rfl ?_
    exact X_reti rfl dX11_put_15 h
def w_X11_element (a0 : Int32) (b0 : Int32) (σ : Sg) (Q : Int64 → Sg → Prop) : Prop := w_X11_refusalOfElement a0 b0 σ (fun r2 σ1 => if r2 = 0 then (vp_in a0 6 ∧ vp_in b0 60 ∧ Q (σ1.2 (46 + 2 * (Int32.toNatClampNeg a0)) (Int32.toNatClampNeg b0)) σ1) else (Q (-9223372036854775808 : Int64) σ1))
set_option maxRecDepth 100000 in
set_option maxHeartbeats 4000000 in
theorem s_X11_element (sx : Nat × (Nat → Int32)) (a0 : Int32) (b0 : Int32) (σ : Sg) (Q : Int64 → Sg → Prop) (h : w_X11_element a0 b0 σ Q) : Ct mX11_element 3 false (0, 0) sx G0 [.ref 0, .int a0, .int b0] σ (qJ Q) := by
  refine Ct.of (L := [some (.ref 0), some (.int a0), some (.int b0)]) (by decide) (Nat.le_of_ble_eq_true rfl) rfl ?_
  unfold w_X11_element at h
  refine X_aload_n dX11_element_0 rfl rfl ?_
  refine X_iload_n dX11_element_1 rfl rfl ?_
  refine X_iload_n dX11_element_2 rfl rfl ?_
  refine X_callVi [.int a0, .int b0] [] c_X11_refusalOfElement v_X11_refusalOfElement lk_X11_344 dX11_element_3 g_0 rfl rfl rfl (by decide) (Nat.le_of_ble_eq_true rfl) rfl (s_X11_refusalOfElement sx a0 b0  σ _ h) (fun r2 σ1 h => ?_)
  refine X_if_eq (tgt := 15) dX11_element_6 (by decide) h (fun h => ?_) (fun h => ?_)
  · refine X_aload_n dX11_element_15 rfl rfl ?_
    refine X_get (v := .ref 44) ck_X11 f_X11_86 g_0 rfl (fun _ => rfl) dX11_element_16 ?_
    refine X_iload_n dX11_element_19 rfl rfl ?_
    have hk3 := vp_lt h.1
    refine X_aald g_44 (Or.inr rfl) dX11_element_20 h (fun q => g_shelves (vp_lt q)) (fun h => ?_)
    refine X_get (v := .ref (46 + 2 * (Int32.toNatClampNeg a0))) ck_X10 f_X11_351 (g_shelf hk3) rfl (fun _ => rfl) dX11_element_21 ?_
    refine X_iload_n dX11_element_24 rfl rfl ?_
    refine X_lald (g_items hk3) dX11_element_25 h (fun h => ?_)
    exact X_retl rfl dX11_element_26 h
  · refine X_ldc2 (v := -9223372036854775808) dX11_element_9 k_X11_271 ?_
    refine X_goto (tgt := 26) dX11_element_12 (by decide) ?_
    exact X_retl rfl dX11_element_26 h
def w_X11_shift (a0 : Int32) (b0 : Int32) (c0 : Int32) (d0 : Int32) (e0 : Int32) (σ : Sg) (Q : Int32 → Sg → Prop) : Prop := w_X11_isShelf a0 σ (fun r2 σ1 => if r2 = 0 then (Q (-1 : Int32) σ1) else (w_X11_isShelf c0 σ1 (fun r4 σ3 => if r4 = 0 then (Q (-1 : Int32) σ3) else (vp_in a0 6 ∧ vp_in c0 6 ∧ if (σ3.1 (45 + 2 * (Int32.toNatClampNeg a0)) 0) = (-2 : Int32) then (Q (-11 : Int32) σ3) else (if (σ3.1 (45 + 2 * (Int32.toNatClampNeg c0)) 0) = (-2 : Int32) then (Q (-11 : Int32) σ3) else (if (σ3.1 (45 + 2 * (Int32.toNatClampNeg a0)) 0) = (-1 : Int32) then (Q (-12 : Int32) σ3) else (if (σ3.1 (45 + 2 * (Int32.toNatClampNeg a0)) 0) = (σ3.1 (45 + 2 * (Int32.toNatClampNeg c0)) 0) then (w_X10_hasRange (Int32.toNatClampNeg a0) b0 e0 σ3 (fun r8 σ7 => if r8 = 0 then (Q (-13 : Int32) σ7) else (w_X10_hasRange (Int32.toNatClampNeg c0) d0 e0 σ7 (fun r10 σ9 => if r10 = 0 then (Q (-13 : Int32) σ9) else (cpIn b0 d0 e0 60 60 ∧ bd (sJr σ9 (46 + 2 * (Int32.toNatClampNeg c0)) (va_cpy (σ9.2 (46 + 2 * (Int32.toNatClampNeg a0))) (σ9.2 (46 + 2 * (Int32.toNatClampNeg c0))) (Int32.toNatClampNeg b0) (Int32.toNatClampNeg d0) (Int32.toNatClampNeg e0))) fun σ11 => Q e0 σ11))))) else (Q (-12 : Int32) σ3))))))))
set_option maxRecDepth 100000 in
set_option maxHeartbeats 4000000 in
theorem s_X11_shift (sx : Nat × (Nat → Int32)) (a0 : Int32) (b0 : Int32) (c0 : Int32) (d0 : Int32) (e0 : Int32) (σ : Sg) (Q : Int32 → Sg → Prop) (h : w_X11_shift a0 b0 c0 d0 e0 σ Q) : Ct mX11_shift 2 false (0, 0) sx G0 [.ref 0, .int a0, .int b0, .int c0, .int d0, .int e0] σ (qI Q) := by
  refine Ct.of (L := [some (.ref 0), some (.int a0), some (.int b0), some (.int c0), some (.int d0), some (.int e0), none, none]) (by decide) (Nat.le_of_ble_eq_true rfl) rfl ?_
  unfold w_X11_shift at h
  refine X_iload_n dX11_shift_0 rfl rfl ?_
  refine X_callSi [.int a0] [] c_X11_isShelf t_X11_isShelf lk_X11_106 dX11_shift_1 rfl (by decide) (Nat.le_of_ble_eq_true rfl) rfl (s_X11_isShelf sx a0  σ _ h) (fun r2 σ1 h => ?_)
  refine X_if_eq (tgt := 14) dX11_shift_4 (by decide) h (fun h => ?_) (fun h => ?_)
  · refine X_iconst (v := -1) dX11_shift_14 iconst_m1 ?_
    exact X_reti rfl dX11_shift_15 h
  · refine X_iload_n dX11_shift_7 rfl rfl ?_
    refine X_callSi [.int c0] [] c_X11_isShelf t_X11_isShelf lk_X11_106 dX11_shift_8 rfl (by decide) (Nat.le_of_ble_eq_true rfl) rfl (s_X11_isShelf sx c0  σ1 _ h) (fun r4 σ3 h => ?_)
    refine X_if_ne (tgt := 16) dX11_shift_11 (by decide) h (fun h => ?_) (fun h => ?_)
    · refine X_aload_n dX11_shift_16 rfl rfl ?_
      refine X_get (v := .ref 44) ck_X11 f_X11_86 g_0 rfl (fun _ => rfl) dX11_shift_17 ?_
      refine X_iload_n dX11_shift_20 rfl rfl ?_
      have hk5 := vp_lt h.1
      refine X_aald g_44 (Or.inr rfl) dX11_shift_21 h (fun q => g_shelves (vp_lt q)) (fun h => ?_)
      refine X_astore (L' := [some (.ref 0), some (.int a0), some (.int b0), some (.int c0), some (.int d0), some (.int e0), some (.ref (45 + 2 * (Int32.toNatClampNeg a0))), none]) dX11_shift_22 (by decide) rfl ?_
      refine X_aload_n dX11_shift_24 rfl rfl ?_
      refine X_get (v := .ref 44) ck_X11 f_X11_86 g_0 rfl (fun _ => rfl) dX11_shift_25 ?_
      refine X_iload_n dX11_shift_28 rfl rfl ?_
      have hk6 := vp_lt h.1
      refine X_aald g_44 (Or.inr rfl) dX11_shift_29 h (fun q => g_shelves (vp_lt q)) (fun h => ?_)
      refine X_astore (L' := [some (.ref 0), some (.int a0), some (.int b0), some (.int c0), some (.int d0), some (.int e0), some (.ref (45 + 2 * (Int32.toNatClampNeg a0))), some (.ref (45 + 2 * (Int32.toNatClampNeg c0)))]) dX11_shift_30 (by decide) rfl ?_
      refine X_aload dX11_shift_32 rfl ?_
      refine X_get (v := .int (σ3.1 (45 + 2 * (Int32.toNatClampNeg a0)) 0)) ck_X10 f_X11_114 (g_shelf hk5) rfl (fun _ => rfl) dX11_shift_34 ?_
      refine X_bipush (v := -2) dX11_shift_37 bipush_m2 ?_
      refine X_icmp_eq (tgt := 52) dX11_shift_39 (by decide) h (fun h => ?_) (fun h => ?_)
      · refine X_bipush (v := -11) dX11_shift_52 bipush_m11 ?_
        exact X_reti rfl dX11_shift_54 h
      · refine X_aload dX11_shift_42 rfl ?_
        refine X_get (v := .int (σ3.1 (45 + 2 * (Int32.toNatClampNeg c0)) 0)) ck_X10 f_X11_114 (g_shelf hk6) rfl (fun _ => rfl) dX11_shift_44 ?_
        refine X_bipush (v := -2) dX11_shift_47 bipush_m2 ?_
        refine X_icmp_ne (tgt := 55) dX11_shift_49 (by decide) h (fun h => ?_) (fun h => ?_)
        · refine X_aload dX11_shift_55 rfl ?_
          refine X_get (v := .int (σ3.1 (45 + 2 * (Int32.toNatClampNeg a0)) 0)) ck_X10 f_X11_114 (g_shelf hk5) rfl (fun _ => rfl) dX11_shift_57 ?_
          refine X_iconst (v := -1) dX11_shift_60 iconst_m1 ?_
          refine X_icmp_eq (tgt := 77) dX11_shift_61 (by decide) h (fun h => ?_) (fun h => ?_)
          · refine X_bipush (v := -12) dX11_shift_77 bipush_m12 ?_
            exact X_reti rfl dX11_shift_79 h
          · refine X_aload dX11_shift_64 rfl ?_
            refine X_get (v := .int (σ3.1 (45 + 2 * (Int32.toNatClampNeg a0)) 0)) ck_X10 f_X11_114 (g_shelf hk5) rfl (fun _ => rfl) dX11_shift_66 ?_
            refine X_aload dX11_shift_69 rfl ?_
            refine X_get (v := .int (σ3.1 (45 + 2 * (Int32.toNatClampNeg c0)) 0)) ck_X10 f_X11_114 (g_shelf hk6) rfl (fun _ => rfl) dX11_shift_71 ?_
            refine X_icmp_eq (tgt := 80) dX11_shift_74 (by decide) h (fun h => ?_) (fun h => ?_)
            · refine X_aload dX11_shift_80 rfl ?_
              refine X_iload_n dX11_shift_82 rfl rfl ?_
              refine X_iload dX11_shift_83 rfl ?_
              refine X_callVi [.int b0, .int e0] [] c_X10_hasRange v_X10_hasRange lk_X11_355 dX11_shift_85 (g_shelf hk5) rfl rfl rfl (by decide) (Nat.le_of_ble_eq_true rfl) rfl (s_X10_hasRange sx (Int32.toNatClampNeg a0) b0 e0 hk5 σ3 _ h) (fun r8 σ7 h => ?_)
              refine X_if_eq (tgt := 103) dX11_shift_88 (by decide) h (fun h => ?_) (fun h => ?_)
              · refine X_bipush (v := -13) dX11_shift_103 bipush_m13 ?_
                exact X_reti rfl dX11_shift_105 h
              · refine X_aload dX11_shift_91 rfl ?_
                refine X_iload dX11_shift_93 rfl ?_
                refine X_iload dX11_shift_95 rfl ?_
                refine X_callVi [.int d0, .int e0] [] c_X10_hasRange v_X10_hasRange lk_X11_355 dX11_shift_97 (g_shelf hk6) rfl rfl rfl (by decide) (Nat.le_of_ble_eq_true rfl) rfl (s_X10_hasRange sx (Int32.toNatClampNeg c0) d0 e0 hk6 σ7 _ h) (fun r10 σ9 h => ?_)
                refine X_if_ne (tgt := 106) dX11_shift_100 (by decide) h (fun h => ?_) (fun h => ?_)
                · refine X_aload dX11_shift_106 rfl ?_
                  refine X_get (v := .ref (46 + 2 * (Int32.toNatClampNeg a0))) ck_X10 f_X11_351 (g_shelf hk5) rfl (fun _ => rfl) dX11_shift_108 ?_
                  refine X_iload_n dX11_shift_111 rfl rfl ?_
                  refine X_aload dX11_shift_112 rfl ?_
                  refine X_get (v := .ref (46 + 2 * (Int32.toNatClampNeg c0))) ck_X10 f_X11_351 (g_shelf hk6) rfl (fun _ => rfl) dX11_shift_114 ?_
                  refine X_iload dX11_shift_117 rfl ?_
                  refine X_iload dX11_shift_119 rfl ?_
                  refine X_copyJ (g_items hk5) (g_items hk6) lk_X11_358 cpw dX11_shift_121 (by decide) (Nat.le_of_ble_eq_true rfl) h (fun σ11 h => ?_)
                  refine X_iload dX11_shift_124 rfl ?_
                  exact X_reti rfl dX11_shift_126 h
                · refine X_bipush (v := -13) dX11_shift_103 bipush_m13 ?_
                  exact X_reti rfl dX11_shift_105 h
            · refine X_bipush (v := -12) dX11_shift_77 bipush_m12 ?_
              exact X_reti rfl dX11_shift_79 h
        · refine X_bipush (v := -11) dX11_shift_52 bipush_m11 ?_
          exact X_reti rfl dX11_shift_54 h
    · refine X_iconst (v := -1) dX11_shift_14 iconst_m1 ?_
      exact X_reti rfl dX11_shift_15 h
def w_X11_taken (a0 : Int32) (b0 : Int32) (σ : Sg) (Q : Int32 → Sg → Prop) : Prop := w_X11_isShelf a0 σ (fun r2 σ1 => if r2 = 0 then (Q (-1 : Int32) σ1) else (w_X11_within b0 (0 : Int32) (7 : Int32) σ1 (fun r4 σ3 => if r4 = 0 then (Q (-1 : Int32) σ3) else (vp_in a0 6 ∧ if (σ3.1 (45 + 2 * (Int32.toNatClampNeg a0)) 0) = (-2 : Int32) then (Q (-11 : Int32) σ3) else (if (σ3.1 (45 + 2 * (Int32.toNatClampNeg a0)) 0) = (-1 : Int32) then (w_X0_kindOf (σ3.1 (45 + 2 * (Int32.toNatClampNeg a0)) 1) σ3 (fun r7 σ6 => w_X0_isOrUnder r7 b0 σ6 (fun r9 σ8 => if r9 = 0 then (Q (-12 : Int32) σ8) else (Q r7 σ8)))) else (Q (-12 : Int32) σ3))))))
set_option maxRecDepth 100000 in
set_option maxHeartbeats 4000000 in
theorem s_X11_taken (sx : Nat × (Nat → Int32)) (a0 : Int32) (b0 : Int32) (σ : Sg) (Q : Int32 → Sg → Prop) (h : w_X11_taken a0 b0 σ Q) : Ct mX11_taken 2 false (0, 0) sx G0 [.ref 0, .int a0, .int b0] σ (qI Q) := by
  refine Ct.of (L := [some (.ref 0), some (.int a0), some (.int b0), none, none]) (by decide) (Nat.le_of_ble_eq_true rfl) rfl ?_
  unfold w_X11_taken at h
  refine X_iload_n dX11_taken_0 rfl rfl ?_
  refine X_callSi [.int a0] [] c_X11_isShelf t_X11_isShelf lk_X11_106 dX11_taken_1 rfl (by decide) (Nat.le_of_ble_eq_true rfl) rfl (s_X11_isShelf sx a0  σ _ h) (fun r2 σ1 h => ?_)
  refine X_if_eq (tgt := 17) dX11_taken_4 (by decide) h (fun h => ?_) (fun h => ?_)
  · refine X_iconst (v := -1) dX11_taken_17 iconst_m1 ?_
    exact X_reti rfl dX11_taken_18 h
  · refine X_iload_n dX11_taken_7 rfl rfl ?_
    refine X_iconst (v := 0) dX11_taken_8 iconst_0 ?_
    refine X_bipush (v := 7) dX11_taken_9 bipush_7 ?_
    refine X_callSi [.int b0, .int (0 : Int32), .int (7 : Int32)] [] c_X11_within t_X11_within lk_X11_110 dX11_taken_11 rfl (by decide) (Nat.le_of_ble_eq_true rfl) rfl (s_X11_within sx b0 (0 : Int32) (7 : Int32)  σ1 _ h) (fun r4 σ3 h => ?_)
    refine X_if_ne (tgt := 19) dX11_taken_14 (by decide) h (fun h => ?_) (fun h => ?_)
    · refine X_aload_n dX11_taken_19 rfl rfl ?_
      refine X_get (v := .ref 44) ck_X11 f_X11_86 g_0 rfl (fun _ => rfl) dX11_taken_20 ?_
      refine X_iload_n dX11_taken_23 rfl rfl ?_
      have hk5 := vp_lt h.1
      refine X_aald g_44 (Or.inr rfl) dX11_taken_24 h (fun q => g_shelves (vp_lt q)) (fun h => ?_)
      refine X_astore_n (L' := [some (.ref 0), some (.int a0), some (.int b0), some (.ref (45 + 2 * (Int32.toNatClampNeg a0))), none]) dX11_taken_25 rfl (by decide) rfl ?_
      refine X_aload_n dX11_taken_26 rfl rfl ?_
      refine X_get (v := .int (σ3.1 (45 + 2 * (Int32.toNatClampNeg a0)) 0)) ck_X10 f_X11_114 (g_shelf hk5) rfl (fun _ => rfl) dX11_taken_27 ?_
      refine X_bipush (v := -2) dX11_taken_30 bipush_m2 ?_
      refine X_icmp_ne (tgt := 38) dX11_taken_32 (by decide) h (fun h => ?_) (fun h => ?_)
      · refine X_aload_n dX11_taken_38 rfl rfl ?_
        refine X_get (v := .int (σ3.1 (45 + 2 * (Int32.toNatClampNeg a0)) 0)) ck_X10 f_X11_114 (g_shelf hk5) rfl (fun _ => rfl) dX11_taken_39 ?_
        refine X_iconst (v := -1) dX11_taken_42 iconst_m1 ?_
        refine X_icmp_eq (tgt := 49) dX11_taken_43 (by decide) h (fun h => ?_) (fun h => ?_)
        · refine X_aload_n dX11_taken_49 rfl rfl ?_
          refine X_get (v := .ref 57) ck_X11 f_X11_94 g_0 rfl (fun _ => rfl) dX11_taken_50 ?_
          refine X_aload_n dX11_taken_53 rfl rfl ?_
          refine X_get (v := .int (σ3.1 (45 + 2 * (Int32.toNatClampNeg a0)) 1)) ck_X10 f_X11_364 (g_shelf hk5) rfl (fun _ => rfl) dX11_taken_54 ?_
          refine X_callVi [.int (σ3.1 (45 + 2 * (Int32.toNatClampNeg a0)) 1)] [] c_X0_kindOf v_X0_kindOf lk_X11_367 dX11_taken_57 g_57 rfl rfl rfl (by decide) (Nat.le_of_ble_eq_true rfl) rfl (s_X0_kindOf sx (σ3.1 (45 + 2 * (Int32.toNatClampNeg a0)) 1)  σ3 _ h) (fun r7 σ6 h => ?_)
          refine X_istore (L' := [some (.ref 0), some (.int a0), some (.int b0), some (.ref (45 + 2 * (Int32.toNatClampNeg a0))), some (.int r7)]) dX11_taken_60 (by decide) rfl ?_
          refine X_iload dX11_taken_62 rfl ?_
          refine X_iload_n dX11_taken_64 rfl rfl ?_
          refine X_callSi [.int r7, .int b0] [] c_X0_isOrUnder t_X0_isOrUnder lk_X11_370 dX11_taken_65 rfl (by decide) (Nat.le_of_ble_eq_true rfl) rfl (s_X0_isOrUnder sx r7 b0  σ6 _ h) (fun r9 σ8 h => ?_)
          refine X_if_eq (tgt := 76) dX11_taken_68 (by decide) h (fun h => ?_) (fun h => ?_)
          · refine X_bipush (v := -12) dX11_taken_76 bipush_m12 ?_
            exact X_reti rfl dX11_taken_78 h
          · refine X_iload dX11_taken_71 rfl ?_
            refine X_goto (tgt := 78) dX11_taken_73 (by decide) ?_
            exact X_reti rfl dX11_taken_78 h
        · refine X_bipush (v := -12) dX11_taken_46 bipush_m12 ?_
          exact X_reti rfl dX11_taken_48 h
      · refine X_bipush (v := -11) dX11_taken_35 bipush_m11 ?_
        exact X_reti rfl dX11_taken_37 h
    · refine X_iconst (v := -1) dX11_taken_17 iconst_m1 ?_
      exact X_reti rfl dX11_taken_18 h
def w_X11_count (a0 : Int32) (σ : Sg) (Q : Int32 → Sg → Prop) : Prop := if a0 = (0 : Int32) then (Q (σ.1 1 4) σ) else (if a0 = (1 : Int32) then (Q (σ.1 1 7) σ) else (if a0 = (2 : Int32) then (Q (σ.1 0 4) σ) else (if a0 = (3 : Int32) then (Q (σ.1 36 2) σ) else (if a0 = (4 : Int32) then (Q (σ.1 57 1) σ) else (if a0 = (5 : Int32) then (Q (σ.1 57 3) σ) else (Q (-1 : Int32) σ))))))
set_option maxRecDepth 100000 in
set_option maxHeartbeats 4000000 in
theorem s_X11_count (sx : Nat × (Nat → Int32)) (a0 : Int32) (σ : Sg) (Q : Int32 → Sg → Prop) (h : w_X11_count a0 σ Q) : Ct mX11_count 0 false (0, 0) sx G0 [.ref 0, .int a0] σ (qI Q) := by
  refine Ct.of (L := [some (.ref 0), some (.int a0)]) (by decide) (Nat.le_of_ble_eq_true rfl) rfl ?_
  unfold w_X11_count at h
  refine X_iload_n dX11_count_0 rfl rfl ?_
  by_cases hc1_0 : a0 = (0 : Int32)
  · replace h := if_t h hc1_0
    refine X_tableIn (tgt := 40) dX11_count_1 (by rw [hc1_0] <;> decide) (by rw [hc1_0] <;> decide) (by rw [hc1_0] <;> rfl) (by decide) ?_
    refine X_aload_n dX11_count_40 rfl rfl ?_
    refine X_get (v := .ref 1) ck_X11 f_X11_10 g_0 rfl (fun _ => rfl) dX11_count_41 ?_
    refine X_get (v := .int (σ.1 1 4)) ck_X7 f_X11_373 g_1 rfl (fun _ => rfl) dX11_count_44 ?_
    exact X_reti rfl dX11_count_47 h
  replace h := if_f h hc1_0
  by_cases hc1_1 : a0 = (1 : Int32)
  · replace h := if_t h hc1_1
    refine X_tableIn (tgt := 48) dX11_count_1 (by rw [hc1_1] <;> decide) (by rw [hc1_1] <;> decide) (by rw [hc1_1] <;> rfl) (by decide) ?_
    refine X_aload_n dX11_count_48 rfl rfl ?_
    refine X_get (v := .ref 1) ck_X11 f_X11_10 g_0 rfl (fun _ => rfl) dX11_count_49 ?_
    refine X_get (v := .int (σ.1 1 7)) ck_X7 f_X11_376 g_1 rfl (fun _ => rfl) dX11_count_52 ?_
    exact X_reti rfl dX11_count_55 h
  replace h := if_f h hc1_1
  by_cases hc1_2 : a0 = (2 : Int32)
  · replace h := if_t h hc1_2
    refine X_tableIn (tgt := 56) dX11_count_1 (by rw [hc1_2] <;> decide) (by rw [hc1_2] <;> decide) (by rw [hc1_2] <;> rfl) (by decide) ?_
    refine X_aload_n dX11_count_56 rfl rfl ?_
    refine X_get (v := .int (σ.1 0 4)) ck_X11 f_X11_145 g_0 rfl (fun _ => rfl) dX11_count_57 ?_
    exact X_reti rfl dX11_count_60 h
  replace h := if_f h hc1_2
  by_cases hc1_3 : a0 = (3 : Int32)
  · replace h := if_t h hc1_3
    refine X_tableIn (tgt := 61) dX11_count_1 (by rw [hc1_3] <;> decide) (by rw [hc1_3] <;> decide) (by rw [hc1_3] <;> rfl) (by decide) ?_
    refine X_aload_n dX11_count_61 rfl rfl ?_
    refine X_get (v := .ref 36) ck_X11 f_X11_73 g_0 rfl (fun _ => rfl) dX11_count_62 ?_
    refine X_get (v := .int (σ.1 36 2)) ck_X2 f_X11_379 g_36 rfl (fun _ => rfl) dX11_count_65 ?_
    exact X_reti rfl dX11_count_68 h
  replace h := if_f h hc1_3
  by_cases hc1_4 : a0 = (4 : Int32)
  · replace h := if_t h hc1_4
    refine X_tableIn (tgt := 69) dX11_count_1 (by rw [hc1_4] <;> decide) (by rw [hc1_4] <;> decide) (by rw [hc1_4] <;> rfl) (by decide) ?_
    refine X_aload_n dX11_count_69 rfl rfl ?_
    refine X_get (v := .ref 57) ck_X11 f_X11_94 g_0 rfl (fun _ => rfl) dX11_count_70 ?_
    refine X_get (v := .int (σ.1 57 1)) ck_X0 f_X11_382 g_57 rfl (fun _ => rfl) dX11_count_73 ?_
    exact X_reti rfl dX11_count_76 h
  replace h := if_f h hc1_4
  by_cases hc1_5 : a0 = (5 : Int32)
  · replace h := if_t h hc1_5
    refine X_tableIn (tgt := 77) dX11_count_1 (by rw [hc1_5] <;> decide) (by rw [hc1_5] <;> decide) (by rw [hc1_5] <;> rfl) (by decide) ?_
    refine X_aload_n dX11_count_77 rfl rfl ?_
    refine X_get (v := .ref 57) ck_X11 f_X11_94 g_0 rfl (fun _ => rfl) dX11_count_78 ?_
    refine X_get (v := .int (σ.1 57 3)) ck_X0 f_X11_385 g_57 rfl (fun _ => rfl) dX11_count_81 ?_
    exact X_reti rfl dX11_count_84 h
  replace h := if_f h hc1_5
  refine X_tableOut (tgt := 85) dX11_count_1 (tbl_out (fun j h1 h2 e => ?_)) (by decide) ?_
  · rcases (show j = 0 ∨ j = 1 ∨ j = 2 ∨ j = 3 ∨ j = 4 ∨ j = 5 by omega) with rfl | rfl | rfl | rfl | rfl | rfl
    · exact ne_toInt hc1_0 e
    · exact ne_toInt hc1_1 e
    · exact ne_toInt hc1_2 e
    · exact ne_toInt hc1_3 e
    · exact ne_toInt hc1_4 e
    · exact ne_toInt hc1_5 e
  refine X_iconst (v := -1) dX11_count_85 iconst_m1 ?_
  exact X_reti rfl dX11_count_86 h
def w_X12_in (a0 : Int32) (b0 : Int32) (c0 : Int32) (σ : Sg) (Q : Int32 → Sg → Prop) : Prop := if a0 < b0 then (Q (0 : Int32) σ) else (if c0 < a0 then (Q (0 : Int32) σ) else (Q (1 : Int32) σ))
set_option maxRecDepth 100000 in
set_option maxHeartbeats 4000000 in
theorem s_X12_in (sx : Nat × (Nat → Int32)) (a0 : Int32) (b0 : Int32) (c0 : Int32) (σ : Sg) (Q : Int32 → Sg → Prop) (h : w_X12_in a0 b0 c0 σ Q) : Ct mX12_in 0 false (0, 0) sx G0 [.int a0, .int b0, .int c0] σ (qI Q) := by
  refine Ct.of (L := [some (.int a0), some (.int b0), some (.int c0)]) (by decide) (Nat.le_of_ble_eq_true rfl) rfl ?_
  unfold w_X12_in at h
  refine X_iload_n dX12_in_0 rfl rfl ?_
  refine X_iload_n dX12_in_1 rfl rfl ?_
  refine X_icmp_lt (tgt := 14) dX12_in_2 (by decide) h (fun h => ?_) (fun h => ?_)
  · refine X_iconst (v := 0) dX12_in_14 iconst_0 ?_
    exact X_retz rfl rfl dX12_in_15 h
  · refine X_iload_n dX12_in_5 rfl rfl ?_
    refine X_iload_n dX12_in_6 rfl rfl ?_
    refine X_icmp_gt (tgt := 14) dX12_in_7 (by decide) h (fun h => ?_) (fun h => ?_)
    · refine X_iconst (v := 0) dX12_in_14 iconst_0 ?_
      exact X_retz rfl rfl dX12_in_15 h
    · refine X_iconst (v := 1) dX12_in_10 iconst_1 ?_
      refine X_goto (tgt := 15) dX12_in_11 (by decide) ?_
      exact X_retz rfl rfl dX12_in_15 h
def w_X12_has (a0 : Int32) (b0 : Int32) (σ : Sg) (Q : Int32 → Sg → Prop) : Prop := if ((a0 >>> (b0 &&& 31)) &&& (1 : Int32)) = (1 : Int32) then (Q (1 : Int32) σ) else (Q (0 : Int32) σ)
set_option maxRecDepth 100000 in
set_option maxHeartbeats 4000000 in
theorem s_X12_has (sx : Nat × (Nat → Int32)) (a0 : Int32) (b0 : Int32) (σ : Sg) (Q : Int32 → Sg → Prop) (h : w_X12_has a0 b0 σ Q) : Ct mX12_has 0 false (0, 0) sx G0 [.int a0, .int b0] σ (qI Q) := by
  refine Ct.of (L := [some (.int a0), some (.int b0)]) (by decide) (Nat.le_of_ble_eq_true rfl) rfl ?_
  unfold w_X12_has at h
  refine X_iload_n dX12_has_0 rfl rfl ?_
  refine X_iload_n dX12_has_1 rfl rfl ?_
  refine X_ishr dX12_has_2 ?_
  refine X_iconst (v := 1) dX12_has_3 iconst_1 ?_
  refine X_iand dX12_has_4 ?_
  refine X_iconst (v := 1) dX12_has_5 iconst_1 ?_
  refine X_icmp_ne (tgt := 13) dX12_has_6 (by decide) h (fun h => ?_) (fun h => ?_)
  · refine X_iconst (v := 0) dX12_has_13 iconst_0 ?_
    exact X_retz rfl rfl dX12_has_14 h
  · refine X_iconst (v := 1) dX12_has_9 iconst_1 ?_
    refine X_goto (tgt := 14) dX12_has_10 (by decide) ?_
    exact X_retz rfl rfl dX12_has_14 h
def w_X12_bitsOf_l4 (Q : Int32 → Sg → Prop) : Nat → Int32 → Int32 → Sg → Prop
  | 0, _, _, _ => False
  | n4 + 1, x1, x2, σ3 => if x2 = 0 then (Q x1 σ3) else (bd (x2 &&& (x2 - (1 : Int32))) fun x4 => w_X12_bitsOf_l4 Q n4 (x1 + 1) x4 σ3)
def w_X12_bitsOf (a0 : Int32) (σ : Sg) (Q : Int32 → Sg → Prop) : Prop := ∃ n, w_X12_bitsOf_l4 Q n (0 : Int32) a0 σ
set_option maxRecDepth 100000 in
set_option maxHeartbeats 4000000 in
theorem s_X12_bitsOf (sx : Nat × (Nat → Int32)) (a0 : Int32) (σ : Sg) (Q : Int32 → Sg → Prop) (h : w_X12_bitsOf a0 σ Q) : Ct mX12_bitsOf 0 false (0, 0) sx G0 [.int a0] σ (qI Q) := by
  refine Ct.of (L := [some (.int a0), none, none]) (by decide) (Nat.le_of_ble_eq_true rfl) rfl ?_
  unfold w_X12_bitsOf at h
  refine X_iconst (v := 0) dX12_bitsOf_0 iconst_0 ?_
  refine X_istore_n (L' := [some (.int a0), some (.int (0 : Int32)), none]) dX12_bitsOf_1 rfl (by decide) rfl ?_
  refine X_iload_n dX12_bitsOf_2 rfl rfl ?_
  refine X_istore_n (L' := [some (.int a0), some (.int (0 : Int32)), some (.int a0)]) dX12_bitsOf_3 rfl (by decide) rfl ?_
  obtain ⟨n4, h⟩ := h
  have key4 : ∀ (n : Nat) (x1 : Int32) (x2 : Int32) (σ3 : Sg) , w_X12_bitsOf_l4 Q n x1 x2 σ3 → Ex mX12_bitsOf 0 false (0, 0) sx G0 4 [none, some (.int x1), some (.int x2)] [] σ3 (qI Q) := by
    intro n4
    induction n4 with
    | zero => intro _ _ _  h; exact h.elim
    | succ n4 ih4 =>
      intro x1 x2 σ3  h
      unfold w_X12_bitsOf_l4 at h
      refine X_iload_n dX12_bitsOf_4 rfl rfl ?_
      refine X_if_eq (tgt := 20) dX12_bitsOf_5 (by decide) h (fun h => ?_) (fun h => ?_)
      · refine X_iload_n dX12_bitsOf_20 rfl rfl ?_
        exact X_reti rfl dX12_bitsOf_21 h
      · refine X_iinc (v := (x1 + 1)) (L' := [none, some (.int (x1 + 1)), some (.int x2)]) dX12_bitsOf_8 rfl rfl (by decide) rfl ?_
        refine X_iload_n dX12_bitsOf_11 rfl rfl ?_
        refine X_iload_n dX12_bitsOf_12 rfl rfl ?_
        refine X_iconst (v := 1) dX12_bitsOf_13 iconst_1 ?_
        refine X_isub dX12_bitsOf_14 ?_
        refine X_iand dX12_bitsOf_15 ?_
        refine X_topI h (fun x4 h => ?_)
        refine X_istore_n (L' := [none, some (.int (x1 + 1)), some (.int x4)]) dX12_bitsOf_16 rfl (by decide) rfl ?_
        refine X_goto (tgt := 4) dX12_bitsOf_17 (by decide) ?_
        exact ih4 _ _ _  h
  refine X_drop (L' := [none, some (.int (0 : Int32)), some (.int a0)]) ⟨rfl, ⟨rfl, trivial⟩⟩ ?_
  exact key4 _ _ _ _  h
def w_X12_gap (a0 : Int32) (b0 : Int32) (σ : Sg) (Q : Int32 → Sg → Prop) : Prop := if b0 ≤ a0 then (Q (a0 - b0) σ) else (Q (b0 - a0) σ)
set_option maxRecDepth 100000 in
set_option maxHeartbeats 4000000 in
theorem s_X12_gap (sx : Nat × (Nat → Int32)) (a0 : Int32) (b0 : Int32) (σ : Sg) (Q : Int32 → Sg → Prop) (h : w_X12_gap a0 b0 σ Q) : Ct mX12_gap 0 false (0, 0) sx G0 [.int a0, .int b0] σ (qI Q) := by
  refine Ct.of (L := [some (.int a0), some (.int b0)]) (by decide) (Nat.le_of_ble_eq_true rfl) rfl ?_
  unfold w_X12_gap at h
  refine X_iload_n dX12_gap_0 rfl rfl ?_
  refine X_iload_n dX12_gap_1 rfl rfl ?_
  refine X_icmp_ge (tgt := 11) dX12_gap_2 (by decide) h (fun h => ?_) (fun h => ?_)
  · refine X_iload_n dX12_gap_11 rfl rfl ?_
    refine X_iload_n dX12_gap_12 rfl rfl ?_
    refine X_isub dX12_gap_13 ?_
    exact X_reti rfl dX12_gap_14 h
  · refine X_iload_n dX12_gap_5 rfl rfl ?_
    refine X_iload_n dX12_gap_6 rfl rfl ?_
    refine X_isub dX12_gap_7 ?_
    refine X_goto (tgt := 14) dX12_gap_8 (by decide) ?_
    exact X_reti rfl dX12_gap_14 h
def w_X12_apart (a0 : Int32) (b0 : Int32) (σ : Sg) (Q : Int32 → Sg → Prop) : Prop := w_X12_gap (a0 - a0 / (16 : Int32) * (16 : Int32)) (b0 - b0 / (16 : Int32) * (16 : Int32)) σ (fun r2 σ1 => w_X12_gap (a0 / (16 : Int32)) (b0 / (16 : Int32)) σ1 (fun r4 σ3 => if r2 ≤ r4 then (Q r4 σ3) else (Q r2 σ3)))
set_option maxRecDepth 100000 in
set_option maxHeartbeats 4000000 in
theorem s_X12_apart (sx : Nat × (Nat → Int32)) (a0 : Int32) (b0 : Int32) (σ : Sg) (Q : Int32 → Sg → Prop) (h : w_X12_apart a0 b0 σ Q) : Ct mX12_apart 1 false (0, 0) sx G0 [.int a0, .int b0] σ (qI Q) := by
  refine Ct.of (L := [some (.int a0), some (.int b0), none, none]) (by decide) (Nat.le_of_ble_eq_true rfl) rfl ?_
  unfold w_X12_apart at h
  refine X_iload_n dX12_apart_0 rfl rfl ?_
  refine X_bipush (v := 16) dX12_apart_1 bipush_16 ?_
  refine X_irem dX12_apart_3 (by decide) ?_
  refine X_iload_n dX12_apart_4 rfl rfl ?_
  refine X_bipush (v := 16) dX12_apart_5 bipush_16 ?_
  refine X_irem dX12_apart_7 (by decide) ?_
  refine X_callSi [.int (a0 - a0 / (16 : Int32) * (16 : Int32)), .int (b0 - b0 / (16 : Int32) * (16 : Int32))] [] c_X12_gap t_X12_gap lk_X12_121 dX12_apart_8 rfl (by decide) (Nat.le_of_ble_eq_true rfl) rfl (s_X12_gap sx (a0 - a0 / (16 : Int32) * (16 : Int32)) (b0 - b0 / (16 : Int32) * (16 : Int32))  σ _ h) (fun r2 σ1 h => ?_)
  refine X_istore_n (L' := [some (.int a0), some (.int b0), some (.int r2), none]) dX12_apart_11 rfl (by decide) rfl ?_
  refine X_iload_n dX12_apart_12 rfl rfl ?_
  refine X_bipush (v := 16) dX12_apart_13 bipush_16 ?_
  refine X_idiv dX12_apart_15 (by decide) ?_
  refine X_iload_n dX12_apart_16 rfl rfl ?_
  refine X_bipush (v := 16) dX12_apart_17 bipush_16 ?_
  refine X_idiv dX12_apart_19 (by decide) ?_
  refine X_callSi [.int (a0 / (16 : Int32)), .int (b0 / (16 : Int32))] [] c_X12_gap t_X12_gap lk_X12_121 dX12_apart_20 rfl (by decide) (Nat.le_of_ble_eq_true rfl) rfl (s_X12_gap sx (a0 / (16 : Int32)) (b0 / (16 : Int32))  σ1 _ h) (fun r4 σ3 h => ?_)
  refine X_istore_n (L' := [some (.int a0), some (.int b0), some (.int r2), some (.int r4)]) dX12_apart_23 rfl (by decide) rfl ?_
  refine X_iload_n dX12_apart_24 rfl rfl ?_
  refine X_iload_n dX12_apart_25 rfl rfl ?_
  refine X_icmp_le (tgt := 33) dX12_apart_26 (by decide) h (fun h => ?_) (fun h => ?_)
  · refine X_iload_n dX12_apart_33 rfl rfl ?_
    exact X_reti rfl dX12_apart_34 h
  · refine X_iload_n dX12_apart_29 rfl rfl ?_
    refine X_goto (tgt := 34) dX12_apart_30 (by decide) ?_
    exact X_reti rfl dX12_apart_34 h
def w_X12_isCarriage (a0 : Int32) (σ : Sg) (Q : Int32 → Sg → Prop) : Prop := w_X12_in a0 (0 : Int32) ((σ.1 60 1) - (1 : Int32)) σ (fun r2 σ1 => (r2 = 0 ∨ r2 = 1) ∧ Q r2 σ1)
set_option maxRecDepth 100000 in
set_option maxHeartbeats 4000000 in
theorem s_X12_isCarriage (sx : Nat × (Nat → Int32)) (a0 : Int32) (σ : Sg) (Q : Int32 → Sg → Prop) (h : w_X12_isCarriage a0 σ Q) : Ct mX12_isCarriage 1 false (0, 0) sx G0 [.ref 60, .int a0] σ (qI Q) := by
  refine Ct.of (L := [some (.ref 60), some (.int a0)]) (by decide) (Nat.le_of_ble_eq_true rfl) rfl ?_
  unfold w_X12_isCarriage at h
  refine X_iload_n dX12_isCarriage_0 rfl rfl ?_
  refine X_iconst (v := 0) dX12_isCarriage_1 iconst_0 ?_
  refine X_aload_n dX12_isCarriage_2 rfl rfl ?_
  refine X_get (v := .int (σ.1 60 1)) ck_X12 f_X12_125 g_60 rfl (fun _ => rfl) dX12_isCarriage_3 ?_
  refine X_iconst (v := 1) dX12_isCarriage_6 iconst_1 ?_
  refine X_isub dX12_isCarriage_7 ?_
  refine X_callSi [.int a0, .int (0 : Int32), .int ((σ.1 60 1) - (1 : Int32))] [] c_X12_in t_X12_in lk_X12_128 dX12_isCarriage_8 rfl (by decide) (Nat.le_of_ble_eq_true rfl) rfl (s_X12_in sx a0 (0 : Int32) ((σ.1 60 1) - (1 : Int32))  σ _ h) (fun r2 σ1 h => ?_)
  exact X_retz rfl (nzb h.1) dX12_isCarriage_11 h.2
def w_X12_isPlace (a0 : Int32) (σ : Sg) (Q : Int32 → Sg → Prop) : Prop := w_X12_in a0 (0 : Int32) ((σ.1 60 6) - (1 : Int32)) σ (fun r2 σ1 => (r2 = 0 ∨ r2 = 1) ∧ Q r2 σ1)
set_option maxRecDepth 100000 in
set_option maxHeartbeats 4000000 in
theorem s_X12_isPlace (sx : Nat × (Nat → Int32)) (a0 : Int32) (σ : Sg) (Q : Int32 → Sg → Prop) (h : w_X12_isPlace a0 σ Q) : Ct mX12_isPlace 1 false (0, 0) sx G0 [.ref 60, .int a0] σ (qI Q) := by
  refine Ct.of (L := [some (.ref 60), some (.int a0)]) (by decide) (Nat.le_of_ble_eq_true rfl) rfl ?_
  unfold w_X12_isPlace at h
  refine X_iload_n dX12_isPlace_0 rfl rfl ?_
  refine X_iconst (v := 0) dX12_isPlace_1 iconst_0 ?_
  refine X_aload_n dX12_isPlace_2 rfl rfl ?_
  refine X_get (v := .int (σ.1 60 6)) ck_X12 f_X12_132 g_60 rfl (fun _ => rfl) dX12_isPlace_3 ?_
  refine X_iconst (v := 1) dX12_isPlace_6 iconst_1 ?_
  refine X_isub dX12_isPlace_7 ?_
  refine X_callSi [.int a0, .int (0 : Int32), .int ((σ.1 60 6) - (1 : Int32))] [] c_X12_in t_X12_in lk_X12_128 dX12_isPlace_8 rfl (by decide) (Nat.le_of_ble_eq_true rfl) rfl (s_X12_in sx a0 (0 : Int32) ((σ.1 60 6) - (1 : Int32))  σ _ h) (fun r2 σ1 h => ?_)
  exact X_retz rfl (nzb h.1) dX12_isPlace_11 h.2
def w_X12_isCell (a0 : Int32) (σ : Sg) (Q : Int32 → Sg → Prop) : Prop := w_X12_in a0 (0 : Int32) (255 : Int32) σ (fun r2 σ1 => (r2 = 0 ∨ r2 = 1) ∧ Q r2 σ1)
set_option maxRecDepth 100000 in
set_option maxHeartbeats 4000000 in
theorem s_X12_isCell (sx : Nat × (Nat → Int32)) (a0 : Int32) (σ : Sg) (Q : Int32 → Sg → Prop) (h : w_X12_isCell a0 σ Q) : Ct mX12_isCell 1 false (0, 0) sx G0 [.int a0] σ (qI Q) := by
  refine Ct.of (L := [some (.int a0)]) (by decide) (Nat.le_of_ble_eq_true rfl) rfl ?_
  unfold w_X12_isCell at h
  refine X_iload_n dX12_isCell_0 rfl rfl ?_
  refine X_iconst (v := 0) dX12_isCell_1 iconst_0 ?_
  refine X_sipush (v := 255) dX12_isCell_2 sipush_255 ?_
  refine X_callSi [.int a0, .int (0 : Int32), .int (255 : Int32)] [] c_X12_in t_X12_in lk_X12_128 dX12_isCell_5 rfl (by decide) (Nat.le_of_ble_eq_true rfl) rfl (s_X12_in sx a0 (0 : Int32) (255 : Int32)  σ _ h) (fun r2 σ1 h => ?_)
  exact X_retz rfl (nzb h.1) dX12_isCell_8 h.2
def w_X12_areNear (a0 : Int32) (σ : Sg) (Q : Int32 → Sg → Prop) : Prop := if a0 < 0 then (Q (0 : Int32) σ) else (w_X12_isCarriage (a0 / (10 : Int32)) σ (fun r2 σ1 => if r2 = 0 then (Q (0 : Int32) σ1) else (w_X12_isPlace (a0 - a0 / (10 : Int32) * (10 : Int32)) σ1 (fun r4 σ3 => if r4 = 0 then (Q (0 : Int32) σ3) else (Q (1 : Int32) σ3)))))
set_option maxRecDepth 100000 in
set_option maxHeartbeats 4000000 in
theorem s_X12_areNear (sx : Nat × (Nat → Int32)) (a0 : Int32) (σ : Sg) (Q : Int32 → Sg → Prop) (h : w_X12_areNear a0 σ Q) : Ct mX12_areNear 2 false (0, 0) sx G0 [.ref 60, .int a0] σ (qI Q) := by
  refine Ct.of (L := [some (.ref 60), some (.int a0)]) (by decide) (Nat.le_of_ble_eq_true rfl) rfl ?_
  unfold w_X12_areNear at h
  refine X_iload_n dX12_areNear_0 rfl rfl ?_
  refine X_if_lt (tgt := 30) dX12_areNear_1 (by decide) h (fun h => ?_) (fun h => ?_)
  · refine X_iconst (v := 0) dX12_areNear_30 iconst_0 ?_
    exact X_retz rfl rfl dX12_areNear_31 h
  · refine X_aload_n dX12_areNear_4 rfl rfl ?_
    refine X_iload_n dX12_areNear_5 rfl rfl ?_
    refine X_bipush (v := 10) dX12_areNear_6 bipush_10 ?_
    refine X_idiv dX12_areNear_8 (by decide) ?_
    refine X_callVi [.int (a0 / (10 : Int32))] [] c_X12_isCarriage v_X12_isCarriage lk_X12_135 dX12_areNear_9 g_60 rfl rfl rfl (by decide) (Nat.le_of_ble_eq_true rfl) rfl (s_X12_isCarriage sx (a0 / (10 : Int32))  σ _ h) (fun r2 σ1 h => ?_)
    refine X_if_eq (tgt := 30) dX12_areNear_12 (by decide) h (fun h => ?_) (fun h => ?_)
    · refine X_iconst (v := 0) dX12_areNear_30 iconst_0 ?_
      exact X_retz rfl rfl dX12_areNear_31 h
    · refine X_aload_n dX12_areNear_15 rfl rfl ?_
      refine X_iload_n dX12_areNear_16 rfl rfl ?_
      refine X_bipush (v := 10) dX12_areNear_17 bipush_10 ?_
      refine X_irem dX12_areNear_19 (by decide) ?_
      refine X_callVi [.int (a0 - a0 / (10 : Int32) * (10 : Int32))] [] c_X12_isPlace v_X12_isPlace lk_X12_139 dX12_areNear_20 g_60 rfl rfl rfl (by decide) (Nat.le_of_ble_eq_true rfl) rfl (s_X12_isPlace sx (a0 - a0 / (10 : Int32) * (10 : Int32))  σ1 _ h) (fun r4 σ3 h => ?_)
      refine X_if_eq (tgt := 30) dX12_areNear_23 (by decide) h (fun h => ?_) (fun h => ?_)
      · refine X_iconst (v := 0) dX12_areNear_30 iconst_0 ?_
        exact X_retz rfl rfl dX12_areNear_31 h
      · refine X_iconst (v := 1) dX12_areNear_26 iconst_1 ?_
        refine X_goto (tgt := 31) dX12_areNear_27 (by decide) ?_
        exact X_retz rfl rfl dX12_areNear_31 h
def w_X12_areTwo (a0 : Int32) (σ : Sg) (Q : Int32 → Sg → Prop) : Prop := if a0 < 0 then (Q (0 : Int32) σ) else (w_X12_isCarriage (a0 / (10 : Int32)) σ (fun r2 σ1 => if r2 = 0 then (Q (0 : Int32) σ1) else (w_X12_isCarriage (a0 - a0 / (10 : Int32) * (10 : Int32)) σ1 (fun r4 σ3 => if r4 = 0 then (Q (0 : Int32) σ3) else (if (a0 / (10 : Int32)) = (a0 - a0 / (10 : Int32) * (10 : Int32)) then (Q (0 : Int32) σ3) else (Q (1 : Int32) σ3))))))
set_option maxRecDepth 100000 in
set_option maxHeartbeats 4000000 in
theorem s_X12_areTwo (sx : Nat × (Nat → Int32)) (a0 : Int32) (σ : Sg) (Q : Int32 → Sg → Prop) (h : w_X12_areTwo a0 σ Q) : Ct mX12_areTwo 2 false (0, 0) sx G0 [.ref 60, .int a0] σ (qI Q) := by
  refine Ct.of (L := [some (.ref 60), some (.int a0)]) (by decide) (Nat.le_of_ble_eq_true rfl) rfl ?_
  unfold w_X12_areTwo at h
  refine X_iload_n dX12_areTwo_0 rfl rfl ?_
  refine X_if_lt (tgt := 41) dX12_areTwo_1 (by decide) h (fun h => ?_) (fun h => ?_)
  · refine X_iconst (v := 0) dX12_areTwo_41 iconst_0 ?_
    exact X_retz rfl rfl dX12_areTwo_42 h
  · refine X_aload_n dX12_areTwo_4 rfl rfl ?_
    refine X_iload_n dX12_areTwo_5 rfl rfl ?_
    refine X_bipush (v := 10) dX12_areTwo_6 bipush_10 ?_
    refine X_idiv dX12_areTwo_8 (by decide) ?_
    refine X_callVi [.int (a0 / (10 : Int32))] [] c_X12_isCarriage v_X12_isCarriage lk_X12_135 dX12_areTwo_9 g_60 rfl rfl rfl (by decide) (Nat.le_of_ble_eq_true rfl) rfl (s_X12_isCarriage sx (a0 / (10 : Int32))  σ _ h) (fun r2 σ1 h => ?_)
    refine X_if_eq (tgt := 41) dX12_areTwo_12 (by decide) h (fun h => ?_) (fun h => ?_)
    · refine X_iconst (v := 0) dX12_areTwo_41 iconst_0 ?_
      exact X_retz rfl rfl dX12_areTwo_42 h
    · refine X_aload_n dX12_areTwo_15 rfl rfl ?_
      refine X_iload_n dX12_areTwo_16 rfl rfl ?_
      refine X_bipush (v := 10) dX12_areTwo_17 bipush_10 ?_
      refine X_irem dX12_areTwo_19 (by decide) ?_
      refine X_callVi [.int (a0 - a0 / (10 : Int32) * (10 : Int32))] [] c_X12_isCarriage v_X12_isCarriage lk_X12_135 dX12_areTwo_20 g_60 rfl rfl rfl (by decide) (Nat.le_of_ble_eq_true rfl) rfl (s_X12_isCarriage sx (a0 - a0 / (10 : Int32) * (10 : Int32))  σ1 _ h) (fun r4 σ3 h => ?_)
      refine X_if_eq (tgt := 41) dX12_areTwo_23 (by decide) h (fun h => ?_) (fun h => ?_)
      · refine X_iconst (v := 0) dX12_areTwo_41 iconst_0 ?_
        exact X_retz rfl rfl dX12_areTwo_42 h
      · refine X_iload_n dX12_areTwo_26 rfl rfl ?_
        refine X_bipush (v := 10) dX12_areTwo_27 bipush_10 ?_
        refine X_idiv dX12_areTwo_29 (by decide) ?_
        refine X_iload_n dX12_areTwo_30 rfl rfl ?_
        refine X_bipush (v := 10) dX12_areTwo_31 bipush_10 ?_
        refine X_irem dX12_areTwo_33 (by decide) ?_
        refine X_icmp_eq (tgt := 41) dX12_areTwo_34 (by decide) h (fun h => ?_) (fun h => ?_)
        · refine X_iconst (v := 0) dX12_areTwo_41 iconst_0 ?_
          exact X_retz rfl rfl dX12_areTwo_42 h
        · refine X_iconst (v := 1) dX12_areTwo_37 iconst_1 ?_
          refine X_goto (tgt := 42) dX12_areTwo_38 (by decide) ?_
          exact X_retz rfl rfl dX12_areTwo_42 h
def w_X12_addCarriage (a0 : Int32) (b0 : Int32) (c0 : Int32) (σ : Sg) (Q : Int32 → Sg → Prop) : Prop := vp_in (σ.1 60 1) 6 ∧ bd (sI σ 61 (Int32.toNatClampNeg (σ.1 60 1)) a0) fun σ1 => vp_in (σ1.1 60 1) 6 ∧ bd (sI σ1 62 (Int32.toNatClampNeg (σ1.1 60 1)) b0) fun σ2 => vp_in (σ2.1 60 1) 6 ∧ bd (sI σ2 63 (Int32.toNatClampNeg (σ2.1 60 1)) c0) fun σ3 => vp_in (σ3.1 60 1) 6 ∧ bd (sI σ3 64 (Int32.toNatClampNeg (σ3.1 60 1)) (9 : Int32)) fun σ4 => bd (sI σ4 60 1 ((σ4.1 60 1) + (1 : Int32))) fun σ5 => Q ((σ5.1 60 1) - (1 : Int32)) σ5
set_option maxRecDepth 100000 in
set_option maxHeartbeats 4000000 in
theorem s_X12_addCarriage (sx : Nat × (Nat → Int32)) (a0 : Int32) (b0 : Int32) (c0 : Int32) (σ : Sg) (Q : Int32 → Sg → Prop) (h : w_X12_addCarriage a0 b0 c0 σ Q) : Ct mX12_addCarriage 0 false (0, 0) sx G0 [.ref 60, .int a0, .int b0, .int c0] σ (qI Q) := by
  refine Ct.of (L := [some (.ref 60), some (.int a0), some (.int b0), some (.int c0)]) (by decide) (Nat.le_of_ble_eq_true rfl) rfl ?_
  unfold w_X12_addCarriage at h
  refine X_aload_n dX12_addCarriage_0 rfl rfl ?_
  refine X_get (v := .ref 61) ck_X12 f_X12_9 g_60 rfl (fun _ => rfl) dX12_addCarriage_1 ?_
  refine X_aload_n dX12_addCarriage_4 rfl rfl ?_
  refine X_get (v := .int (σ.1 60 1)) ck_X12 f_X12_125 g_60 rfl (fun _ => rfl) dX12_addCarriage_5 ?_
  refine X_iload_n dX12_addCarriage_8 rfl rfl ?_
  refine X_iast g_61 dX12_addCarriage_9 h (fun σ1 h => ?_)
  refine X_aload_n dX12_addCarriage_10 rfl rfl ?_
  refine X_get (v := .ref 62) ck_X12 f_X12_15 g_60 rfl (fun _ => rfl) dX12_addCarriage_11 ?_
  refine X_aload_n dX12_addCarriage_14 rfl rfl ?_
  refine X_get (v := .int (σ1.1 60 1)) ck_X12 f_X12_125 g_60 rfl (fun _ => rfl) dX12_addCarriage_15 ?_
  refine X_iload_n dX12_addCarriage_18 rfl rfl ?_
  refine X_iast g_62 dX12_addCarriage_19 h (fun σ2 h => ?_)
  refine X_aload_n dX12_addCarriage_20 rfl rfl ?_
  refine X_get (v := .ref 63) ck_X12 f_X12_18 g_60 rfl (fun _ => rfl) dX12_addCarriage_21 ?_
  refine X_aload_n dX12_addCarriage_24 rfl rfl ?_
  refine X_get (v := .int (σ2.1 60 1)) ck_X12 f_X12_125 g_60 rfl (fun _ => rfl) dX12_addCarriage_25 ?_
  refine X_iload_n dX12_addCarriage_28 rfl rfl ?_
  refine X_iast g_63 dX12_addCarriage_29 h (fun σ3 h => ?_)
  refine X_aload_n dX12_addCarriage_30 rfl rfl ?_
  refine X_get (v := .ref 64) ck_X12 f_X12_21 g_60 rfl (fun _ => rfl) dX12_addCarriage_31 ?_
  refine X_aload_n dX12_addCarriage_34 rfl rfl ?_
  refine X_get (v := .int (σ3.1 60 1)) ck_X12 f_X12_125 g_60 rfl (fun _ => rfl) dX12_addCarriage_35 ?_
  refine X_bipush (v := 9) dX12_addCarriage_38 bipush_9 ?_
  refine X_iast g_64 dX12_addCarriage_40 h (fun σ4 h => ?_)
  refine X_aload_n dX12_addCarriage_41 rfl rfl ?_
  refine X_dup dX12_addCarriage_42 rfl ?_
  refine X_get (v := .int (σ4.1 60 1)) ck_X12 f_X12_125 g_60 rfl (fun _ => rfl) dX12_addCarriage_43 ?_
  refine X_iconst (v := 1) dX12_addCarriage_46 iconst_1 ?_
  refine X_iadd dX12_addCarriage_47 ?_
  refine X_putI ck_X12 f_X12_125 rfl g_60 rfl rfl rfl dX12_addCarriage_48 h (fun σ5 h => ?_)
  refine X_aload_n dX12_addCarriage_51 rfl rfl ?_
  refine X_get (v := .int (σ5.1 60 1)) ck_X12 f_X12_125 g_60 rfl (fun _ => rfl) dX12_addCarriage_52 ?_
  refine X_iconst (v := 1) dX12_addCarriage_55 iconst_1 ?_
  refine X_isub dX12_addCarriage_56 ?_
  exact X_reti rfl dX12_addCarriage_57 h
def w_X12_carriage (a0 : Int32) (b0 : Int32) (σ : Sg) (Q : Int32 → Sg → Prop) : Prop := w_X12_isCell a0 σ (fun r2 σ1 => if r2 = 0 then (Q (-1 : Int32) σ1) else (w_X12_in b0 (0 : Int32) (7 : Int32) σ1 (fun r4 σ3 => if r4 = 0 then (Q (-1 : Int32) σ3) else (if (σ3.1 60 1) = (6 : Int32) then (Q (-3 : Int32) σ3) else (w_X12_addCarriage a0 b0 (1 : Int32) σ3 (fun r6 σ5 => Q r6 σ5))))))
set_option maxRecDepth 100000 in
set_option maxHeartbeats 4000000 in
theorem s_X12_carriage (sx : Nat × (Nat → Int32)) (a0 : Int32) (b0 : Int32) (σ : Sg) (Q : Int32 → Sg → Prop) (h : w_X12_carriage a0 b0 σ Q) : Ct mX12_carriage 2 false (0, 0) sx G0 [.ref 60, .int a0, .int b0] σ (qI Q) := by
  refine Ct.of (L := [some (.ref 60), some (.int a0), some (.int b0)]) (by decide) (Nat.le_of_ble_eq_true rfl) rfl ?_
  unfold w_X12_carriage at h
  refine X_iload_n dX12_carriage_0 rfl rfl ?_
  refine X_callSi [.int a0] [] c_X12_isCell t_X12_isCell lk_X12_142 dX12_carriage_1 rfl (by decide) (Nat.le_of_ble_eq_true rfl) rfl (s_X12_isCell sx a0  σ _ h) (fun r2 σ1 h => ?_)
  refine X_if_eq (tgt := 17) dX12_carriage_4 (by decide) h (fun h => ?_) (fun h => ?_)
  · refine X_iconst (v := -1) dX12_carriage_17 iconst_m1 ?_
    exact X_reti rfl dX12_carriage_18 h
  · refine X_iload_n dX12_carriage_7 rfl rfl ?_
    refine X_iconst (v := 0) dX12_carriage_8 iconst_0 ?_
    refine X_bipush (v := 7) dX12_carriage_9 bipush_7 ?_
    refine X_callSi [.int b0, .int (0 : Int32), .int (7 : Int32)] [] c_X12_in t_X12_in lk_X12_128 dX12_carriage_11 rfl (by decide) (Nat.le_of_ble_eq_true rfl) rfl (s_X12_in sx b0 (0 : Int32) (7 : Int32)  σ1 _ h) (fun r4 σ3 h => ?_)
    refine X_if_ne (tgt := 19) dX12_carriage_14 (by decide) h (fun h => ?_) (fun h => ?_)
    · refine X_aload_n dX12_carriage_19 rfl rfl ?_
      refine X_get (v := .int (σ3.1 60 1)) ck_X12 f_X12_125 g_60 rfl (fun _ => rfl) dX12_carriage_20 ?_
      refine X_bipush (v := 6) dX12_carriage_23 bipush_6 ?_
      refine X_icmp_ne (tgt := 33) dX12_carriage_25 (by decide) h (fun h => ?_) (fun h => ?_)
      · refine X_aload_n dX12_carriage_33 rfl rfl ?_
        refine X_iload_n dX12_carriage_34 rfl rfl ?_
        refine X_iload_n dX12_carriage_35 rfl rfl ?_
        refine X_iconst (v := 1) dX12_carriage_36 iconst_1 ?_
        refine X_callVi [.int a0, .int b0, .int (1 : Int32)] [] c_X12_addCarriage v_X12_addCarriage lk_X12_145 dX12_carriage_37 g_60 rfl rfl rfl (by decide) (Nat.le_of_ble_eq_true rfl) rfl (s_X12_addCarriage sx a0 b0 (1 : Int32)  σ3 _ h) (fun r6 σ5 h => ?_)
        exact X_reti rfl dX12_carriage_40 h
      · refine X_bipush (v := -3) dX12_carriage_28 bipush_m3 ?_
        refine X_goto (tgt := 40) dX12_carriage_30 (by decide) ?_
        exact X_reti rfl dX12_carriage_40 h
    · refine X_iconst (v := -1) dX12_carriage_17 iconst_m1 ?_
      exact X_reti rfl dX12_carriage_18 h
def w_X12_isShelf (a0 : Int32) (σ : Sg) (Q : Int32 → Sg → Prop) : Prop := w_X12_in a0 (0 : Int32) (5 : Int32) σ (fun r2 σ1 => (r2 = 0 ∨ r2 = 1) ∧ Q r2 σ1)
set_option maxRecDepth 100000 in
set_option maxHeartbeats 4000000 in
theorem s_X12_isShelf (sx : Nat × (Nat → Int32)) (a0 : Int32) (σ : Sg) (Q : Int32 → Sg → Prop) (h : w_X12_isShelf a0 σ Q) : Ct mX12_isShelf 1 false (0, 0) sx G0 [.int a0] σ (qI Q) := by
  refine Ct.of (L := [some (.int a0)]) (by decide) (Nat.le_of_ble_eq_true rfl) rfl ?_
  unfold w_X12_isShelf at h
  refine X_iload_n dX12_isShelf_0 rfl rfl ?_
  refine X_iconst (v := 0) dX12_isShelf_1 iconst_0 ?_
  refine X_iconst (v := 5) dX12_isShelf_2 iconst_5 ?_
  refine X_callSi [.int a0, .int (0 : Int32), .int (5 : Int32)] [] c_X12_in t_X12_in lk_X12_128 dX12_isShelf_3 rfl (by decide) (Nat.le_of_ble_eq_true rfl) rfl (s_X12_in sx a0 (0 : Int32) (5 : Int32)  σ _ h) (fun r2 σ1 h => ?_)
  exact X_retz rfl (nzb h.1) dX12_isShelf_6 h.2
def w_X12_carriages_l58 (a0 : Int32) (b0 : Int32) (c0 : Int32) (Q : Int32 → Sg → Prop) : Nat → Int32 → Sg → Prop
  | 0, _, _ => False
  | n58 + 1, x6, σ7 => if c0 ≤ x6 then (Q c0 σ7) else (bd ((Int32.toInt64 b0) + (Int32.toInt64 ((3 : Int32) * x6))) fun x8 => if (lg_cmp x8 (0 : Int64)) < 0 then (Q x6 σ7) else (vp_in a0 6 ∧ if 0 ≤ (lg_cmp (x8 + (2 : Int64)) (Int32.toInt64 (σ7.1 92 (Int32.toNatClampNeg a0)))) then (Q x6 σ7) else (if (σ7.1 60 1) = (6 : Int32) then (Q x6 σ7) else (bd (((60 : Int32) * a0) + (Int64.toInt32 x8)) fun x9 => vp_in x9 360 ∧ w_X12_isCell (Int64.toInt32 (σ7.2 93 (Int32.toNatClampNeg x9))) σ7 (fun r11 σ10 => if r11 = 0 then (Q x6 σ10) else (vp_in (x9 + (1 : Int32)) 360 ∧ w_X12_in (Int64.toInt32 (σ10.2 93 (Int32.toNatClampNeg (x9 + (1 : Int32))))) (0 : Int32) (7 : Int32) σ10 (fun r13 σ12 => if r13 = 0 then (Q x6 σ12) else (vp_in (x9 + (2 : Int32)) 360 ∧ w_X12_in (Int64.toInt32 (σ12.2 93 (Int32.toNatClampNeg (x9 + (2 : Int32))))) (1 : Int32) (4 : Int32) σ12 (fun r15 σ14 => if r15 = 0 then (Q x6 σ14) else (vp_in x9 360 ∧ vp_in (x9 + (1 : Int32)) 360 ∧ vp_in (x9 + (2 : Int32)) 360 ∧ w_X12_addCarriage (Int64.toInt32 (σ14.2 93 (Int32.toNatClampNeg x9))) (Int64.toInt32 (σ14.2 93 (Int32.toNatClampNeg (x9 + (1 : Int32))))) (Int64.toInt32 (σ14.2 93 (Int32.toNatClampNeg (x9 + (2 : Int32))))) σ14 (fun r17 σ16 => w_X12_carriages_l58 a0 b0 c0 Q n58 (x6 + 1) σ16)))))))))))
def w_X12_carriages (a0 : Int32) (b0 : Int32) (c0 : Int32) (σ : Sg) (Q : Int32 → Sg → Prop) : Prop := w_X12_isShelf a0 σ (fun r2 σ1 => if r2 = 0 then (Q (-1 : Int32) σ1) else (w_X12_in c0 (1 : Int32) (6 : Int32) σ1 (fun r4 σ3 => if r4 = 0 then (Q (-1 : Int32) σ3) else (vp_in a0 6 ∧ bd (fun (σ5 : Sg) => vp_in a0 6 ∧ if (σ5.1 91 (Int32.toNatClampNeg a0)) = (-1 : Int32) then (Q (0 : Int32) σ5) else (∃ n, w_X12_carriages_l58 a0 b0 c0 Q n (0 : Int32) σ5)) fun J43 => if (σ3.1 91 (Int32.toNatClampNeg a0)) = (-1 : Int32) then (J43 σ3) else (vp_in a0 6 ∧ if (σ3.1 91 (Int32.toNatClampNeg a0)) = (-3 : Int32) then (J43 σ3) else (Q (-12 : Int32) σ3))))))
set_option maxRecDepth 100000 in
set_option maxHeartbeats 4000000 in
theorem s_X12_carriages (sx : Nat × (Nat → Int32)) (a0 : Int32) (b0 : Int32) (c0 : Int32) (σ : Sg) (Q : Int32 → Sg → Prop) (h : w_X12_carriages a0 b0 c0 σ Q) : Ct mX12_carriages 2 false (0, 0) sx G0 [.ref 60, .int a0, .int b0, .int c0] σ (qI Q) := by
  refine Ct.of (L := [some (.ref 60), some (.int a0), some (.int b0), some (.int c0), none, none, none, none]) (by decide) (Nat.le_of_ble_eq_true rfl) rfl ?_
  unfold w_X12_carriages at h
  refine X_iload_n dX12_carriages_0 rfl rfl ?_
  refine X_callSi [.int a0] [] c_X12_isShelf t_X12_isShelf lk_X12_149 dX12_carriages_1 rfl (by decide) (Nat.le_of_ble_eq_true rfl) rfl (s_X12_isShelf sx a0  σ _ h) (fun r2 σ1 h => ?_)
  refine X_if_eq (tgt := 17) dX12_carriages_4 (by decide) h (fun h => ?_) (fun h => ?_)
  · refine X_iconst (v := -1) dX12_carriages_17 iconst_m1 ?_
    exact X_reti rfl dX12_carriages_18 h
  · refine X_iload_n dX12_carriages_7 rfl rfl ?_
    refine X_iconst (v := 1) dX12_carriages_8 iconst_1 ?_
    refine X_bipush (v := 6) dX12_carriages_9 bipush_6 ?_
    refine X_callSi [.int c0, .int (1 : Int32), .int (6 : Int32)] [] c_X12_in t_X12_in lk_X12_128 dX12_carriages_11 rfl (by decide) (Nat.le_of_ble_eq_true rfl) rfl (s_X12_in sx c0 (1 : Int32) (6 : Int32)  σ1 _ h) (fun r4 σ3 h => ?_)
    refine X_if_ne (tgt := 19) dX12_carriages_14 (by decide) h (fun h => ?_) (fun h => ?_)
    · refine X_aload_n dX12_carriages_19 rfl rfl ?_
      refine X_get (v := .ref 91) ck_X12 f_X12_104 g_60 rfl (fun _ => rfl) dX12_carriages_20 ?_
      refine X_iload_n dX12_carriages_23 rfl rfl ?_
      refine X_iald g_91 dX12_carriages_24 h (fun h => ?_)
      refine X_iconst (v := -1) dX12_carriages_25 iconst_m1 ?_
      refine bd_j h (fun J43 e43 h => ?_)
      have j43 : ∀ (σ5 : Sg) , J43  σ5 → Ex mX12_carriages 2 false (0, 0) sx G0 43 [some (.ref 60), some (.int a0), some (.int b0), some (.int c0), none, none, none, none] [] σ5 (qI Q) := by
        intro  σ5  h
        subst e43
        replace h := h
        refine X_aload_n dX12_carriages_43 rfl rfl ?_
        refine X_get (v := .ref 91) ck_X12 f_X12_104 g_60 rfl (fun _ => rfl) dX12_carriages_44 ?_
        refine X_iload_n dX12_carriages_47 rfl rfl ?_
        refine X_iald g_91 dX12_carriages_48 h (fun h => ?_)
        refine X_iconst (v := -1) dX12_carriages_49 iconst_m1 ?_
        refine X_icmp_ne (tgt := 55) dX12_carriages_50 (by decide) h (fun h => ?_) (fun h => ?_)
        · refine X_iconst (v := 0) dX12_carriages_55 iconst_0 ?_
          refine X_istore (L' := [some (.ref 60), some (.int a0), some (.int b0), some (.int c0), some (.int (0 : Int32)), none, none, none]) dX12_carriages_56 (by decide) rfl ?_
          obtain ⟨n58, h⟩ := h
          have key58 : ∀ (n : Nat) (x6 : Int32) (σ7 : Sg) , w_X12_carriages_l58 a0 b0 c0 Q n x6 σ7 → Ex mX12_carriages 2 false (0, 0) sx G0 58 [some (.ref 60), some (.int a0), some (.int b0), some (.int c0), some (.int x6), none, none, none] [] σ7 (qI Q) := by
            intro n58
            induction n58 with
            | zero => intro _ _  h; exact h.elim
            | succ n58 ih58 =>
              intro x6 σ7  h
              unfold w_X12_carriages_l58 at h
              refine X_iload dX12_carriages_58 rfl ?_
              refine X_iload_n dX12_carriages_60 rfl rfl ?_
              refine X_icmp_ge (tgt := 213) dX12_carriages_61 (by decide) h (fun h => ?_) (fun h => ?_)
              · refine X_iload_n dX12_carriages_213 rfl rfl ?_
                exact X_reti rfl dX12_carriages_214 h
              · refine X_iload_n dX12_carriages_64 rfl rfl ?_
                refine X_i2l dX12_carriages_65 ?_
                refine X_iconst (v := 3) dX12_carriages_66 iconst_3 ?_
                refine X_iload dX12_carriages_67 rfl ?_
                refine X_imul dX12_carriages_69 ?_
                refine X_i2l dX12_carriages_70 ?_
                refine X_ladd dX12_carriages_71 ?_
                refine X_topJ h (fun x8 h => ?_)
                refine X_lstore (L' := [some (.ref 60), some (.int a0), some (.int b0), some (.int c0), some (.int x6), some (.long x8), none, none]) dX12_carriages_72 (by decide) rfl ?_
                refine X_lload dX12_carriages_74 rfl ?_
                refine X_lconst (v := 0) dX12_carriages_76 rfl ?_
                refine X_lcmp dX12_carriages_77 ?_
                refine X_if_lt (tgt := 107) dX12_carriages_78 (by decide) h (fun h => ?_) (fun h => ?_)
                · refine X_iload dX12_carriages_107 rfl ?_
                  exact X_reti rfl dX12_carriages_109 h
                · refine X_lload dX12_carriages_81 rfl ?_
                  refine X_ldc2 (v := 2) dX12_carriages_83 k_X12_152 ?_
                  refine X_ladd dX12_carriages_86 ?_
                  refine X_aload_n dX12_carriages_87 rfl rfl ?_
                  refine X_get (v := .ref 92) ck_X12 f_X12_107 g_60 rfl (fun _ => rfl) dX12_carriages_88 ?_
                  refine X_iload_n dX12_carriages_91 rfl rfl ?_
                  refine X_iald g_92 dX12_carriages_92 h (fun h => ?_)
                  refine X_i2l dX12_carriages_93 ?_
                  refine X_lcmp dX12_carriages_94 ?_
                  refine X_if_ge (tgt := 107) dX12_carriages_95 (by decide) h (fun h => ?_) (fun h => ?_)
                  · refine X_iload dX12_carriages_107 rfl ?_
                    exact X_reti rfl dX12_carriages_109 h
                  · refine X_aload_n dX12_carriages_98 rfl rfl ?_
                    refine X_get (v := .int (σ7.1 60 1)) ck_X12 f_X12_125 g_60 rfl (fun _ => rfl) dX12_carriages_99 ?_
                    refine X_bipush (v := 6) dX12_carriages_102 bipush_6 ?_
                    refine X_icmp_ne (tgt := 110) dX12_carriages_104 (by decide) h (fun h => ?_) (fun h => ?_)
                    · refine X_bipush (v := 60) dX12_carriages_110 bipush_60 ?_
                      refine X_iload_n dX12_carriages_112 rfl rfl ?_
                      refine X_imul dX12_carriages_113 ?_
                      refine X_lload dX12_carriages_114 rfl ?_
                      refine X_l2i dX12_carriages_116 ?_
                      refine X_iadd dX12_carriages_117 ?_
                      refine X_topI h (fun x9 h => ?_)
                      refine X_istore (L' := [some (.ref 60), some (.int a0), some (.int b0), some (.int c0), some (.int x6), some (.long x8), none, some (.int x9)]) dX12_carriages_118 (by decide) rfl ?_
                      refine X_aload_n dX12_carriages_120 rfl rfl ?_
                      refine X_get (v := .ref 93) ck_X12 f_X12_110 g_60 rfl (fun _ => rfl) dX12_carriages_121 ?_
                      refine X_iload dX12_carriages_124 rfl ?_
                      refine X_lald g_93 dX12_carriages_126 h (fun h => ?_)
                      refine X_l2i dX12_carriages_127 ?_
                      refine X_callSi [.int (Int64.toInt32 (σ7.2 93 (Int32.toNatClampNeg x9)))] [] c_X12_isCell t_X12_isCell lk_X12_142 dX12_carriages_128 rfl (by decide) (Nat.le_of_ble_eq_true rfl) rfl (s_X12_isCell sx (Int64.toInt32 (σ7.2 93 (Int32.toNatClampNeg x9)))  σ7 _ h) (fun r11 σ10 h => ?_)
                      refine X_if_eq (tgt := 171) dX12_carriages_131 (by decide) h (fun h => ?_) (fun h => ?_)
                      · refine X_iload dX12_carriages_171 rfl ?_
                        exact X_reti rfl dX12_carriages_173 h
                      · refine X_aload_n dX12_carriages_134 rfl rfl ?_
                        refine X_get (v := .ref 93) ck_X12 f_X12_110 g_60 rfl (fun _ => rfl) dX12_carriages_135 ?_
                        refine X_iload dX12_carriages_138 rfl ?_
                        refine X_iconst (v := 1) dX12_carriages_140 iconst_1 ?_
                        refine X_iadd dX12_carriages_141 ?_
                        refine X_lald g_93 dX12_carriages_142 h (fun h => ?_)
                        refine X_l2i dX12_carriages_143 ?_
                        refine X_iconst (v := 0) dX12_carriages_144 iconst_0 ?_
                        refine X_bipush (v := 7) dX12_carriages_145 bipush_7 ?_
                        refine X_callSi [.int (Int64.toInt32 (σ10.2 93 (Int32.toNatClampNeg (x9 + (1 : Int32))))), .int (0 : Int32), .int (7 : Int32)] [] c_X12_in t_X12_in lk_X12_128 dX12_carriages_147 rfl (by decide) (Nat.le_of_ble_eq_true rfl) rfl (s_X12_in sx (Int64.toInt32 (σ10.2 93 (Int32.toNatClampNeg (x9 + (1 : Int32))))) (0 : Int32) (7 : Int32)  σ10 _ h) (fun r13 σ12 h => ?_)
                        refine X_if_eq (tgt := 171) dX12_carriages_150 (by decide) h (fun h => ?_) (fun h => ?_)
                        · refine X_iload dX12_carriages_171 rfl ?_
                          exact X_reti rfl dX12_carriages_173 h
                        · refine X_aload_n dX12_carriages_153 rfl rfl ?_
                          refine X_get (v := .ref 93) ck_X12 f_X12_110 g_60 rfl (fun _ => rfl) dX12_carriages_154 ?_
                          refine X_iload dX12_carriages_157 rfl ?_
                          refine X_iconst (v := 2) dX12_carriages_159 iconst_2 ?_
                          refine X_iadd dX12_carriages_160 ?_
                          refine X_lald g_93 dX12_carriages_161 h (fun h => ?_)
                          refine X_l2i dX12_carriages_162 ?_
                          refine X_iconst (v := 1) dX12_carriages_163 iconst_1 ?_
                          refine X_iconst (v := 4) dX12_carriages_164 iconst_4 ?_
                          refine X_callSi [.int (Int64.toInt32 (σ12.2 93 (Int32.toNatClampNeg (x9 + (2 : Int32))))), .int (1 : Int32), .int (4 : Int32)] [] c_X12_in t_X12_in lk_X12_128 dX12_carriages_165 rfl (by decide) (Nat.le_of_ble_eq_true rfl) rfl (s_X12_in sx (Int64.toInt32 (σ12.2 93 (Int32.toNatClampNeg (x9 + (2 : Int32))))) (1 : Int32) (4 : Int32)  σ12 _ h) (fun r15 σ14 h => ?_)
                          refine X_if_ne (tgt := 174) dX12_carriages_168 (by decide) h (fun h => ?_) (fun h => ?_)
                          · refine X_aload_n dX12_carriages_174 rfl rfl ?_
                            refine X_aload_n dX12_carriages_175 rfl rfl ?_
                            refine X_get (v := .ref 93) ck_X12 f_X12_110 g_60 rfl (fun _ => rfl) dX12_carriages_176 ?_
                            refine X_iload dX12_carriages_179 rfl ?_
                            refine X_lald g_93 dX12_carriages_181 h (fun h => ?_)
                            refine X_l2i dX12_carriages_182 ?_
                            refine X_aload_n dX12_carriages_183 rfl rfl ?_
                            refine X_get (v := .ref 93) ck_X12 f_X12_110 g_60 rfl (fun _ => rfl) dX12_carriages_184 ?_
                            refine X_iload dX12_carriages_187 rfl ?_
                            refine X_iconst (v := 1) dX12_carriages_189 iconst_1 ?_
                            refine X_iadd dX12_carriages_190 ?_
                            refine X_lald g_93 dX12_carriages_191 h (fun h => ?_)
                            refine X_l2i dX12_carriages_192 ?_
                            refine X_aload_n dX12_carriages_193 rfl rfl ?_
                            refine X_get (v := .ref 93) ck_X12 f_X12_110 g_60 rfl (fun _ => rfl) dX12_carriages_194 ?_
                            refine X_iload dX12_carriages_197 rfl ?_
                            refine X_iconst (v := 2) dX12_carriages_199 iconst_2 ?_
                            refine X_iadd dX12_carriages_200 ?_
                            refine X_lald g_93 dX12_carriages_201 h (fun h => ?_)
                            refine X_l2i dX12_carriages_202 ?_
                            refine X_callVi [.int (Int64.toInt32 (σ14.2 93 (Int32.toNatClampNeg x9))), .int (Int64.toInt32 (σ14.2 93 (Int32.toNatClampNeg (x9 + (1 : Int32))))), .int (Int64.toInt32 (σ14.2 93 (Int32.toNatClampNeg (x9 + (2 : Int32)))))] [] c_X12_addCarriage v_X12_addCarriage lk_X12_145 dX12_carriages_203 g_60 rfl rfl rfl (by decide) (Nat.le_of_ble_eq_true rfl) rfl (s_X12_addCarriage sx (Int64.toInt32 (σ14.2 93 (Int32.toNatClampNeg x9))) (Int64.toInt32 (σ14.2 93 (Int32.toNatClampNeg (x9 + (1 : Int32))))) (Int64.toInt32 (σ14.2 93 (Int32.toNatClampNeg (x9 + (2 : Int32)))))  σ14 _ h) (fun r17 σ16 h => ?_)
                            refine X_pop dX12_carriages_206 rfl ?_
                            refine X_iinc (v := (x6 + 1)) (L' := [some (.ref 60), some (.int a0), some (.int b0), some (.int c0), some (.int (x6 + 1)), some (.long x8), none, some (.int x9)]) dX12_carriages_207 rfl rfl (by decide) rfl ?_
                            refine X_goto (tgt := 58) dX12_carriages_210 (by decide) ?_
                            refine X_drop (L' := [some (.ref 60), some (.int a0), some (.int b0), some (.int c0), some (.int (x6 + 1)), none, none, none]) ⟨rfl, ⟨rfl, ⟨rfl, ⟨rfl, ⟨rfl, trivial⟩⟩⟩⟩⟩ ?_
                            exact ih58 _ _  h
                          · refine X_iload dX12_carriages_171 rfl ?_
                            exact X_reti rfl dX12_carriages_173 h
                    · refine X_iload dX12_carriages_107 rfl ?_
                      exact X_reti rfl dX12_carriages_109 h
          exact key58 _ _ _  h
        · refine X_iconst (v := 0) dX12_carriages_53 iconst_0 ?_
          exact X_reti rfl dX12_carriages_54 h
      refine X_icmp_eq (tgt := 43) dX12_carriages_26 (by decide) h (fun h => ?_) (fun h => ?_)
      · exact j43 _  h
      · refine X_aload_n dX12_carriages_29 rfl rfl ?_
        refine X_get (v := .ref 91) ck_X12 f_X12_104 g_60 rfl (fun _ => rfl) dX12_carriages_30 ?_
        refine X_iload_n dX12_carriages_33 rfl rfl ?_
        refine X_iald g_91 dX12_carriages_34 h (fun h => ?_)
        refine X_bipush (v := -3) dX12_carriages_35 bipush_m3 ?_
        refine X_icmp_eq (tgt := 43) dX12_carriages_37 (by decide) h (fun h => ?_) (fun h => ?_)
        · exact j43 _  h
        · refine X_bipush (v := -12) dX12_carriages_40 bipush_m12 ?_
          exact X_reti rfl dX12_carriages_42 h
    · refine X_iconst (v := -1) dX12_carriages_17 iconst_m1 ?_
      exact X_reti rfl dX12_carriages_18 h
