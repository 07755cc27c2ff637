def w_X9_rankOf (a0 : Int32) (σ : Sg) (Q : Int32 → Sg → Prop) : Prop := if a0 = (37 : Int32) then (Q (5 : Int32) σ) else (if a0 = (38 : Int32) then (Q (2 : Int32) σ) else (if a0 = (42 : Int32) then (Q (5 : Int32) σ) else (if a0 = (43 : Int32) then (Q (4 : Int32) σ) else (if a0 = (45 : Int32) then (Q (4 : Int32) σ) else (if a0 = (47 : Int32) then (Q (5 : Int32) σ) else (if a0 = (60 : Int32) then (Q (3 : Int32) σ) else (if a0 = (61 : Int32) then (Q (3 : Int32) σ) else (if a0 = (62 : Int32) then (Q (3 : Int32) σ) else (if a0 = (124 : Int32) then (Q (1 : Int32) σ) else (Q (0 : Int32) σ))))))))))
set_option maxRecDepth 100000 in
set_option maxHeartbeats 4000000 in
theorem s_X9_rankOf (sx : Nat × (Nat → Int32)) (a0 : Int32) (σ : Sg) (Q : Int32 → Sg → Prop) (h : w_X9_rankOf a0 σ Q) : Ct mX9_rankOf 0 false (0, 0) sx G0 [.int a0] σ (qI Q) := by
  refine Ct.of (L := [some (.int a0)]) (by decide) (Nat.le_of_ble_eq_true rfl) rfl ?_
  unfold w_X9_rankOf at h
  refine X_iload_n dX9_rankOf_0 rfl rfl ?_
  by_cases hc1_37 : a0 = (37 : Int32)
  · replace h := if_t h hc1_37
    refine X_lookup (tgt := 100) dX9_rankOf_1 (by decide) (by rw [hc1_37] <;> decide) (by decide) ?_
    refine X_iconst (v := 5) dX9_rankOf_100 iconst_5 ?_
    exact X_reti rfl dX9_rankOf_101 h
  replace h := if_f h hc1_37
  by_cases hc1_38 : a0 = (38 : Int32)
  · replace h := if_t h hc1_38
    refine X_lookup (tgt := 94) dX9_rankOf_1 (by decide) (by rw [hc1_38] <;> decide) (by decide) ?_
    refine X_iconst (v := 2) dX9_rankOf_94 iconst_2 ?_
    exact X_reti rfl dX9_rankOf_95 h
  replace h := if_f h hc1_38
  by_cases hc1_42 : a0 = (42 : Int32)
  · replace h := if_t h hc1_42
    refine X_lookup (tgt := 100) dX9_rankOf_1 (by decide) (by rw [hc1_42] <;> decide) (by decide) ?_
    refine X_iconst (v := 5) dX9_rankOf_100 iconst_5 ?_
    exact X_reti rfl dX9_rankOf_101 h
  replace h := if_f h hc1_42
  by_cases hc1_43 : a0 = (43 : Int32)
  · replace h := if_t h hc1_43
    refine X_lookup (tgt := 98) dX9_rankOf_1 (by decide) (by rw [hc1_43] <;> decide) (by decide) ?_
    refine X_iconst (v := 4) dX9_rankOf_98 iconst_4 ?_
    exact X_reti rfl dX9_rankOf_99 h
  replace h := if_f h hc1_43
  by_cases hc1_45 : a0 = (45 : Int32)
  · replace h := if_t h hc1_45
    refine X_lookup (tgt := 98) dX9_rankOf_1 (by decide) (by rw [hc1_45] <;> decide) (by decide) ?_
    refine X_iconst (v := 4) dX9_rankOf_98 iconst_4 ?_
    exact X_reti rfl dX9_rankOf_99 h
  replace h := if_f h hc1_45
  by_cases hc1_47 : a0 = (47 : Int32)
  · replace h := if_t h hc1_47
    refine X_lookup (tgt := 100) dX9_rankOf_1 (by decide) (by rw [hc1_47] <;> decide) (by decide) ?_
    refine X_iconst (v := 5) dX9_rankOf_100 iconst_5 ?_
    exact X_reti rfl dX9_rankOf_101 h
  replace h := if_f h hc1_47
  by_cases hc1_60 : a0 = (60 : Int32)
  · replace h := if_t h hc1_60
    refine X_lookup (tgt := 96) dX9_rankOf_1 (by decide) (by rw [hc1_60] <;> decide) (by decide) ?_
    refine X_iconst (v := 3) dX9_rankOf_96 iconst_3 ?_
    exact X_reti rfl dX9_rankOf_97 h
  replace h := if_f h hc1_60
  by_cases hc1_61 : a0 = (61 : Int32)
  · replace h := if_t h hc1_61
    refine X_lookup (tgt := 96) dX9_rankOf_1 (by decide) (by rw [hc1_61] <;> decide) (by decide) ?_
    refine X_iconst (v := 3) dX9_rankOf_96 iconst_3 ?_
    exact X_reti rfl dX9_rankOf_97 h
  replace h := if_f h hc1_61
  by_cases hc1_62 : a0 = (62 : Int32)
  · replace h := if_t h hc1_62
    refine X_lookup (tgt := 96) dX9_rankOf_1 (by decide) (by rw [hc1_62] <;> decide) (by decide) ?_
    refine X_iconst (v := 3) dX9_rankOf_96 iconst_3 ?_
    exact X_reti rfl dX9_rankOf_97 h
  replace h := if_f h hc1_62
  by_cases hc1_124 : a0 = (124 : Int32)
  · replace h := if_t h hc1_124
    refine X_lookup (tgt := 92) dX9_rankOf_1 (by decide) (by rw [hc1_124] <;> decide) (by decide) ?_
    refine X_iconst (v := 1) dX9_rankOf_92 iconst_1 ?_
    exact X_reti rfl dX9_rankOf_93 h
  replace h := if_f h hc1_124
  refine X_lookup (tgt := 102) dX9_rankOf_1 (by decide) (lk_out (by intro q hq; simp only [List.mem_cons, List.not_mem_nil, or_false] at hq; rcases hq with rfl | rfl | rfl | rfl | rfl | rfl | rfl | rfl | rfl | rfl <;> first | exact ne_toInt hc1_37 | exact ne_toInt hc1_38 | exact ne_toInt hc1_42 | exact ne_toInt hc1_43 | exact ne_toInt hc1_45 | exact ne_toInt hc1_47 | exact ne_toInt hc1_60 | exact ne_toInt hc1_61 | exact ne_toInt hc1_62 | exact ne_toInt hc1_124)) (by decide) ?_
  refine X_iconst (v := 0) dX9_rankOf_102 iconst_0 ?_
  exact X_reti rfl dX9_rankOf_103 h
def w_X9_writeWaiting_l0 (a0 : Int32) (Q : Sg → Prop) : Nat → Sg → Prop
  | 0, _ => False
  | n0 + 1, σ1 => if (σ1.1 11 3) ≤ 0 then (Q σ1) else (w_X9_lastWaiting  σ1 (fun r3 σ2 => w_X9_rankOf r3 σ2 (fun r5 σ4 => if r5 < a0 then (Q σ4) else (w_X9_lastWaiting  σ4 (fun r7 σ6 => w_X9_write (-r7) σ6 (fun  σ8 => bd (sI σ8 11 3 ((σ8.1 11 3) - (1 : Int32))) fun σ9 => w_X9_writeWaiting_l0 a0 Q n0 σ9))))))
def w_X9_writeWaiting (a0 : Int32) (σ : Sg) (Q : Sg → Prop) : Prop := ∃ n, w_X9_writeWaiting_l0 a0 Q n σ
set_option maxRecDepth 100000 in
set_option maxHeartbeats 4000000 in
theorem s_X9_writeWaiting (sx : Nat × (Nat → Int32)) (a0 : Int32) (σ : Sg) (Q : Sg → Prop) (h : w_X9_writeWaiting a0 σ Q) : Ct mX9_writeWaiting 2 false (0, 0) sx G0 [.ref 11, .int a0] σ (qV Q) := by
  refine Ct.of (L := [some (.ref 11), some (.int a0)]) (by decide) (Nat.le_of_ble_eq_true rfl) rfl ?_
  unfold w_X9_writeWaiting at h
  obtain ⟨n0, h⟩ := h
  have key0 : ∀ (n : Nat) (σ1 : Sg) , w_X9_writeWaiting_l0 a0 Q n  σ1 → Ex mX9_writeWaiting 2 false (0, 0) sx G0 0 [some (.ref 11), some (.int a0)] [] σ1 (qV Q) := by
    intro n0
    induction n0 with
    | zero => intro _  h; exact h.elim
    | succ n0 ih0 =>
      intro  σ1  h
      unfold w_X9_writeWaiting_l0 at h
      refine X_aload_n dX9_writeWaiting_0 rfl rfl ?_
      refine X_get (v := .int (σ1.1 11 3)) ck_X9 f_X9_22 g_11 rfl (fun _ => rfl) dX9_writeWaiting_1 ?_
      refine X_if_le (tgt := 40) dX9_writeWaiting_4 (by decide) h (fun h => ?_) (fun h => ?_)
      · exact X_retv rfl dX9_writeWaiting_40 h
      · refine X_aload_n dX9_writeWaiting_7 rfl rfl ?_
        refine X_callVi [] [] c_X9_lastWaiting v_X9_lastWaiting lk_X9_81 dX9_writeWaiting_8 g_11 rfl rfl rfl (by decide) (Nat.le_of_ble_eq_true rfl) rfl (s_X9_lastWaiting sx   σ1 _ h) (fun r3 σ2 h => ?_)
        refine X_callSi [.int r3] [] c_X9_rankOf t_X9_rankOf lk_X9_78 dX9_writeWaiting_11 rfl (by decide) (Nat.le_of_ble_eq_true rfl) rfl (s_X9_rankOf sx r3  σ2 _ h) (fun r5 σ4 h => ?_)
        refine X_iload_n dX9_writeWaiting_14 rfl rfl ?_
        refine X_icmp_lt (tgt := 40) dX9_writeWaiting_15 (by decide) h (fun h => ?_) (fun h => ?_)
        · exact X_retv rfl dX9_writeWaiting_40 h
        · refine X_aload_n dX9_writeWaiting_18 rfl rfl ?_
          refine X_aload_n dX9_writeWaiting_19 rfl rfl ?_
          refine X_callVi [] [.ref 11] c_X9_lastWaiting v_X9_lastWaiting lk_X9_81 dX9_writeWaiting_20 g_11 rfl rfl rfl (by decide) (Nat.le_of_ble_eq_true rfl) rfl (s_X9_lastWaiting sx   σ4 _ h) (fun r7 σ6 h => ?_)
          refine X_ineg dX9_writeWaiting_23 ?_
          refine X_callVv [.int (-r7)] [] c_X9_write v_X9_write lk_X9_62 dX9_writeWaiting_24 g_11 rfl rfl rfl (by decide) (Nat.le_of_ble_eq_true rfl) rfl (s_X9_write sx (-r7)  σ6 _ h) (fun  σ8 h => ?_)
          refine X_aload_n dX9_writeWaiting_27 rfl rfl ?_
          refine X_dup dX9_writeWaiting_28 rfl ?_
          refine X_get (v := .int (σ8.1 11 3)) ck_X9 f_X9_22 g_11 rfl (fun _ => rfl) dX9_writeWaiting_29 ?_
          refine X_iconst (v := 1) dX9_writeWaiting_32 iconst_1 ?_
          refine X_isub dX9_writeWaiting_33 ?_
          refine X_putI ck_X9 f_X9_22 rfl g_11 rfl rfl rfl dX9_writeWaiting_34 h (fun σ9 h => ?_)
          refine X_goto (tgt := 0) dX9_writeWaiting_37 (by decide) ?_
          exact ih0 _  h
  exact key0 _ _  h
def w_X9_closeBracket (σ : Sg) (Q : Int32 → Sg → Prop) : Prop := if (σ.1 11 5) = 0 then (Q (0 : Int32) σ) else (w_X9_writeWaiting (1 : Int32) σ (fun  σ1 => bd (sI σ1 11 3 ((σ1.1 11 3) - (1 : Int32))) fun σ2 => bd (sI σ2 11 4 ((σ2.1 11 4) - (1 : Int32))) fun σ3 => bd (sI σ3 11 5 ((σ3.1 11 5) - (1 : Int32))) fun σ4 => w_X9_endOperand  σ4 (fun  σ5 => Q (1 : Int32) σ5)))
set_option maxRecDepth 100000 in
set_option maxHeartbeats 4000000 in
theorem s_X9_closeBracket (sx : Nat × (Nat → Int32)) (σ : Sg) (Q : Int32 → Sg → Prop) (h : w_X9_closeBracket σ Q) : Ct mX9_closeBracket 3 false (0, 0) sx G0 [.ref 11] σ (qI Q) := by
  refine Ct.of (L := [some (.ref 11)]) (by decide) (Nat.le_of_ble_eq_true rfl) rfl ?_
  unfold w_X9_closeBracket at h
  refine X_aload_n dX9_closeBracket_0 rfl rfl ?_
  refine X_get (v := .int (σ.1 11 5)) ck_X9 f_X9_28 g_11 rfl (fun _ => rfl) dX9_closeBracket_1 ?_
  refine X_if_ne (tgt := 9) dX9_closeBracket_4 (by decide) h (fun h => ?_) (fun h => ?_)
  · refine X_aload_n dX9_closeBracket_9 rfl rfl ?_
    refine X_iconst (v := 1) dX9_closeBracket_10 iconst_1 ?_
    refine X_callVv [.int (1 : Int32)] [] c_X9_writeWaiting v_X9_writeWaiting lk_X9_46 dX9_closeBracket_11 g_11 rfl rfl rfl (by decide) (Nat.le_of_ble_eq_true rfl) rfl (s_X9_writeWaiting sx (1 : Int32)  σ _ h) (fun  σ1 h => ?_)
    refine X_aload_n dX9_closeBracket_14 rfl rfl ?_
    refine X_dup dX9_closeBracket_15 rfl ?_
    refine X_get (v := .int (σ1.1 11 3)) ck_X9 f_X9_22 g_11 rfl (fun _ => rfl) dX9_closeBracket_16 ?_
    refine X_iconst (v := 1) dX9_closeBracket_19 iconst_1 ?_
    refine X_isub dX9_closeBracket_20 ?_
    refine X_putI ck_X9 f_X9_22 rfl g_11 rfl rfl rfl dX9_closeBracket_21 h (fun σ2 h => ?_)
    refine X_aload_n dX9_closeBracket_24 rfl rfl ?_
    refine X_dup dX9_closeBracket_25 rfl ?_
    refine X_get (v := .int (σ2.1 11 4)) ck_X9 f_X9_25 g_11 rfl (fun _ => rfl) dX9_closeBracket_26 ?_
    refine X_iconst (v := 1) dX9_closeBracket_29 iconst_1 ?_
    refine X_isub dX9_closeBracket_30 ?_
    refine X_putI ck_X9 f_X9_25 rfl g_11 rfl rfl rfl dX9_closeBracket_31 h (fun σ3 h => ?_)
    refine X_aload_n dX9_closeBracket_34 rfl rfl ?_
    refine X_dup dX9_closeBracket_35 rfl ?_
    refine X_get (v := .int (σ3.1 11 5)) ck_X9 f_X9_28 g_11 rfl (fun _ => rfl) dX9_closeBracket_36 ?_
    refine X_iconst (v := 1) dX9_closeBracket_39 iconst_1 ?_
    refine X_isub dX9_closeBracket_40 ?_
    refine X_putI ck_X9 f_X9_28 rfl g_11 rfl rfl rfl dX9_closeBracket_41 h (fun σ4 h => ?_)
    refine X_aload_n dX9_closeBracket_44 rfl rfl ?_
    refine X_callVv [] [] c_X9_endOperand v_X9_endOperand lk_X9_65 dX9_closeBracket_45 g_11 rfl rfl rfl (by decide) (Nat.le_of_ble_eq_true rfl) rfl (s_X9_endOperand sx   σ4 _ h) (fun  σ5 h => ?_)
    refine X_iconst (v := 1) dX9_closeBracket_48 iconst_1 ?_
    exact X_reti rfl dX9_closeBracket_49 h
  · refine X_iconst (v := 0) dX9_closeBracket_7 iconst_0 ?_
    exact X_reti rfl dX9_closeBracket_8 h
def w_X9_endPart (a0 : Int32) (σ : Sg) (Q : Int32 → Sg → Prop) : Prop := if 0 < (σ.1 11 5) then (Q (0 : Int32) σ) else (bd (fun (σ1 : Sg) => w_X9_writeWaiting (1 : Int32) σ1 (fun  σ2 => w_X9_write (-a0) σ2 (fun  σ3 => bd (fun (x4 : Int32) (σ5 : Sg) => (x4 = 0 ∨ x4 = 1) ∧ bd (sI σ5 11 7 x4) fun σ6 => bd (sI σ6 11 6 (1 : Int32)) fun σ7 => Q (1 : Int32) σ7) fun J45 => if a0 = (63 : Int32) then (J45 (1 : Int32) σ3) else (J45 (0 : Int32) σ3)))) fun J22 => if a0 = (63 : Int32) then (if (σ.1 11 7) = 0 then (J22 σ) else (Q (0 : Int32) σ)) else (J22 σ))
set_option maxRecDepth 100000 in
set_option maxHeartbeats 4000000 in
theorem s_X9_endPart (sx : Nat × (Nat → Int32)) (a0 : Int32) (σ : Sg) (Q : Int32 → Sg → Prop) (h : w_X9_endPart a0 σ Q) : Ct mX9_endPart 3 false (0, 0) sx G0 [.ref 11, .int a0] σ (qI Q) := by
  refine Ct.of (L := [some (.ref 11), some (.int a0)]) (by decide) (Nat.le_of_ble_eq_true rfl) rfl ?_
  unfold w_X9_endPart at h
  refine X_aload_n dX9_endPart_0 rfl rfl ?_
  refine X_get (v := .int (σ.1 11 5)) ck_X9 f_X9_28 g_11 rfl (fun _ => rfl) dX9_endPart_1 ?_
  refine X_if_gt (tgt := 20) dX9_endPart_4 (by decide) h (fun h => ?_) (fun h => ?_)
  · refine X_iconst (v := 0) dX9_endPart_20 iconst_0 ?_
    exact X_reti rfl dX9_endPart_21 h
  · refine X_iload_n dX9_endPart_7 rfl rfl ?_
    refine X_bipush (v := 63) dX9_endPart_8 bipush_63 ?_
    refine bd_j h (fun J22 e22 h => ?_)
    have j22 : ∀ (σ1 : Sg) , J22  σ1 → Ex mX9_endPart 3 false (0, 0) sx G0 22 [some (.ref 11), some (.int a0)] [] σ1 (qI Q) := by
      intro  σ1  h
      subst e22
      replace h := h
      refine X_aload_n dX9_endPart_22 rfl rfl ?_
      refine X_iconst (v := 1) dX9_endPart_23 iconst_1 ?_
      refine X_callVv [.int (1 : Int32)] [] c_X9_writeWaiting v_X9_writeWaiting lk_X9_46 dX9_endPart_24 g_11 rfl rfl rfl (by decide) (Nat.le_of_ble_eq_true rfl) rfl (s_X9_writeWaiting sx (1 : Int32)  σ1 _ h) (fun  σ2 h => ?_)
      refine X_aload_n dX9_endPart_27 rfl rfl ?_
      refine X_iload_n dX9_endPart_28 rfl rfl ?_
      refine X_ineg dX9_endPart_29 ?_
      refine X_callVv [.int (-a0)] [] c_X9_write v_X9_write lk_X9_62 dX9_endPart_30 g_11 rfl rfl rfl (by decide) (Nat.le_of_ble_eq_true rfl) rfl (s_X9_write sx (-a0)  σ2 _ h) (fun  σ3 h => ?_)
      refine X_aload_n dX9_endPart_33 rfl rfl ?_
      refine X_iload_n dX9_endPart_34 rfl rfl ?_
      refine X_bipush (v := 63) dX9_endPart_35 bipush_63 ?_
      refine bd_j h (fun J45 e45 h => ?_)
      have j45 : ∀ (x4 : Int32) (σ5 : Sg) , J45 x4 σ5 → Ex mX9_endPart 3 false (0, 0) sx G0 45 [some (.ref 11), none] [.int x4, .ref 11] σ5 (qI Q) := by
        intro x4 σ5  h
        subst e45
        replace h := h
        obtain ⟨hz, h⟩ := h
        refine X_putI ck_X9 f_X9_35 rfl g_11 rfl (nzb hz) (fzb hz) dX9_endPart_45 h (fun σ6 h => ?_)
        refine X_aload_n dX9_endPart_48 rfl rfl ?_
        refine X_iconst (v := 1) dX9_endPart_49 iconst_1 ?_
        refine X_putI ck_X9 f_X9_31 rfl g_11 rfl rfl rfl dX9_endPart_50 h (fun σ7 h => ?_)
        refine X_iconst (v := 1) dX9_endPart_53 iconst_1 ?_
        exact X_reti rfl dX9_endPart_54 h
      refine X_icmp_ne (tgt := 44) dX9_endPart_37 (by decide) h (fun h => ?_) (fun h => ?_)
      · refine X_iconst (v := 0) dX9_endPart_44 iconst_0 ?_
        refine X_drop (L' := [some (.ref 11), none]) ⟨rfl, trivial⟩ ?_
        exact j45 _ _  h
      · refine X_iconst (v := 1) dX9_endPart_40 iconst_1 ?_
        refine X_goto (tgt := 45) dX9_endPart_41 (by decide) ?_
        refine X_drop (L' := [some (.ref 11), none]) ⟨rfl, trivial⟩ ?_
        exact j45 _ _  h
    refine X_icmp_ne (tgt := 22) dX9_endPart_10 (by decide) h (fun h => ?_) (fun h => ?_)
    · exact j22 _  h
    · refine X_aload_n dX9_endPart_13 rfl rfl ?_
      refine X_get (v := .int (σ.1 11 7)) ck_X9 f_X9_35 g_11 rfl (fun _ => rfl) dX9_endPart_14 ?_
      refine X_if_eq (tgt := 22) dX9_endPart_17 (by decide) h (fun h => ?_) (fun h => ?_)
      · exact j22 _  h
      · refine X_iconst (v := 0) dX9_endPart_20 iconst_0 ?_
        exact X_reti rfl dX9_endPart_21 h
def w_X9_sign (a0 : Int32) (σ : Sg) (Q : Int32 → Sg → Prop) : Prop := if a0 = (41 : Int32) then (w_X9_closeBracket  σ (fun r17 σ16 => Q r17 σ16)) else (bd (fun (σ1 : Sg) => w_X9_endPart a0 σ1 (fun r3 σ2 => Q r3 σ2)) fun J23 => if a0 = (63 : Int32) then (J23 σ) else (if a0 = (59 : Int32) then (J23 σ) else (w_X9_rankOf a0 σ (fun r5 σ4 => if r5 = 0 then (Q (0 : Int32) σ4) else (bd (fun (x6 : Int32) (σ7 : Sg) => w_X9_writeWaiting x6 σ7 (fun  σ8 => bd (fun (σ9 : Sg) => w_X9_await a0 σ9 (fun  σ10 => bd (sI σ10 11 6 (1 : Int32)) fun σ11 => Q (1 : Int32) σ11)) fun J74 => if r5 = (3 : Int32) then (w_X9_lastWaiting  σ8 (fun r13 σ12 => w_X9_rankOf r13 σ12 (fun r15 σ14 => if r15 = (3 : Int32) then (Q (0 : Int32) σ14) else (J74 σ14)))) else (J74 σ8))) fun J53 => if r5 = (3 : Int32) then (J53 (r5 + (1 : Int32)) σ4) else (J53 r5 σ4))))))
set_option maxRecDepth 100000 in
set_option maxHeartbeats 4000000 in
theorem s_X9_sign (sx : Nat × (Nat → Int32)) (a0 : Int32) (σ : Sg) (Q : Int32 → Sg → Prop) (h : w_X9_sign a0 σ Q) : Ct mX9_sign 4 false (0, 0) sx G0 [.ref 11, .int a0] σ (qI Q) := by
  refine Ct.of (L := [some (.ref 11), some (.int a0), none]) (by decide) (Nat.le_of_ble_eq_true rfl) rfl ?_
  unfold w_X9_sign at h
  refine X_iload_n dX9_sign_0 rfl rfl ?_
  refine X_bipush (v := 41) dX9_sign_1 bipush_41 ?_
  refine X_icmp_ne (tgt := 11) dX9_sign_3 (by decide) h (fun h => ?_) (fun h => ?_)
  · refine X_iload_n dX9_sign_11 rfl rfl ?_
    refine X_bipush (v := 63) dX9_sign_12 bipush_63 ?_
    refine bd_j h (fun J23 e23 h => ?_)
    have j23 : ∀ (σ1 : Sg) , J23  σ1 → Ex mX9_sign 4 false (0, 0) sx G0 23 [some (.ref 11), some (.int a0), none] [] σ1 (qI Q) := by
      intro  σ1  h
      subst e23
      replace h := h
      refine X_aload_n dX9_sign_23 rfl rfl ?_
      refine X_iload_n dX9_sign_24 rfl rfl ?_
      refine X_callVi [.int a0] [] c_X9_endPart v_X9_endPart lk_X9_75 dX9_sign_25 g_11 rfl rfl rfl (by decide) (Nat.le_of_ble_eq_true rfl) rfl (s_X9_endPart sx a0  σ1 _ h) (fun r3 σ2 h => ?_)
      exact X_reti rfl dX9_sign_28 h
    refine X_icmp_eq (tgt := 23) dX9_sign_14 (by decide) h (fun h => ?_) (fun h => ?_)
    · exact j23 _  h
    · refine X_iload_n dX9_sign_17 rfl rfl ?_
      refine X_bipush (v := 59) dX9_sign_18 bipush_59 ?_
      refine X_icmp_ne (tgt := 29) dX9_sign_20 (by decide) h (fun h => ?_) (fun h => ?_)
      · refine X_iload_n dX9_sign_29 rfl rfl ?_
        refine X_callSi [.int a0] [] c_X9_rankOf t_X9_rankOf lk_X9_78 dX9_sign_30 rfl (by decide) (Nat.le_of_ble_eq_true rfl) rfl (s_X9_rankOf sx a0  σ _ h) (fun r5 σ4 h => ?_)
        refine X_istore_n (L' := [some (.ref 11), some (.int a0), some (.int r5)]) dX9_sign_33 rfl (by decide) rfl ?_
        refine X_iload_n dX9_sign_34 rfl rfl ?_
        refine X_if_ne (tgt := 40) dX9_sign_35 (by decide) h (fun h => ?_) (fun h => ?_)
        · refine X_aload_n dX9_sign_40 rfl rfl ?_
          refine X_iload_n dX9_sign_41 rfl rfl ?_
          refine X_iconst (v := 3) dX9_sign_42 iconst_3 ?_
          refine bd_j h (fun J53 e53 h => ?_)
          have j53 : ∀ (x6 : Int32) (σ7 : Sg) , J53 x6 σ7 → Ex mX9_sign 4 false (0, 0) sx G0 53 [some (.ref 11), some (.int a0), some (.int r5)] [.int x6, .ref 11] σ7 (qI Q) := by
            intro x6 σ7  h
            subst e53
            replace h := h
            refine X_callVv [.int x6] [] c_X9_writeWaiting v_X9_writeWaiting lk_X9_46 dX9_sign_53 g_11 rfl rfl rfl (by decide) (Nat.le_of_ble_eq_true rfl) rfl (s_X9_writeWaiting sx x6  σ7 _ h) (fun  σ8 h => ?_)
            refine X_iload_n dX9_sign_56 rfl rfl ?_
            refine X_iconst (v := 3) dX9_sign_57 iconst_3 ?_
            refine bd_j h (fun J74 e74 h => ?_)
            have j74 : ∀ (σ9 : Sg) , J74  σ9 → Ex mX9_sign 4 false (0, 0) sx G0 74 [some (.ref 11), some (.int a0), none] [] σ9 (qI Q) := by
              intro  σ9  h
              subst e74
              replace h := h
              refine X_aload_n dX9_sign_74 rfl rfl ?_
              refine X_iload_n dX9_sign_75 rfl rfl ?_
              refine X_callVv [.int a0] [] c_X9_await v_X9_await lk_X9_68 dX9_sign_76 g_11 rfl rfl rfl (by decide) (Nat.le_of_ble_eq_true rfl) rfl (s_X9_await sx a0  σ9 _ h) (fun  σ10 h => ?_)
              refine X_aload_n dX9_sign_79 rfl rfl ?_
              refine X_iconst (v := 1) dX9_sign_80 iconst_1 ?_
              refine X_putI ck_X9 f_X9_31 rfl g_11 rfl rfl rfl dX9_sign_81 h (fun σ11 h => ?_)
              refine X_iconst (v := 1) dX9_sign_84 iconst_1 ?_
              exact X_reti rfl dX9_sign_85 h
            refine X_icmp_ne (tgt := 74) dX9_sign_58 (by decide) h (fun h => ?_) (fun h => ?_)
            · refine X_drop (L' := [some (.ref 11), some (.int a0), none]) ⟨rfl, ⟨rfl, trivial⟩⟩ ?_
              exact j74 _  h
            · refine X_aload_n dX9_sign_61 rfl rfl ?_
              refine X_callVi [] [] c_X9_lastWaiting v_X9_lastWaiting lk_X9_81 dX9_sign_62 g_11 rfl rfl rfl (by decide) (Nat.le_of_ble_eq_true rfl) rfl (s_X9_lastWaiting sx   σ8 _ h) (fun r13 σ12 h => ?_)
              refine X_callSi [.int r13] [] c_X9_rankOf t_X9_rankOf lk_X9_78 dX9_sign_65 rfl (by decide) (Nat.le_of_ble_eq_true rfl) rfl (s_X9_rankOf sx r13  σ12 _ h) (fun r15 σ14 h => ?_)
              refine X_iconst (v := 3) dX9_sign_68 iconst_3 ?_
              refine X_icmp_ne (tgt := 74) dX9_sign_69 (by decide) h (fun h => ?_) (fun h => ?_)
              · refine X_drop (L' := [some (.ref 11), some (.int a0), none]) ⟨rfl, ⟨rfl, trivial⟩⟩ ?_
                exact j74 _  h
              · refine X_iconst (v := 0) dX9_sign_72 iconst_0 ?_
                exact X_reti rfl dX9_sign_73 h
          refine X_icmp_ne (tgt := 52) dX9_sign_43 (by decide) h (fun h => ?_) (fun h => ?_)
          · refine X_iload_n dX9_sign_52 rfl rfl ?_
            exact j53 _ _  h
          · refine X_iload_n dX9_sign_46 rfl rfl ?_
            refine X_iconst (v := 1) dX9_sign_47 iconst_1 ?_
            refine X_iadd dX9_sign_48 ?_
            refine X_goto (tgt := 53) dX9_sign_49 (by decide) ?_
            exact j53 _ _  h
        · refine X_iconst (v := 0) dX9_sign_38 iconst_0 ?_
          exact X_reti rfl dX9_sign_39 h
      · exact j23 _  h
  · refine X_aload_n dX9_sign_6 rfl rfl ?_
    refine X_callVi [] [] c_X9_closeBracket v_X9_closeBracket lk_X9_71 dX9_sign_7 g_11 rfl rfl rfl (by decide) (Nat.le_of_ble_eq_true rfl) rfl (s_X9_closeBracket sx   σ _ h) (fun r17 σ16 h => ?_)
    exact X_reti rfl dX9_sign_10 h
def w_X9_faultOf_l32 (b0 : Int32) (Q : Int32 → Sg → Prop) (J84 : Sg → Prop) : Nat → Int32 → Sg → Prop
  | 0, _, _ => False
  | n32 + 1, x9, σ10 => if b0 ≤ x9 then (J84 σ10) else (if (120 : Int32) ≤ x9 then (J84 σ10) else (bd (fun (x11 : Int32) (σ12 : Sg) => if 0 < x11 then (bd (x9 + x11) fun x13 => w_X9_faultOf_l32 b0 Q J84 n32 x13 σ12) else (Q x9 σ12)) fun J67 => if (σ10.1 11 6) = 0 then (vp_in x9 120 ∧ w_X9_sign (σ10.1 14 (Int32.toNatClampNeg x9)) σ10 (fun r15 σ14 => J67 r15 σ14)) else (w_X9_operand x9 b0 σ10 (fun r17 σ16 => J67 r17 σ16))))
def w_X9_faultOf (b0 : Int32) (σ : Sg) (Q : Int32 → Sg → Prop) : Prop := bd (sI σ 11 1 (0 : Int32)) fun σ1 => bd (sI σ1 11 3 (0 : Int32)) fun σ2 => bd (sI σ2 11 4 (0 : Int32)) fun σ3 => bd (sI σ3 11 5 (0 : Int32)) fun σ4 => bd (sI σ4 11 6 (1 : Int32)) fun σ5 => bd (sI σ5 11 7 (0 : Int32)) fun σ6 => bd (fun (σ7 : Sg) => if (σ7.1 11 6) = 0 then (if (σ7.1 11 5) ≤ 0 then (w_X9_writeWaiting (1 : Int32) σ7 (fun  σ8 => Q (-1 : Int32) σ8)) else (Q b0 σ7)) else (Q b0 σ7)) fun J84 => ∃ n, w_X9_faultOf_l32 b0 Q J84 n (0 : Int32) σ6
set_option maxRecDepth 100000 in
set_option maxHeartbeats 4000000 in
theorem s_X9_faultOf (sx : Nat × (Nat → Int32)) (b0 : Int32) (σ : Sg) (Q : Int32 → Sg → Prop) (h : w_X9_faultOf b0 σ Q) : Ct mX9_faultOf 5 false (0, 0) sx G0 [.ref 11, .ref 14, .int b0] σ (qI Q) := by
  refine Ct.of (L := [some (.ref 11), some (.ref 14), some (.int b0), none, none]) (by decide) (Nat.le_of_ble_eq_true rfl) rfl ?_
  unfold w_X9_faultOf at h
  refine X_aload_n dX9_faultOf_0 rfl rfl ?_
  refine X_iconst (v := 0) dX9_faultOf_1 iconst_0 ?_
  refine X_putI ck_X9 f_X9_18 rfl g_11 rfl rfl rfl dX9_faultOf_2 h (fun σ1 h => ?_)
  refine X_aload_n dX9_faultOf_5 rfl rfl ?_
  refine X_iconst (v := 0) dX9_faultOf_6 iconst_0 ?_
  refine X_putI ck_X9 f_X9_22 rfl g_11 rfl rfl rfl dX9_faultOf_7 h (fun σ2 h => ?_)
  refine X_aload_n dX9_faultOf_10 rfl rfl ?_
  refine X_iconst (v := 0) dX9_faultOf_11 iconst_0 ?_
  refine X_putI ck_X9 f_X9_25 rfl g_11 rfl rfl rfl dX9_faultOf_12 h (fun σ3 h => ?_)
  refine X_aload_n dX9_faultOf_15 rfl rfl ?_
  refine X_iconst (v := 0) dX9_faultOf_16 iconst_0 ?_
  refine X_putI ck_X9 f_X9_28 rfl g_11 rfl rfl rfl dX9_faultOf_17 h (fun σ4 h => ?_)
  refine X_aload_n dX9_faultOf_20 rfl rfl ?_
  refine X_iconst (v := 1) dX9_faultOf_21 iconst_1 ?_
  refine X_putI ck_X9 f_X9_31 rfl g_11 rfl rfl rfl dX9_faultOf_22 h (fun σ5 h => ?_)
  refine X_aload_n dX9_faultOf_25 rfl rfl ?_
  refine X_iconst (v := 0) dX9_faultOf_26 iconst_0 ?_
  refine X_putI ck_X9 f_X9_35 rfl g_11 rfl rfl rfl dX9_faultOf_27 h (fun σ6 h => ?_)
  refine X_iconst (v := 0) dX9_faultOf_30 iconst_0 ?_
  refine X_istore_n (L' := [some (.ref 11), some (.ref 14), some (.int b0), some (.int (0 : Int32)), none]) dX9_faultOf_31 rfl (by decide) rfl ?_
  refine bd_j h (fun J84 e84 h => ?_)
  have j84 : ∀ (σ7 : Sg) , J84  σ7 → Ex mX9_faultOf 5 false (0, 0) sx G0 84 [some (.ref 11), none, some (.int b0), none, none] [] σ7 (qI Q) := by
    intro  σ7  h
    subst e84
    replace h := h
    refine X_aload_n dX9_faultOf_84 rfl rfl ?_
    refine X_get (v := .int (σ7.1 11 6)) ck_X9 f_X9_31 g_11 rfl (fun _ => rfl) dX9_faultOf_85 ?_
    refine X_if_ne (tgt := 98) dX9_faultOf_88 (by decide) h (fun h => ?_) (fun h => ?_)
    · refine X_iload_n dX9_faultOf_98 rfl rfl ?_
      exact X_reti rfl dX9_faultOf_99 h
    · refine X_aload_n dX9_faultOf_91 rfl rfl ?_
      refine X_get (v := .int (σ7.1 11 5)) ck_X9 f_X9_28 g_11 rfl (fun _ => rfl) dX9_faultOf_92 ?_
      refine X_if_le (tgt := 100) dX9_faultOf_95 (by decide) h (fun h => ?_) (fun h => ?_)
      · refine X_aload_n dX9_faultOf_100 rfl rfl ?_
        refine X_iconst (v := 1) dX9_faultOf_101 iconst_1 ?_
        refine X_callVv [.int (1 : Int32)] [] c_X9_writeWaiting v_X9_writeWaiting lk_X9_46 dX9_faultOf_102 g_11 rfl rfl rfl (by decide) (Nat.le_of_ble_eq_true rfl) rfl (s_X9_writeWaiting sx (1 : Int32)  σ7 _ h) (fun  σ8 h => ?_)
        refine X_iconst (v := -1) dX9_faultOf_105 iconst_m1 ?_
        exact X_reti rfl dX9_faultOf_106 h
      · refine X_iload_n dX9_faultOf_98 rfl rfl ?_
        exact X_reti rfl dX9_faultOf_99 h
  obtain ⟨n32, h⟩ := h
  have key32 : ∀ (n : Nat) (x9 : Int32) (σ10 : Sg) , w_X9_faultOf_l32 b0 Q J84 n x9 σ10 → Ex mX9_faultOf 5 false (0, 0) sx G0 32 [some (.ref 11), some (.ref 14), some (.int b0), some (.int x9), none] [] σ10 (qI Q) := by
    intro n32
    induction n32 with
    | zero => intro _ _  h; exact h.elim
    | succ n32 ih32 =>
      intro x9 σ10  h
      unfold w_X9_faultOf_l32 at h
      refine X_iload_n dX9_faultOf_32 rfl rfl ?_
      refine X_iload_n dX9_faultOf_33 rfl rfl ?_
      refine X_icmp_ge (tgt := 84) dX9_faultOf_34 (by decide) h (fun h => ?_) (fun h => ?_)
      · refine X_drop (L' := [some (.ref 11), none, some (.int b0), none, none]) ⟨rfl, ⟨rfl, trivial⟩⟩ ?_
        exact j84 _  h
      · refine X_iload_n dX9_faultOf_37 rfl rfl ?_
        refine X_aload_n dX9_faultOf_38 rfl rfl ?_
        refine X_alen g_14 rfl dX9_faultOf_39 ?_
        refine X_icmp_ge (tgt := 84) dX9_faultOf_40 (by decide) h (fun h => ?_) (fun h => ?_)
        · refine X_drop (L' := [some (.ref 11), none, some (.int b0), none, none]) ⟨rfl, ⟨rfl, trivial⟩⟩ ?_
          exact j84 _  h
        · refine X_aload_n dX9_faultOf_43 rfl rfl ?_
          refine X_get (v := .int (σ10.1 11 6)) ck_X9 f_X9_31 g_11 rfl (fun _ => rfl) dX9_faultOf_44 ?_
          refine bd_j h (fun J67 e67 h => ?_)
          have j67 : ∀ (x11 : Int32) (σ12 : Sg) , J67 x11 σ12 → Ex mX9_faultOf 5 false (0, 0) sx G0 67 [some (.ref 11), some (.ref 14), some (.int b0), some (.int x9), none] [.int x11] σ12 (qI Q) := by
            intro x11 σ12  h
            subst e67
            replace h := h
            refine X_istore (L' := [some (.ref 11), some (.ref 14), some (.int b0), some (.int x9), some (.int x11)]) dX9_faultOf_67 (by decide) rfl ?_
            refine X_iload dX9_faultOf_69 rfl ?_
            refine X_if_gt (tgt := 76) dX9_faultOf_71 (by decide) h (fun h => ?_) (fun h => ?_)
            · refine X_iload_n dX9_faultOf_76 rfl rfl ?_
              refine X_iload dX9_faultOf_77 rfl ?_
              refine X_iadd dX9_faultOf_79 ?_
              refine X_topI h (fun x13 h => ?_)
              refine X_istore_n (L' := [some (.ref 11), some (.ref 14), some (.int b0), some (.int x13), some (.int x11)]) dX9_faultOf_80 rfl (by decide) rfl ?_
              refine X_goto (tgt := 32) dX9_faultOf_81 (by decide) ?_
              refine X_drop (L' := [some (.ref 11), some (.ref 14), some (.int b0), some (.int x13), none]) ⟨rfl, ⟨rfl, ⟨rfl, ⟨rfl, trivial⟩⟩⟩⟩ ?_
              exact ih32 _ _  h
            · refine X_iload_n dX9_faultOf_74 rfl rfl ?_
              exact X_reti rfl dX9_faultOf_75 h
          refine X_if_eq (tgt := 60) dX9_faultOf_47 (by decide) h (fun h => ?_) (fun h => ?_)
          · refine X_aload_n dX9_faultOf_60 rfl rfl ?_
            refine X_aload_n dX9_faultOf_61 rfl rfl ?_
            refine X_iload_n dX9_faultOf_62 rfl rfl ?_
            refine X_iald g_14 dX9_faultOf_63 h (fun h => ?_)
            refine X_callVi [.int (σ10.1 14 (Int32.toNatClampNeg x9))] [] c_X9_sign v_X9_sign lk_X9_42 dX9_faultOf_64 g_11 rfl rfl rfl (by decide) (Nat.le_of_ble_eq_true rfl) rfl (s_X9_sign sx (σ10.1 14 (Int32.toNatClampNeg x9))  σ10 _ h) (fun r15 σ14 h => ?_)
            exact j67 _ _  h
          · refine X_aload_n dX9_faultOf_50 rfl rfl ?_
            refine X_aload_n dX9_faultOf_51 rfl rfl ?_
            refine X_iload_n dX9_faultOf_52 rfl rfl ?_
            refine X_iload_n dX9_faultOf_53 rfl rfl ?_
            refine X_callVi [.ref 14, .int x9, .int b0] [] c_X9_operand v_X9_operand lk_X9_38 dX9_faultOf_54 g_11 rfl rfl rfl (by decide) (Nat.le_of_ble_eq_true rfl) rfl (s_X9_operand sx x9 b0  σ10 _ h) (fun r17 σ16 h => ?_)
            refine X_goto (tgt := 67) dX9_faultOf_57 (by decide) ?_
            exact j67 _ _  h
  exact key32 _ _ _  h
def w_X10_clear (k : Nat) (σ : Sg) (Q : Sg → Prop) : Prop := bd (sI σ (45 + 2 * k) 0 (-2 : Int32)) fun σ1 => bd (sI σ1 (45 + 2 * k) 2 (0 : Int32)) fun σ2 => Q σ2
set_option maxRecDepth 100000 in
set_option maxHeartbeats 4000000 in
theorem s_X10_clear (sx : Nat × (Nat → Int32)) (k : Nat) (hk : k < 6) (σ : Sg) (Q : Sg → Prop) (h : w_X10_clear k σ Q) : Ct mX10_clear 0 false (0, 0) sx G0 [.ref (45 + 2 * k)] σ (qV Q) := by
  refine Ct.of (L := [some (.ref (45 + 2 * k))]) (by decide) (Nat.le_of_ble_eq_true rfl) rfl ?_
  unfold w_X10_clear at h
  refine X_aload_n dX10_clear_0 rfl rfl ?_
  refine X_bipush (v := -2) dX10_clear_1 bipush_m2 ?_
  refine X_putI ck_X10 f_X10_11 rfl (g_shelf hk) rfl rfl rfl dX10_clear_3 h (fun σ1 h => ?_)
  refine X_aload_n dX10_clear_6 rfl rfl ?_
  refine X_iconst (v := 0) dX10_clear_7 iconst_0 ?_
  refine X_putI ck_X10 f_X10_19 rfl (g_shelf hk) rfl rfl rfl dX10_clear_8 h (fun σ2 h => ?_)
  exact X_retv rfl dX10_clear_11 h
def w_X10_holdBody (k : Nat) (a0 : Int32) (σ : Sg) (Q : Sg → Prop) : Prop := bd (sI σ (45 + 2 * k) 0 (-1 : Int32)) fun σ1 => bd (sI σ1 (45 + 2 * k) 1 a0) fun σ2 => bd (sI σ2 (45 + 2 * k) 2 (0 : Int32)) fun σ3 => Q σ3
set_option maxRecDepth 100000 in
set_option maxHeartbeats 4000000 in
theorem s_X10_holdBody (sx : Nat × (Nat → Int32)) (k : Nat) (a0 : Int32) (hk : k < 6) (σ : Sg) (Q : Sg → Prop) (h : w_X10_holdBody k a0 σ Q) : Ct mX10_holdBody 0 false (0, 0) sx G0 [.ref (45 + 2 * k), .int a0] σ (qV Q) := by
  refine Ct.of (L := [some (.ref (45 + 2 * k)), some (.int a0)]) (by decide) (Nat.le_of_ble_eq_true rfl) rfl ?_
  unfold w_X10_holdBody at h
  refine X_aload_n dX10_holdBody_0 rfl rfl ?_
  refine X_iconst (v := -1) dX10_holdBody_1 iconst_m1 ?_
  refine X_putI ck_X10 f_X10_11 rfl (g_shelf hk) rfl rfl rfl dX10_holdBody_2 h (fun σ1 h => ?_)
  refine X_aload_n dX10_holdBody_5 rfl rfl ?_
  refine X_iload_n dX10_holdBody_6 rfl rfl ?_
  refine X_putI ck_X10 f_X10_22 rfl (g_shelf hk) rfl rfl rfl dX10_holdBody_7 h (fun σ2 h => ?_)
  refine X_aload_n dX10_holdBody_10 rfl rfl ?_
  refine X_iconst (v := 0) dX10_holdBody_11 iconst_0 ?_
  refine X_putI ck_X10 f_X10_19 rfl (g_shelf hk) rfl rfl rfl dX10_holdBody_12 h (fun σ3 h => ?_)
  exact X_retv rfl dX10_holdBody_15 h
def w_J7_fill_d0a16_l6 (a0 : Nat) (na0 : Nat) (b0 : Int64) (Q : Sg → Prop) (x1 : Int32) : Nat → Int32 → Sg → Prop
  | 0, _, _ => False
  | n6 + 1, x2, σ3 => if x1 ≤ x2 then (Q σ3) else (vp_in x2 na0 ∧ bd (sJ σ3 a0 (Int32.toNatClampNeg x2) b0) fun σ4 => w_J7_fill_d0a16_l6 a0 na0 b0 Q x1 n6 (x2 + 1) σ4)
def w_J7_fill_d0a16 (a0 : Nat) (na0 : Nat) (b0 : Int64) (σ : Sg) (Q : Sg → Prop) : Prop := bd (Int32.ofNat na0) fun x1 => ∃ n, w_J7_fill_d0a16_l6 a0 na0 b0 Q x1 n (0 : Int32) σ
set_option maxRecDepth 100000 in
set_option maxHeartbeats 4000000 in
theorem s_J7_fill_d0a16 (sx : Nat × (Nat → Int32)) (a0 : Nat) (na0 : Nat) (b0 : Int64) (ha0 : G0[a0]? = some (.inl (.long, na0, []))) (σ : Sg) (Q : Sg → Prop) (h : w_J7_fill_d0a16 a0 na0 b0 σ Q) : Ct mJ7_fill_d0a16 0 false (0, 0) sx G0 [.ref a0, .long b0] σ (qV Q) := by
  refine Ct.of (L := [some (.ref a0), some (.long b0), none, none, none]) (by decide) (Nat.le_of_ble_eq_true rfl) rfl ?_
  unfold w_J7_fill_d0a16 at h
  refine X_iconst (v := 0) dJ7_fill_d0a16_0 iconst_0 ?_
  refine X_istore_n (L' := [some (.ref a0), some (.long b0), none, some (.int (0 : Int32)), none]) dJ7_fill_d0a16_1 rfl (by decide) rfl ?_
  refine X_aload_n dJ7_fill_d0a16_2 rfl rfl ?_
  refine X_alenJ ha0 rfl dJ7_fill_d0a16_3 ?_
  refine X_topI h (fun x1 h => ?_)
  refine X_istore (L' := [some (.ref a0), some (.long b0), none, some (.int (0 : Int32)), some (.int x1)]) dJ7_fill_d0a16_4 (by decide) rfl ?_
  obtain ⟨n6, h⟩ := h
  have key6 : ∀ (n : Nat) (x2 : Int32) (σ3 : Sg) , w_J7_fill_d0a16_l6 a0 na0 b0 Q x1 n x2 σ3 → Ex mJ7_fill_d0a16 0 false (0, 0) sx G0 6 [some (.ref a0), some (.long b0), none, some (.int x2), some (.int x1)] [] σ3 (qV Q) := by
    intro n6
    induction n6 with
    | zero => intro _ _  h; exact h.elim
    | succ n6 ih6 =>
      intro x2 σ3  h
      unfold w_J7_fill_d0a16_l6 at h
      refine X_iload_n dJ7_fill_d0a16_6 rfl rfl ?_
      refine X_iload dJ7_fill_d0a16_7 rfl ?_
      refine X_icmp_ge (tgt := 22) dJ7_fill_d0a16_9 (by decide) h (fun h => ?_) (fun h => ?_)
      · exact X_retv rfl dJ7_fill_d0a16_22 h
      · refine X_aload_n dJ7_fill_d0a16_12 rfl rfl ?_
        refine X_iload_n dJ7_fill_d0a16_13 rfl rfl ?_
        refine X_lload_n dJ7_fill_d0a16_14 rfl rfl ?_
        refine X_last ha0 dJ7_fill_d0a16_15 h (fun σ4 h => ?_)
        refine X_iinc (v := (x2 + 1)) (L' := [some (.ref a0), some (.long b0), none, some (.int (x2 + 1)), some (.int x1)]) dJ7_fill_d0a16_16 rfl rfl (by decide) rfl ?_
        refine X_goto (tgt := 6) dJ7_fill_d0a16_19 (by decide) ?_
        exact ih6 _ _  h
  exact key6 _ _ _  h
def w_X10_holdRow (k : Nat) (a0 : Int32) (b0 : Int32) (σ : Sg) (Q : Sg → Prop) : Prop := bd (sI σ (45 + 2 * k) 0 a0) fun σ1 => bd (sI σ1 (45 + 2 * k) 2 b0) fun σ2 => w_J7_fill_d0a16 (46 + 2 * k) 60 (0 : Int64) σ2 (fun  σ3 => Q σ3)
set_option maxRecDepth 100000 in
set_option maxHeartbeats 4000000 in
theorem s_X10_holdRow (sx : Nat × (Nat → Int32)) (k : Nat) (a0 : Int32) (b0 : Int32) (hk : k < 6) (σ : Sg) (Q : Sg → Prop) (h : w_X10_holdRow k a0 b0 σ Q) : Ct mX10_holdRow 1 false (0, 0) sx G0 [.ref (45 + 2 * k), .int a0, .int b0] σ (qV Q) := by
  refine Ct.of (L := [some (.ref (45 + 2 * k)), some (.int a0), some (.int b0)]) (by decide) (Nat.le_of_ble_eq_true rfl) rfl ?_
  unfold w_X10_holdRow at h
  refine X_aload_n dX10_holdRow_0 rfl rfl ?_
  refine X_iload_n dX10_holdRow_1 rfl rfl ?_
  refine X_putI ck_X10 f_X10_11 rfl (g_shelf hk) rfl rfl rfl dX10_holdRow_2 h (fun σ1 h => ?_)
  refine X_aload_n dX10_holdRow_5 rfl rfl ?_
  refine X_iload_n dX10_holdRow_6 rfl rfl ?_
  refine X_putI ck_X10 f_X10_19 rfl (g_shelf hk) rfl rfl rfl dX10_holdRow_7 h (fun σ2 h => ?_)
  refine X_aload_n dX10_holdRow_10 rfl rfl ?_
  refine X_get (v := .ref (46 + 2 * k)) ck_X10 f_X10_15 (g_shelf hk) rfl (fun _ => rfl) dX10_holdRow_11 ?_
  refine X_lconst (v := 0) dX10_holdRow_14 rfl ?_
  refine X_callSv [.ref (46 + 2 * k), .long (0 : Int64)] [] c_J7_fill_d0a16 t_J7_fill_d0a16 lk_X10_25 dX10_holdRow_15 rfl (by decide) (Nat.le_of_ble_eq_true rfl) rfl (s_J7_fill_d0a16 sx (46 + 2 * k) 60 (0 : Int64) (g_items hk) σ2 _ h) (fun  σ3 h => ?_)
  exact X_retv rfl dX10_holdRow_18 h
def w_X10_store (k : Nat) (a0 : Int32) (b0 : Int64) (σ : Sg) (Q : Sg → Prop) : Prop := if (σ.1 (45 + 2 * k) 0) = (0 : Int32) then (vp_in a0 60 ∧ bd (sJ σ (46 + 2 * k) (Int32.toNatClampNeg a0) (Int32.toInt64 (Int8.toInt32 (Int32.toInt8 (Int64.toInt32 b0))))) fun σ1 => Q σ1) else (if (σ.1 (45 + 2 * k) 0) = (1 : Int32) then (vp_in a0 60 ∧ bd (sJ σ (46 + 2 * k) (Int32.toNatClampNeg a0) (Int32.toInt64 (Int16.toInt32 (Int32.toInt16 (Int64.toInt32 b0))))) fun σ2 => Q σ2) else (if (σ.1 (45 + 2 * k) 0) = (2 : Int32) then (vp_in a0 60 ∧ bd (sJ σ (46 + 2 * k) (Int32.toNatClampNeg a0) (Int32.toInt64 (Int64.toInt32 b0))) fun σ3 => Q σ3) else (if (σ.1 (45 + 2 * k) 0) = (4 : Int32) then (if (lg_cmp b0 (0 : Int64)) = 0 then (vp_in a0 60 ∧ bd (sJ σ (46 + 2 * k) (Int32.toNatClampNeg a0) (0 : Int64)) fun σ4 => Q σ4) else (vp_in a0 60 ∧ bd (sJ σ (46 + 2 * k) (Int32.toNatClampNeg a0) (1 : Int64)) fun σ5 => Q σ5)) else (vp_in a0 60 ∧ bd (sJ σ (46 + 2 * k) (Int32.toNatClampNeg a0) b0) fun σ6 => Q σ6))))
set_option maxRecDepth 100000 in
set_option maxHeartbeats 4000000 in
theorem s_X10_store (sx : Nat × (Nat → Int32)) (k : Nat) (a0 : Int32) (b0 : Int64) (hk : k < 6) (σ : Sg) (Q : Sg → Prop) (h : w_X10_store k a0 b0 σ Q) : Ct mX10_store 0 false (0, 0) sx G0 [.ref (45 + 2 * k), .int a0, .long b0] σ (qV Q) := by
  refine Ct.of (L := [some (.ref (45 + 2 * k)), some (.int a0), some (.long b0), none]) (by decide) (Nat.le_of_ble_eq_true rfl) rfl ?_
  unfold w_X10_store at h
  refine X_aload_n dX10_store_0 rfl rfl ?_
  refine X_get (v := .int (σ.1 (45 + 2 * k) 0)) ck_X10 f_X10_11 (g_shelf hk) rfl (fun _ => rfl) dX10_store_1 ?_
  by_cases hc4_0 : (σ.1 (45 + 2 * k) 0) = (0 : Int32)
  · replace h := if_t h hc4_0
    refine X_tableIn (tgt := 40) dX10_store_4 (by rw [hc4_0] <;> decide) (by rw [hc4_0] <;> decide) (by rw [hc4_0] <;> rfl) (by decide) ?_
    refine X_aload_n dX10_store_40 rfl rfl ?_
    refine X_get (v := .ref (46 + 2 * k)) ck_X10 f_X10_15 (g_shelf hk) rfl (fun _ => rfl) dX10_store_41 ?_
    refine X_iload_n dX10_store_44 rfl rfl ?_
    refine X_lload_n dX10_store_45 rfl rfl ?_
    refine X_l2i dX10_store_46 ?_
    refine X_i2b dX10_store_47 ?_
    refine X_i2l dX10_store_48 ?_
    refine X_last (g_items hk) dX10_store_49 h (fun σ1 h => ?_)
    refine X_goto (tgt := 105) dX10_store_50 (by decide) ?_
    exact X_retv rfl dX10_store_105 h
  replace h := if_f h hc4_0
  by_cases hc4_1 : (σ.1 (45 + 2 * k) 0) = (1 : Int32)
  · replace h := if_t h hc4_1
    refine X_tableIn (tgt := 53) dX10_store_4 (by rw [hc4_1] <;> decide) (by rw [hc4_1] <;> decide) (by rw [hc4_1] <;> rfl) (by decide) ?_
    refine X_aload_n dX10_store_53 rfl rfl ?_
    refine X_get (v := .ref (46 + 2 * k)) ck_X10 f_X10_15 (g_shelf hk) rfl (fun _ => rfl) dX10_store_54 ?_
    refine X_iload_n dX10_store_57 rfl rfl ?_
    refine X_lload_n dX10_store_58 rfl rfl ?_
    refine X_l2i dX10_store_59 ?_
    refine X_i2s dX10_store_60 ?_
    refine X_i2l dX10_store_61 ?_
    refine X_last (g_items hk) dX10_store_62 h (fun σ2 h => ?_)
    refine X_goto (tgt := 105) dX10_store_63 (by decide) ?_
    exact X_retv rfl dX10_store_105 h
  replace h := if_f h hc4_1
  by_cases hc4_2 : (σ.1 (45 + 2 * k) 0) = (2 : Int32)
  · replace h := if_t h hc4_2
    refine X_tableIn (tgt := 66) dX10_store_4 (by rw [hc4_2] <;> decide) (by rw [hc4_2] <;> decide) (by rw [hc4_2] <;> rfl) (by decide) ?_
    refine X_aload_n dX10_store_66 rfl rfl ?_
    refine X_get (v := .ref (46 + 2 * k)) ck_X10 f_X10_15 (g_shelf hk) rfl (fun _ => rfl) dX10_store_67 ?_
    refine X_iload_n dX10_store_70 rfl rfl ?_
    refine X_lload_n dX10_store_71 rfl rfl ?_
    refine X_l2i dX10_store_72 ?_
    refine X_i2l dX10_store_73 ?_
    refine X_last (g_items hk) dX10_store_74 h (fun σ3 h => ?_)
    refine X_goto (tgt := 105) dX10_store_75 (by decide) ?_
    exact X_retv rfl dX10_store_105 h
  replace h := if_f h hc4_2
  by_cases hc4_4 : (σ.1 (45 + 2 * k) 0) = (4 : Int32)
  · replace h := if_t h hc4_4
    refine X_tableIn (tgt := 78) dX10_store_4 (by rw [hc4_4] <;> decide) (by rw [hc4_4] <;> decide) (by rw [hc4_4] <;> rfl) (by decide) ?_
    refine X_aload_n dX10_store_78 rfl rfl ?_
    refine X_get (v := .ref (46 + 2 * k)) ck_X10 f_X10_15 (g_shelf hk) rfl (fun _ => rfl) dX10_store_79 ?_
    refine X_iload_n dX10_store_82 rfl rfl ?_
    refine X_lload_n dX10_store_83 rfl rfl ?_
    refine X_lconst (v := 0) dX10_store_84 rfl ?_
    refine X_lcmp dX10_store_85 ?_
    refine X_if_eq (tgt := 93) dX10_store_86 (by decide) h (fun h => ?_) (fun h => ?_)
    · refine X_lconst (v := 0) dX10_store_93 rfl ?_
      refine X_last (g_items hk) dX10_store_94 h (fun σ4 h => ?_)
      refine X_goto (tgt := 105) dX10_store_95 (by decide) ?_
      exact X_retv rfl dX10_store_105 h
    · refine X_lconst (v := 1) dX10_store_89 rfl ?_
      refine X_goto (tgt := 94) dX10_store_90 (by decide) ?_
      refine X_last (g_items hk) dX10_store_94 h (fun σ5 h => ?_)
      refine X_goto (tgt := 105) dX10_store_95 (by decide) ?_
      exact X_retv rfl dX10_store_105 h
  replace h := if_f h hc4_4
  by_cases hc4_3 : (σ.1 (45 + 2 * k) 0) = (3 : Int32)
  · refine X_tableIn (tgt := 98) dX10_store_4 (by rw [hc4_3] <;> decide) (by rw [hc4_3] <;> decide) (by rw [hc4_3] <;> rfl) (by decide) ?_
    refine X_aload_n dX10_store_98 rfl rfl ?_
    refine X_get (v := .ref (46 + 2 * k)) ck_X10 f_X10_15 (g_shelf hk) rfl (fun _ => rfl) dX10_store_99 ?_
    refine X_iload_n dX10_store_102 rfl rfl ?_
    refine X_lload_n dX10_store_103 rfl rfl ?_
    refine X_last (g_items hk) dX10_store_104 h (fun σ6 h => ?_)
    exact X_retv rfl dX10_store_105 h
  refine X_tableOut (tgt := 98) dX10_store_4 (tbl_out (fun j h1 h2 e => ?_)) (by decide) ?_
  · rcases (show j = 0 ∨ j = 1 ∨ j = 2 ∨ j = 3 ∨ j = 4 by omega) with rfl | rfl | rfl | rfl | rfl
    · exact ne_toInt hc4_0 e
    · exact ne_toInt hc4_1 e
    · exact ne_toInt hc4_2 e
    · exact ne_toInt hc4_3 e
    · exact ne_toInt hc4_4 e
  refine X_aload_n dX10_store_98 rfl rfl ?_
  refine X_get (v := .ref (46 + 2 * k)) ck_X10 f_X10_15 (g_shelf hk) rfl (fun _ => rfl) dX10_store_99 ?_
  refine X_iload_n dX10_store_102 rfl rfl ?_
  refine X_lload_n dX10_store_103 rfl rfl ?_
  refine X_last (g_items hk) dX10_store_104 h (fun σ6 h => ?_)
  exact X_retv rfl dX10_store_105 h
def w_X10_hasRange (k : Nat) (a0 : Int32) (b0 : Int32) (σ : Sg) (Q : Int32 → Sg → Prop) : Prop := if b0 < 0 then (Q (0 : Int32) σ) else (if (σ.1 (45 + 2 * k) 2) < b0 then (Q (0 : Int32) σ) else (if a0 < 0 then (Q (0 : Int32) σ) else (if ((σ.1 (45 + 2 * k) 2) - b0) < a0 then (Q (0 : Int32) σ) else (Q (1 : Int32) σ))))
set_option maxRecDepth 100000 in
set_option maxHeartbeats 4000000 in
theorem s_X10_hasRange (sx : Nat × (Nat → Int32)) (k : Nat) (a0 : Int32) (b0 : Int32) (hk : k < 6) (σ : Sg) (Q : Int32 → Sg → Prop) (h : w_X10_hasRange k a0 b0 σ Q) : Ct mX10_hasRange 0 false (0, 0) sx G0 [.ref (45 + 2 * k), .int a0, .int b0] σ (qI Q) := by
  refine Ct.of (L := [some (.ref (45 + 2 * k)), some (.int a0), some (.int b0)]) (by decide) (Nat.le_of_ble_eq_true rfl) rfl ?_
  unfold w_X10_hasRange at h
  refine X_iload_n dX10_hasRange_0 rfl rfl ?_
  refine X_if_lt (tgt := 30) dX10_hasRange_1 (by decide) h (fun h => ?_) (fun h => ?_)
  · refine X_iconst (v := 0) dX10_hasRange_30 iconst_0 ?_
    exact X_retz rfl rfl dX10_hasRange_31 h
  · refine X_iload_n dX10_hasRange_4 rfl rfl ?_
    refine X_aload_n dX10_hasRange_5 rfl rfl ?_
    refine X_get (v := .int (σ.1 (45 + 2 * k) 2)) ck_X10 f_X10_19 (g_shelf hk) rfl (fun _ => rfl) dX10_hasRange_6 ?_
    refine X_icmp_gt (tgt := 30) dX10_hasRange_9 (by decide) h (fun h => ?_) (fun h => ?_)
    · refine X_iconst (v := 0) dX10_hasRange_30 iconst_0 ?_
      exact X_retz rfl rfl dX10_hasRange_31 h
    · refine X_iload_n dX10_hasRange_12 rfl rfl ?_
      refine X_if_lt (tgt := 30) dX10_hasRange_13 (by decide) h (fun h => ?_) (fun h => ?_)
      · refine X_iconst (v := 0) dX10_hasRange_30 iconst_0 ?_
        exact X_retz rfl rfl dX10_hasRange_31 h
      · refine X_iload_n dX10_hasRange_16 rfl rfl ?_
        refine X_aload_n dX10_hasRange_17 rfl rfl ?_
        refine X_get (v := .int (σ.1 (45 + 2 * k) 2)) ck_X10 f_X10_19 (g_shelf hk) rfl (fun _ => rfl) dX10_hasRange_18 ?_
        refine X_iload_n dX10_hasRange_21 rfl rfl ?_
        refine X_isub dX10_hasRange_22 ?_
        refine X_icmp_gt (tgt := 30) dX10_hasRange_23 (by decide) h (fun h => ?_) (fun h => ?_)
        · refine X_iconst (v := 0) dX10_hasRange_30 iconst_0 ?_
          exact X_retz rfl rfl dX10_hasRange_31 h
        · refine X_iconst (v := 1) dX10_hasRange_26 iconst_1 ?_
          refine X_goto (tgt := 31) dX10_hasRange_27 (by decide) ?_
          exact X_retz rfl rfl dX10_hasRange_31 h
def w_X10_refusalAsBytes (k : Nat) (σ : Sg) (Q : Int32 → Sg → Prop) : Prop := if (σ.1 (45 + 2 * k) 0) = (-2 : Int32) then (Q (-11 : Int32) σ) else (if (σ.1 (45 + 2 * k) 0) = 0 then (Q (0 : Int32) σ) else (Q (-12 : Int32) σ))
set_option maxRecDepth 100000 in
set_option maxHeartbeats 4000000 in
theorem s_X10_refusalAsBytes (sx : Nat × (Nat → Int32)) (k : Nat) (hk : k < 6) (σ : Sg) (Q : Int32 → Sg → Prop) (h : w_X10_refusalAsBytes k σ Q) : Ct mX10_refusalAsBytes 0 false (0, 0) sx G0 [.ref (45 + 2 * k)] σ (qI Q) := by
  refine Ct.of (L := [some (.ref (45 + 2 * k))]) (by decide) (Nat.le_of_ble_eq_true rfl) rfl ?_
  unfold w_X10_refusalAsBytes at h
  refine X_aload_n dX10_refusalAsBytes_0 rfl rfl ?_
  refine X_get (v := .int (σ.1 (45 + 2 * k) 0)) ck_X10 f_X10_11 (g_shelf hk) rfl (fun _ => rfl) dX10_refusalAsBytes_1 ?_
  refine X_bipush (v := -2) dX10_refusalAsBytes_4 bipush_m2 ?_
  refine X_icmp_ne (tgt := 12) dX10_refusalAsBytes_6 (by decide) h (fun h => ?_) (fun h => ?_)
  · refine X_aload_n dX10_refusalAsBytes_12 rfl rfl ?_
    refine X_get (v := .int (σ.1 (45 + 2 * k) 0)) ck_X10 f_X10_11 (g_shelf hk) rfl (fun _ => rfl) dX10_refusalAsBytes_13 ?_
    refine X_if_ne (tgt := 23) dX10_refusalAsBytes_16 (by decide) h (fun h => ?_) (fun h => ?_)
    · refine X_bipush (v := -12) dX10_refusalAsBytes_23 bipush_m12 ?_
      exact X_reti rfl dX10_refusalAsBytes_25 h
    · refine X_iconst (v := 0) dX10_refusalAsBytes_19 iconst_0 ?_
      refine X_goto (tgt := 25) dX10_refusalAsBytes_20 (by decide) ?_
      exact X_reti rfl dX10_refusalAsBytes_25 h
  · refine X_bipush (v := -11) dX10_refusalAsBytes_9 bipush_m11 ?_
    exact X_reti rfl dX10_refusalAsBytes_11 h
def w_X11_carriage (a0 : Int32) (b0 : Int32) (σ : Sg) (Q : Int32 → Sg → Prop) : Prop := w_X7_mayBe (0 : Int32) a0 σ (fun r2 σ1 => if r2 = 0 then (Q (-1 : Int32) σ1) else (w_X7_mayBe (1 : Int32) b0 σ1 (fun r4 σ3 => if r4 = 0 then (Q (-1 : Int32) σ3) else (w_X7_addCarriage a0 b0 (1 : Int32) σ3 (fun r6 σ5 => Q r6 σ5)))))
set_option maxRecDepth 100000 in
set_option maxHeartbeats 4000000 in
theorem s_X11_carriage (sx : Nat × (Nat → Int32)) (a0 : Int32) (b0 : Int32) (σ : Sg) (Q : Int32 → Sg → Prop) (h : w_X11_carriage a0 b0 σ Q) : Ct mX11_carriage 2 false (0, 0) sx G0 [.ref 0, .int a0, .int b0] σ (qI Q) := by
  refine Ct.of (L := [some (.ref 0), some (.int a0), some (.int b0)]) (by decide) (Nat.le_of_ble_eq_true rfl) rfl ?_
  unfold w_X11_carriage at h
  refine X_iconst (v := 0) dX11_carriage_0 iconst_0 ?_
  refine X_iload_n dX11_carriage_1 rfl rfl ?_
  refine X_callSi [.int (0 : Int32), .int a0] [] c_X7_mayBe t_X7_mayBe lk_X11_98 dX11_carriage_2 rfl (by decide) (Nat.le_of_ble_eq_true rfl) rfl (s_X7_mayBe sx (0 : Int32) a0  σ _ h) (fun r2 σ1 h => ?_)
  refine X_if_eq (tgt := 16) dX11_carriage_5 (by decide) h (fun h => ?_) (fun h => ?_)
  · refine X_iconst (v := -1) dX11_carriage_16 iconst_m1 ?_
    exact X_reti rfl dX11_carriage_17 h
  · refine X_iconst (v := 1) dX11_carriage_8 iconst_1 ?_
    refine X_iload_n dX11_carriage_9 rfl rfl ?_
    refine X_callSi [.int (1 : Int32), .int b0] [] c_X7_mayBe t_X7_mayBe lk_X11_98 dX11_carriage_10 rfl (by decide) (Nat.le_of_ble_eq_true rfl) rfl (s_X7_mayBe sx (1 : Int32) b0  σ1 _ h) (fun r4 σ3 h => ?_)
    refine X_if_ne (tgt := 18) dX11_carriage_13 (by decide) h (fun h => ?_) (fun h => ?_)
    · refine X_aload_n dX11_carriage_18 rfl rfl ?_
      refine X_get (v := .ref 1) ck_X11 f_X11_10 g_0 rfl (fun _ => rfl) dX11_carriage_19 ?_
      refine X_iload_n dX11_carriage_22 rfl rfl ?_
      refine X_iload_n dX11_carriage_23 rfl rfl ?_
      refine X_iconst (v := 1) dX11_carriage_24 iconst_1 ?_
      refine X_callVi [.int a0, .int b0, .int (1 : Int32)] [] c_X7_addCarriage v_X7_addCarriage lk_X11_102 dX11_carriage_25 g_1 rfl rfl rfl (by decide) (Nat.le_of_ble_eq_true rfl) rfl (s_X7_addCarriage sx a0 b0 (1 : Int32)  σ3 _ h) (fun r6 σ5 h => ?_)
      exact X_reti rfl dX11_carriage_28 h
    · refine X_iconst (v := -1) dX11_carriage_16 iconst_m1 ?_
      exact X_reti rfl dX11_carriage_17 h
def w_X11_comesFrom (a0 : Nat) (b0 : Int32) (σ : Sg) (Q : Int32 → Sg → Prop) : Prop := vp_in b0 60 ∧ bd (Int64.toInt32 (σ.2 (46 + 2 * a0) (Int32.toNatClampNeg b0))) fun x1 => vp_in (b0 + (1 : Int32)) 60 ∧ bd (Int64.toInt32 (σ.2 (46 + 2 * a0) (Int32.toNatClampNeg (b0 + (1 : Int32))))) fun x2 => vp_in (b0 + (2 : Int32)) 60 ∧ bd (Int64.toInt32 (σ.2 (46 + 2 * a0) (Int32.toNatClampNeg (b0 + (2 : Int32))))) fun x3 => w_X7_mayBe (0 : Int32) x1 σ (fun r5 σ4 => if r5 = 0 then (Q (0 : Int32) σ4) else (w_X7_mayBe (1 : Int32) x2 σ4 (fun r7 σ6 => if r7 = 0 then (Q (0 : Int32) σ6) else (w_X7_mayBe (2 : Int32) x3 σ6 (fun r9 σ8 => if r9 = 0 then (Q (0 : Int32) σ8) else (w_X7_addCarriage x1 x2 x3 σ8 (fun r11 σ10 => if r11 = (-3 : Int32) then (Q (0 : Int32) σ10) else (Q (1 : Int32) σ10))))))))
set_option maxRecDepth 100000 in
set_option maxHeartbeats 4000000 in
theorem s_X11_comesFrom (sx : Nat × (Nat → Int32)) (a0 : Nat) (b0 : Int32) (ha0 : a0 < 6) (σ : Sg) (Q : Int32 → Sg → Prop) (h : w_X11_comesFrom a0 b0 σ Q) : Ct mX11_comesFrom 2 false (0, 0) sx G0 [.ref 0, .ref (45 + 2 * a0), .int b0] σ (qI Q) := by
  refine Ct.of (L := [some (.ref 0), some (.ref (45 + 2 * a0)), some (.int b0), none, none, none]) (by decide) (Nat.le_of_ble_eq_true rfl) rfl ?_
  unfold w_X11_comesFrom at h
  refine X_aload_n dX11_comesFrom_0 rfl rfl ?_
  refine X_get (v := .ref (46 + 2 * a0)) ck_X10 f_X11_351 (g_shelf ha0) rfl (fun _ => rfl) dX11_comesFrom_1 ?_
  refine X_iload_n dX11_comesFrom_4 rfl rfl ?_
  refine X_lald (g_items ha0) dX11_comesFrom_5 h (fun h => ?_)
  refine X_l2i dX11_comesFrom_6 ?_
  refine X_topI h (fun x1 h => ?_)
  refine X_istore_n (L' := [some (.ref 0), some (.ref (45 + 2 * a0)), some (.int b0), some (.int x1), none, none]) dX11_comesFrom_7 rfl (by decide) rfl ?_
  refine X_aload_n dX11_comesFrom_8 rfl rfl ?_
  refine X_get (v := .ref (46 + 2 * a0)) ck_X10 f_X11_351 (g_shelf ha0) rfl (fun _ => rfl) dX11_comesFrom_9 ?_
  refine X_iload_n dX11_comesFrom_12 rfl rfl ?_
  refine X_iconst (v := 1) dX11_comesFrom_13 iconst_1 ?_
  refine X_iadd dX11_comesFrom_14 ?_
  refine X_lald (g_items ha0) dX11_comesFrom_15 h (fun h => ?_)
  refine X_l2i dX11_comesFrom_16 ?_
  refine X_topI h (fun x2 h => ?_)
  refine X_istore (L' := [some (.ref 0), some (.ref (45 + 2 * a0)), some (.int b0), some (.int x1), some (.int x2), none]) dX11_comesFrom_17 (by decide) rfl ?_
  refine X_aload_n dX11_comesFrom_19 rfl rfl ?_
  refine X_get (v := .ref (46 + 2 * a0)) ck_X10 f_X11_351 (g_shelf ha0) rfl (fun _ => rfl) dX11_comesFrom_20 ?_
  refine X_iload_n dX11_comesFrom_23 rfl rfl ?_
  refine X_iconst (v := 2) dX11_comesFrom_24 iconst_2 ?_
  refine X_iadd dX11_comesFrom_25 ?_
  refine X_lald (g_items ha0) dX11_comesFrom_26 h (fun h => ?_)
  refine X_l2i dX11_comesFrom_27 ?_
  refine X_topI h (fun x3 h => ?_)
  refine X_istore (L' := [some (.ref 0), some (.ref (45 + 2 * a0)), some (.int b0), some (.int x1), some (.int x2), some (.int x3)]) dX11_comesFrom_28 (by decide) rfl ?_
  refine X_iconst (v := 0) dX11_comesFrom_30 iconst_0 ?_
  refine X_iload_n dX11_comesFrom_31 rfl rfl ?_
  refine X_callSi [.int (0 : Int32), .int x1] [] c_X7_mayBe t_X7_mayBe lk_X11_98 dX11_comesFrom_32 rfl (by decide) (Nat.le_of_ble_eq_true rfl) rfl (s_X7_mayBe sx (0 : Int32) x1  σ _ h) (fun r5 σ4 h => ?_)
  refine X_if_eq (tgt := 77) dX11_comesFrom_35 (by decide) h (fun h => ?_) (fun h => ?_)
  · refine X_iconst (v := 0) dX11_comesFrom_77 iconst_0 ?_
    exact X_retz rfl rfl dX11_comesFrom_78 h
  · refine X_iconst (v := 1) dX11_comesFrom_38 iconst_1 ?_
    refine X_iload dX11_comesFrom_39 rfl ?_
    refine X_callSi [.int (1 : Int32), .int x2] [] c_X7_mayBe t_X7_mayBe lk_X11_98 dX11_comesFrom_41 rfl (by decide) (Nat.le_of_ble_eq_true rfl) rfl (s_X7_mayBe sx (1 : Int32) x2  σ4 _ h) (fun r7 σ6 h => ?_)
    refine X_if_eq (tgt := 77) dX11_comesFrom_44 (by decide) h (fun h => ?_) (fun h => ?_)
    · refine X_iconst (v := 0) dX11_comesFrom_77 iconst_0 ?_
      exact X_retz rfl rfl dX11_comesFrom_78 h
    · refine X_iconst (v := 2) dX11_comesFrom_47 iconst_2 ?_
      refine X_iload dX11_comesFrom_48 rfl ?_
      refine X_callSi [.int (2 : Int32), .int x3] [] c_X7_mayBe t_X7_mayBe lk_X11_98 dX11_comesFrom_50 rfl (by decide) (Nat.le_of_ble_eq_true rfl) rfl (s_X7_mayBe sx (2 : Int32) x3  σ6 _ h) (fun r9 σ8 h => ?_)
      refine X_if_eq (tgt := 77) dX11_comesFrom_53 (by decide) h (fun h => ?_) (fun h => ?_)
      · refine X_iconst (v := 0) dX11_comesFrom_77 iconst_0 ?_
        exact X_retz rfl rfl dX11_comesFrom_78 h
      · refine X_aload_n dX11_comesFrom_56 rfl rfl ?_
        refine X_get (v := .ref 1) ck_X11 f_X11_10 g_0 rfl (fun _ => rfl) dX11_comesFrom_57 ?_
        refine X_iload_n dX11_comesFrom_60 rfl rfl ?_
        refine X_iload dX11_comesFrom_61 rfl ?_
        refine X_iload dX11_comesFrom_63 rfl ?_
        refine X_callVi [.int x1, .int x2, .int x3] [] c_X7_addCarriage v_X7_addCarriage lk_X11_102 dX11_comesFrom_65 g_1 rfl rfl rfl (by decide) (Nat.le_of_ble_eq_true rfl) rfl (s_X7_addCarriage sx x1 x2 x3  σ8 _ h) (fun r11 σ10 h => ?_)
        refine X_bipush (v := -3) dX11_comesFrom_68 bipush_m3 ?_
        refine X_icmp_eq (tgt := 77) dX11_comesFrom_70 (by decide) h (fun h => ?_) (fun h => ?_)
        · refine X_iconst (v := 0) dX11_comesFrom_77 iconst_0 ?_
          exact X_retz rfl rfl dX11_comesFrom_78 h
        · refine X_iconst (v := 1) dX11_comesFrom_73 iconst_1 ?_
          refine X_goto (tgt := 78) dX11_comesFrom_74 (by decide) ?_
          exact X_retz rfl rfl dX11_comesFrom_78 h
def w_X11_isShelf (a0 : Int32) (σ : Sg) (Q : Int32 → Sg → Prop) : Prop := w_X11_within a0 (0 : Int32) (5 : Int32) σ (fun r2 σ1 => (r2 = 0 ∨ r2 = 1) ∧ Q r2 σ1)
set_option maxRecDepth 100000 in
set_option maxHeartbeats 4000000 in
theorem s_X11_isShelf (sx : Nat × (Nat → Int32)) (a0 : Int32) (σ : Sg) (Q : Int32 → Sg → Prop) (h : w_X11_isShelf a0 σ Q) : Ct mX11_isShelf 1 false (0, 0) sx G0 [.int a0] σ (qI Q) := by
  refine Ct.of (L := [some (.int a0)]) (by decide) (Nat.le_of_ble_eq_true rfl) rfl ?_
  unfold w_X11_isShelf at h
  refine X_iload_n dX11_isShelf_0 rfl rfl ?_
  refine X_iconst (v := 0) dX11_isShelf_1 iconst_0 ?_
  refine X_iconst (v := 5) dX11_isShelf_2 iconst_5 ?_
  refine X_callSi [.int a0, .int (0 : Int32), .int (5 : Int32)] [] c_X11_within t_X11_within lk_X11_110 dX11_isShelf_3 rfl (by decide) (Nat.le_of_ble_eq_true rfl) rfl (s_X11_within sx a0 (0 : Int32) (5 : Int32)  σ _ h) (fun r2 σ1 h => ?_)
  exact X_retz rfl (nzb h.1) dX11_isShelf_6 h.2
def w_X11_carriages_l57 (a0 : Int32) (c0 : Int32) (Q : Int32 → Sg → Prop) : Nat → Int32 → Int32 → Sg → Prop
  | 0, _, _, _ => False
  | n57 + 1, x6, x7, σ8 => if c0 ≤ x6 then (Q x6 σ8) else (if x7 < 0 then (Q x6 σ8) else (if ((σ8.1 (45 + 2 * (Int32.toNatClampNeg a0)) 2) - (3 : Int32)) < x7 then (Q x6 σ8) else (w_X11_comesFrom (Int32.toNatClampNeg a0) x7 σ8 (fun r10 σ9 => if r10 = 0 then (Q x6 σ9) else (w_X11_carriages_l57 a0 c0 Q n57 (x6 + 1) (x7 + 3) σ9)))))
def w_X11_carriages (a0 : Int32) (b0 : Int32) (c0 : Int32) (σ : Sg) (Q : Int32 → Sg → Prop) : Prop := w_X11_isShelf a0 σ (fun r2 σ1 => if r2 = 0 then (Q (-1 : Int32) σ1) else (w_X11_within c0 (1 : Int32) (6 : Int32) σ1 (fun r4 σ3 => if r4 = 0 then (Q (-1 : Int32) σ3) else (vp_in a0 6 ∧ if (σ3.1 (45 + 2 * (Int32.toNatClampNeg a0)) 0) = (-2 : Int32) then (Q (0 : Int32) σ3) else (if (σ3.1 (45 + 2 * (Int32.toNatClampNeg a0)) 0) = (1 : Int32) then (∃ n, w_X11_carriages_l57 a0 c0 Q n (0 : Int32) b0 σ3) else (Q (-12 : Int32) σ3))))))
set_option maxRecDepth 100000 in
set_option maxHeartbeats 4000000 in
theorem s_X11_carriages (sx : Nat × (Nat → Int32)) (a0 : Int32) (b0 : Int32) (c0 : Int32) (σ : Sg) (Q : Int32 → Sg → Prop) (h : w_X11_carriages a0 b0 c0 σ Q) : Ct mX11_carriages 3 false (0, 0) sx G0 [.ref 0, .int a0, .int b0, .int c0] σ (qI Q) := by
  refine Ct.of (L := [some (.ref 0), some (.int a0), some (.int b0), some (.int c0), none, none, none]) (by decide) (Nat.le_of_ble_eq_true rfl) rfl ?_
  unfold w_X11_carriages at h
  refine X_iload_n dX11_carriages_0 rfl rfl ?_
  refine X_callSi [.int a0] [] c_X11_isShelf t_X11_isShelf lk_X11_106 dX11_carriages_1 rfl (by decide) (Nat.le_of_ble_eq_true rfl) rfl (s_X11_isShelf sx a0  σ _ h) (fun r2 σ1 h => ?_)
  refine X_if_eq (tgt := 17) dX11_carriages_4 (by decide) h (fun h => ?_) (fun h => ?_)
  · refine X_iconst (v := -1) dX11_carriages_17 iconst_m1 ?_
    exact X_reti rfl dX11_carriages_18 h
  · refine X_iload_n dX11_carriages_7 rfl rfl ?_
    refine X_iconst (v := 1) dX11_carriages_8 iconst_1 ?_
    refine X_bipush (v := 6) dX11_carriages_9 bipush_6 ?_
    refine X_callSi [.int c0, .int (1 : Int32), .int (6 : Int32)] [] c_X11_within t_X11_within lk_X11_110 dX11_carriages_11 rfl (by decide) (Nat.le_of_ble_eq_true rfl) rfl (s_X11_within sx c0 (1 : Int32) (6 : Int32)  σ1 _ h) (fun r4 σ3 h => ?_)
    refine X_if_ne (tgt := 19) dX11_carriages_14 (by decide) h (fun h => ?_) (fun h => ?_)
    · refine X_aload_n dX11_carriages_19 rfl rfl ?_
      refine X_get (v := .ref 44) ck_X11 f_X11_86 g_0 rfl (fun _ => rfl) dX11_carriages_20 ?_
      refine X_iload_n dX11_carriages_23 rfl rfl ?_
      have hk5 := vp_lt h.1
      refine X_aald g_44 (Or.inr rfl) dX11_carriages_24 h (fun q => g_shelves (vp_lt q)) (fun h => ?_)
      refine X_astore (L' := [some (.ref 0), some (.int a0), some (.int b0), some (.int c0), some (.ref (45 + 2 * (Int32.toNatClampNeg a0))), none, none]) dX11_carriages_25 (by decide) rfl ?_
      refine X_aload dX11_carriages_27 rfl ?_
      refine X_get (v := .int (σ3.1 (45 + 2 * (Int32.toNatClampNeg a0)) 0)) ck_X10 f_X11_114 (g_shelf hk5) rfl (fun _ => rfl) dX11_carriages_29 ?_
      refine X_bipush (v := -2) dX11_carriages_32 bipush_m2 ?_
      refine X_icmp_ne (tgt := 39) dX11_carriages_34 (by decide) h (fun h => ?_) (fun h => ?_)
      · refine X_aload dX11_carriages_39 rfl ?_
        refine X_get (v := .int (σ3.1 (45 + 2 * (Int32.toNatClampNeg a0)) 0)) ck_X10 f_X11_114 (g_shelf hk5) rfl (fun _ => rfl) dX11_carriages_41 ?_
        refine X_iconst (v := 1) dX11_carriages_44 iconst_1 ?_
        refine X_icmp_eq (tgt := 51) dX11_carriages_45 (by decide) h (fun h => ?_) (fun h => ?_)
        · refine X_iconst (v := 0) dX11_carriages_51 iconst_0 ?_
          refine X_istore (L' := [some (.ref 0), some (.int a0), some (.int b0), some (.int c0), some (.ref (45 + 2 * (Int32.toNatClampNeg a0))), some (.int (0 : Int32)), none]) dX11_carriages_52 (by decide) rfl ?_
          refine X_iload_n dX11_carriages_54 rfl rfl ?_
          refine X_istore (L' := [some (.ref 0), some (.int a0), some (.int b0), some (.int c0), some (.ref (45 + 2 * (Int32.toNatClampNeg a0))), some (.int (0 : Int32)), some (.int b0)]) dX11_carriages_55 (by decide) rfl ?_
          obtain ⟨n57, h⟩ := h
          have key57 : ∀ (n : Nat) (x6 : Int32) (x7 : Int32) (σ8 : Sg) , w_X11_carriages_l57 a0 c0 Q n x6 x7 σ8 → Ex mX11_carriages 3 false (0, 0) sx G0 57 [some (.ref 0), none, none, some (.int c0), some (.ref (45 + 2 * (Int32.toNatClampNeg a0))), some (.int x6), some (.int x7)] [] σ8 (qI Q) := by
            intro n57
            induction n57 with
            | zero => intro _ _ _  h; exact h.elim
            | succ n57 ih57 =>
              intro x6 x7 σ8  h
              unfold w_X11_carriages_l57 at h
              refine X_iload dX11_carriages_57 rfl ?_
              refine X_iload_n dX11_carriages_59 rfl rfl ?_
              refine X_icmp_ge (tgt := 100) dX11_carriages_60 (by decide) h (fun h => ?_) (fun h => ?_)
              · refine X_iload dX11_carriages_100 rfl ?_
                exact X_reti rfl dX11_carriages_102 h
              · refine X_iload dX11_carriages_63 rfl ?_
                refine X_if_lt (tgt := 100) dX11_carriages_65 (by decide) h (fun h => ?_) (fun h => ?_)
                · refine X_iload dX11_carriages_100 rfl ?_
                  exact X_reti rfl dX11_carriages_102 h
                · refine X_iload dX11_carriages_68 rfl ?_
                  refine X_aload dX11_carriages_70 rfl ?_
                  refine X_get (v := .int (σ8.1 (45 + 2 * (Int32.toNatClampNeg a0)) 2)) ck_X10 f_X11_118 (g_shelf hk5) rfl (fun _ => rfl) dX11_carriages_72 ?_
                  refine X_iconst (v := 3) dX11_carriages_75 iconst_3 ?_
                  refine X_isub dX11_carriages_76 ?_
                  refine X_icmp_gt (tgt := 100) dX11_carriages_77 (by decide) h (fun h => ?_) (fun h => ?_)
                  · refine X_iload dX11_carriages_100 rfl ?_
                    exact X_reti rfl dX11_carriages_102 h
                  · refine X_aload_n dX11_carriages_80 rfl rfl ?_
                    refine X_aload dX11_carriages_81 rfl ?_
                    refine X_iload dX11_carriages_83 rfl ?_
                    refine X_callVi [.ref (45 + 2 * (Int32.toNatClampNeg a0)), .int x7] [] c_X11_comesFrom v_X11_comesFrom lk_X11_121 dX11_carriages_85 g_0 rfl rfl rfl (by decide) (Nat.le_of_ble_eq_true rfl) rfl (s_X11_comesFrom sx (Int32.toNatClampNeg a0) x7 hk5 σ8 _ h) (fun r10 σ9 h => ?_)
                    refine X_if_eq (tgt := 100) dX11_carriages_88 (by decide) h (fun h => ?_) (fun h => ?_)
                    · refine X_iload dX11_carriages_100 rfl ?_
                      exact X_reti rfl dX11_carriages_102 h
                    · refine X_iinc (v := (x6 + 1)) (L' := [some (.ref 0), none, none, some (.int c0), some (.ref (45 + 2 * (Int32.toNatClampNeg a0))), some (.int (x6 + 1)), some (.int x7)]) dX11_carriages_91 rfl rfl (by decide) rfl ?_
                      refine X_iinc (v := (x7 + 3)) (L' := [some (.ref 0), none, none, some (.int c0), some (.ref (45 + 2 * (Int32.toNatClampNeg a0))), some (.int (x6 + 1)), some (.int (x7 + 3))]) dX11_carriages_94 rfl rfl (by decide) rfl ?_
                      refine X_goto (tgt := 57) dX11_carriages_97 (by decide) ?_
                      exact ih57 _ _ _  h
          refine X_drop (L' := [some (.ref 0), none, none, some (.int c0), some (.ref (45 + 2 * (Int32.toNatClampNeg a0))), some (.int (0 : Int32)), some (.int b0)]) ⟨rfl, ⟨rfl, ⟨rfl, ⟨rfl, ⟨rfl, trivial⟩⟩⟩⟩⟩ ?_
          exact key57 _ _ _ _  h
        · refine X_bipush (v := -12) dX11_carriages_48 bipush_m12 ?_
          exact X_reti rfl dX11_carriages_50 h
      · refine X_iconst (v := 0) dX11_carriages_37 iconst_0 ?_
        exact X_reti rfl dX11_carriages_38 h
    · refine X_iconst (v := -1) dX11_carriages_17 iconst_m1 ?_
      exact X_reti rfl dX11_carriages_18 h
def w_X11_place (a0 : Int32) (σ : Sg) (Q : Int32 → Sg → Prop) : Prop := w_X7_mayBe (4 : Int32) a0 σ (fun r2 σ1 => if r2 = 0 then (Q (-1 : Int32) σ1) else (w_X7_addPlace a0 σ1 (fun r4 σ3 => Q r4 σ3)))
set_option maxRecDepth 100000 in
set_option maxHeartbeats 4000000 in
theorem s_X11_place (sx : Nat × (Nat → Int32)) (a0 : Int32) (σ : Sg) (Q : Int32 → Sg → Prop) (h : w_X11_place a0 σ Q) : Ct mX11_place 2 false (0, 0) sx G0 [.ref 0, .int a0] σ (qI Q) := by
  refine Ct.of (L := [some (.ref 0), some (.int a0)]) (by decide) (Nat.le_of_ble_eq_true rfl) rfl ?_
  unfold w_X11_place at h
  refine X_iconst (v := 4) dX11_place_0 iconst_4 ?_
  refine X_iload_n dX11_place_1 rfl rfl ?_
  refine X_callSi [.int (4 : Int32), .int a0] [] c_X7_mayBe t_X7_mayBe lk_X11_98 dX11_place_2 rfl (by decide) (Nat.le_of_ble_eq_true rfl) rfl (s_X7_mayBe sx (4 : Int32) a0  σ _ h) (fun r2 σ1 h => ?_)
  refine X_if_eq (tgt := 19) dX11_place_5 (by decide) h (fun h => ?_) (fun h => ?_)
  · refine X_iconst (v := -1) dX11_place_19 iconst_m1 ?_
    exact X_reti rfl dX11_place_20 h
  · refine X_aload_n dX11_place_8 rfl rfl ?_
    refine X_get (v := .ref 1) ck_X11 f_X11_10 g_0 rfl (fun _ => rfl) dX11_place_9 ?_
    refine X_iload_n dX11_place_12 rfl rfl ?_
    refine X_callVi [.int a0] [] c_X7_addPlace v_X7_addPlace lk_X11_125 dX11_place_13 g_1 rfl rfl rfl (by decide) (Nat.le_of_ble_eq_true rfl) rfl (s_X7_addPlace sx a0  σ1 _ h) (fun r4 σ3 h => ?_)
    refine X_goto (tgt := 20) dX11_place_16 (by decide) ?_
    exact X_reti rfl dX11_place_20 h
def w_X11_mend (a0 : Int32) (b0 : Int32) (c0 : Int32) (σ : Sg) (Q : Int32 → Sg → Prop) : Prop := w_X7_has a0 b0 σ (fun r2 σ1 => if r2 = 0 then (Q (-2000000000 : Int32) σ1) else (w_X7_mayBe b0 c0 σ1 (fun r4 σ3 => if r4 = 0 then (Q (-2000000000 : Int32) σ3) else (w_X7_read a0 b0 σ3 (fun r6 σ5 => if r6 = c0 then (Q r6 σ5) else (w_X2_note a0 b0 r6 c0 σ5 (fun  σ7 => w_X7_write a0 b0 c0 σ7 (fun  σ8 => Q r6 σ8))))))))
set_option maxRecDepth 100000 in
set_option maxHeartbeats 4000000 in
theorem s_X11_mend (sx : Nat × (Nat → Int32)) (a0 : Int32) (b0 : Int32) (c0 : Int32) (σ : Sg) (Q : Int32 → Sg → Prop) (h : w_X11_mend a0 b0 c0 σ Q) : Ct mX11_mend 2 false (0, 0) sx G0 [.ref 0, .int a0, .int b0, .int c0] σ (qI Q) := by
  refine Ct.of (L := [some (.ref 0), some (.int a0), some (.int b0), some (.int c0), none]) (by decide) (Nat.le_of_ble_eq_true rfl) rfl ?_
  unfold w_X11_mend at h
  refine X_aload_n dX11_mend_0 rfl rfl ?_
  refine X_get (v := .ref 1) ck_X11 f_X11_10 g_0 rfl (fun _ => rfl) dX11_mend_1 ?_
  refine X_iload_n dX11_mend_4 rfl rfl ?_
  refine X_iload_n dX11_mend_5 rfl rfl ?_
  refine X_callVi [.int a0, .int b0] [] c_X7_has v_X7_has lk_X11_129 dX11_mend_6 g_1 rfl rfl rfl (by decide) (Nat.le_of_ble_eq_true rfl) rfl (s_X7_has sx a0 b0  σ _ h) (fun r2 σ1 h => ?_)
  refine X_if_eq (tgt := 20) dX11_mend_9 (by decide) h (fun h => ?_) (fun h => ?_)
  · refine X_ldc (v := -2000000000) dX11_mend_20 k_X11_132 ?_
    exact X_reti rfl dX11_mend_22 h
  · refine X_iload_n dX11_mend_12 rfl rfl ?_
    refine X_iload_n dX11_mend_13 rfl rfl ?_
    refine X_callSi [.int b0, .int c0] [] c_X7_mayBe t_X7_mayBe lk_X11_98 dX11_mend_14 rfl (by decide) (Nat.le_of_ble_eq_true rfl) rfl (s_X7_mayBe sx b0 c0  σ1 _ h) (fun r4 σ3 h => ?_)
    refine X_if_ne (tgt := 23) dX11_mend_17 (by decide) h (fun h => ?_) (fun h => ?_)
    · refine X_aload_n dX11_mend_23 rfl rfl ?_
      refine X_get (v := .ref 1) ck_X11 f_X11_10 g_0 rfl (fun _ => rfl) dX11_mend_24 ?_
      refine X_iload_n dX11_mend_27 rfl rfl ?_
      refine X_iload_n dX11_mend_28 rfl rfl ?_
      refine X_callVi [.int a0, .int b0] [] c_X7_read v_X7_read lk_X11_133 dX11_mend_29 g_1 rfl rfl rfl (by decide) (Nat.le_of_ble_eq_true rfl) rfl (s_X7_read sx a0 b0  σ3 _ h) (fun r6 σ5 h => ?_)
      refine X_istore (L' := [some (.ref 0), some (.int a0), some (.int b0), some (.int c0), some (.int r6)]) dX11_mend_32 (by decide) rfl ?_
      refine X_iload dX11_mend_34 rfl ?_
      refine X_iload_n dX11_mend_36 rfl rfl ?_
      refine X_icmp_eq (tgt := 62) dX11_mend_37 (by decide) h (fun h => ?_) (fun h => ?_)
      · refine X_iload dX11_mend_62 rfl ?_
        exact X_reti rfl dX11_mend_64 h
      · refine X_aload_n dX11_mend_40 rfl rfl ?_
        refine X_get (v := .ref 36) ck_X11 f_X11_73 g_0 rfl (fun _ => rfl) dX11_mend_41 ?_
        refine X_iload_n dX11_mend_44 rfl rfl ?_
        refine X_iload_n dX11_mend_45 rfl rfl ?_
        refine X_iload dX11_mend_46 rfl ?_
        refine X_iload_n dX11_mend_48 rfl rfl ?_
        refine X_callVv [.int a0, .int b0, .int r6, .int c0] [] c_X2_note v_X2_note lk_X11_137 dX11_mend_49 g_36 rfl rfl rfl (by decide) (Nat.le_of_ble_eq_true rfl) rfl (s_X2_note sx a0 b0 r6 c0  σ5 _ h) (fun  σ7 h => ?_)
        refine X_aload_n dX11_mend_52 rfl rfl ?_
        refine X_get (v := .ref 1) ck_X11 f_X11_10 g_0 rfl (fun _ => rfl) dX11_mend_53 ?_
        refine X_iload_n dX11_mend_56 rfl rfl ?_
        refine X_iload_n dX11_mend_57 rfl rfl ?_
        refine X_iload_n dX11_mend_58 rfl rfl ?_
        refine X_callVv [.int a0, .int b0, .int c0] [] c_X7_write v_X7_write lk_X11_141 dX11_mend_59 g_1 rfl rfl rfl (by decide) (Nat.le_of_ble_eq_true rfl) rfl (s_X7_write sx a0 b0 c0  σ7 _ h) (fun  σ8 h => ?_)
        refine X_iload dX11_mend_62 rfl ?_
        exact X_reti rfl dX11_mend_64 h
    · refine X_ldc (v := -2000000000) dX11_mend_20 k_X11_132 ?_
      exact X_reti rfl dX11_mend_22 h
def w_X11_of (a0 : Int32) (b0 : Int32) (σ : Sg) (Q : Int32 → Sg → Prop) : Prop := w_X7_has a0 b0 σ (fun r2 σ1 => if r2 = 0 then (Q (-2000000000 : Int32) σ1) else (w_X7_read a0 b0 σ1 (fun r4 σ3 => Q r4 σ3)))
set_option maxRecDepth 100000 in
set_option maxHeartbeats 4000000 in
theorem s_X11_of (sx : Nat × (Nat → Int32)) (a0 : Int32) (b0 : Int32) (σ : Sg) (Q : Int32 → Sg → Prop) (h : w_X11_of a0 b0 σ Q) : Ct mX11_of 2 false (0, 0) sx G0 [.ref 0, .int a0, .int b0] σ (qI Q) := by
  refine Ct.of (L := [some (.ref 0), some (.int a0), some (.int b0)]) (by decide) (Nat.le_of_ble_eq_true rfl) rfl ?_
  unfold w_X11_of at h
  refine X_aload_n dX11_of_0 rfl rfl ?_
  refine X_get (v := .ref 1) ck_X11 f_X11_10 g_0 rfl (fun _ => rfl) dX11_of_1 ?_
  refine X_iload_n dX11_of_4 rfl rfl ?_
  refine X_iload_n dX11_of_5 rfl rfl ?_
  refine X_callVi [.int a0, .int b0] [] c_X7_has v_X7_has lk_X11_129 dX11_of_6 g_1 rfl rfl rfl (by decide) (Nat.le_of_ble_eq_true rfl) rfl (s_X7_has sx a0 b0  σ _ h) (fun r2 σ1 h => ?_)
  refine X_if_eq (tgt := 24) dX11_of_9 (by decide) h (fun h => ?_) (fun h => ?_)
  · refine X_ldc (v := -2000000000) dX11_of_24 k_X11_132 ?_
    exact X_reti rfl dX11_of_26 h
  · refine X_aload_n dX11_of_12 rfl rfl ?_
    refine X_get (v := .ref 1) ck_X11 f_X11_10 g_0 rfl (fun _ => rfl) dX11_of_13 ?_
    refine X_iload_n dX11_of_16 rfl rfl ?_
    refine X_iload_n dX11_of_17 rfl rfl ?_
    refine X_callVi [.int a0, .int b0] [] c_X7_read v_X7_read lk_X11_133 dX11_of_18 g_1 rfl rfl rfl (by decide) (Nat.le_of_ble_eq_true rfl) rfl (s_X7_read sx a0 b0  σ1 _ h) (fun r4 σ3 h => ?_)
    refine X_goto (tgt := 26) dX11_of_21 (by decide) ?_
    exact X_reti rfl dX11_of_26 h
def w_X11_feed (a0 : Int32) (σ : Sg) (Q : Int32 → Sg → Prop) : Prop := w_X11_within a0 (0 : Int32) (255 : Int32) σ (fun r2 σ1 => if r2 = 0 then (Q (-1 : Int32) σ1) else (if (σ1.1 0 4) < (120 : Int32) then (vp_in (σ1.1 0 4) 120 ∧ bd (sI σ1 14 (Int32.toNatClampNeg (σ1.1 0 4)) a0) fun σ3 => bd (sI σ3 0 4 ((σ3.1 0 4) + (1 : Int32))) fun σ4 => Q (σ4.1 0 4) σ4) else (Q (-3 : Int32) σ1)))
set_option maxRecDepth 100000 in
set_option maxHeartbeats 4000000 in
theorem s_X11_feed (sx : Nat × (Nat → Int32)) (a0 : Int32) (σ : Sg) (Q : Int32 → Sg → Prop) (h : w_X11_feed a0 σ Q) : Ct mX11_feed 1 false (0, 0) sx G0 [.ref 0, .int a0] σ (qI Q) := by
  refine Ct.of (L := [some (.ref 0), some (.int a0)]) (by decide) (Nat.le_of_ble_eq_true rfl) rfl ?_
  unfold w_X11_feed at h
  refine X_iload_n dX11_feed_0 rfl rfl ?_
  refine X_iconst (v := 0) dX11_feed_1 iconst_0 ?_
  refine X_sipush (v := 255) dX11_feed_2 sipush_255 ?_
  refine X_callSi [.int a0, .int (0 : Int32), .int (255 : Int32)] [] c_X11_within t_X11_within lk_X11_110 dX11_feed_5 rfl (by decide) (Nat.le_of_ble_eq_true rfl) rfl (s_X11_within sx a0 (0 : Int32) (255 : Int32)  σ _ h) (fun r2 σ1 h => ?_)
  refine X_if_ne (tgt := 13) dX11_feed_8 (by decide) h (fun h => ?_) (fun h => ?_)
  · refine X_aload_n dX11_feed_13 rfl rfl ?_
    refine X_get (v := .int (σ1.1 0 4)) ck_X11 f_X11_145 g_0 rfl (fun _ => rfl) dX11_feed_14 ?_
    refine X_bipush (v := 120) dX11_feed_17 bipush_120 ?_
    refine X_icmp_lt (tgt := 25) dX11_feed_19 (by decide) h (fun h => ?_) (fun h => ?_)
    · refine X_aload_n dX11_feed_25 rfl rfl ?_
      refine X_get (v := .ref 14) ck_X11 f_X11_30 g_0 rfl (fun _ => rfl) dX11_feed_26 ?_
      refine X_aload_n dX11_feed_29 rfl rfl ?_
      refine X_get (v := .int (σ1.1 0 4)) ck_X11 f_X11_145 g_0 rfl (fun _ => rfl) dX11_feed_30 ?_
      refine X_iload_n dX11_feed_33 rfl rfl ?_
      refine X_iast g_14 dX11_feed_34 h (fun σ3 h => ?_)
      refine X_aload_n dX11_feed_35 rfl rfl ?_
      refine X_dup dX11_feed_36 rfl ?_
      refine X_get (v := .int (σ3.1 0 4)) ck_X11 f_X11_145 g_0 rfl (fun _ => rfl) dX11_feed_37 ?_
      refine X_iconst (v := 1) dX11_feed_40 iconst_1 ?_
      refine X_iadd dX11_feed_41 ?_
      refine X_putI ck_X11 f_X11_145 rfl g_0 rfl rfl rfl dX11_feed_42 h (fun σ4 h => ?_)
      refine X_aload_n dX11_feed_45 rfl rfl ?_
      refine X_get (v := .int (σ4.1 0 4)) ck_X11 f_X11_145 g_0 rfl (fun _ => rfl) dX11_feed_46 ?_
      exact X_reti rfl dX11_feed_49 h
    · refine X_bipush (v := -3) dX11_feed_22 bipush_m3 ?_
      exact X_reti rfl dX11_feed_24 h
  · refine X_iconst (v := -1) dX11_feed_11 iconst_m1 ?_
    exact X_reti rfl dX11_feed_12 h
def w_X11_law (σ : Sg) (Q : Int32 → Sg → Prop) : Prop := w_X9_faultOf (σ.1 0 4) σ (fun r2 σ1 => bd (sI σ1 0 4 (0 : Int32)) fun σ3 => if r2 = (-1 : Int32) then (w_X8_become  σ3 (fun  σ4 => Q (1 : Int32) σ4)) else (Q ((-100 : Int32) - r2) σ3))
set_option maxRecDepth 100000 in
set_option maxHeartbeats 4000000 in
theorem s_X11_law (sx : Nat × (Nat → Int32)) (σ : Sg) (Q : Int32 → Sg → Prop) (h : w_X11_law σ Q) : Ct mX11_law 6 false (0, 0) sx G0 [.ref 0] σ (qI Q) := by
  refine Ct.of (L := [some (.ref 0), none]) (by decide) (Nat.le_of_ble_eq_true rfl) rfl ?_
  unfold w_X11_law at h
  refine X_aload_n dX11_law_0 rfl rfl ?_
  refine X_get (v := .ref 11) ck_X11 f_X11_26 g_0 rfl (fun _ => rfl) dX11_law_1 ?_
  refine X_aload_n dX11_law_4 rfl rfl ?_
  refine X_get (v := .ref 14) ck_X11 f_X11_30 g_0 rfl (fun _ => rfl) dX11_law_5 ?_
  refine X_aload_n dX11_law_8 rfl rfl ?_
  refine X_get (v := .int (σ.1 0 4)) ck_X11 f_X11_145 g_0 rfl (fun _ => rfl) dX11_law_9 ?_
  refine X_callVi [.ref 14, .int (σ.1 0 4)] [] c_X9_faultOf v_X9_faultOf lk_X11_148 dX11_law_12 g_11 rfl rfl rfl (by decide) (Nat.le_of_ble_eq_true rfl) rfl (s_X9_faultOf sx (σ.1 0 4)  σ _ h) (fun r2 σ1 h => ?_)
  refine X_istore_n (L' := [some (.ref 0), some (.int r2)]) dX11_law_15 rfl (by decide) rfl ?_
  refine X_aload_n dX11_law_16 rfl rfl ?_
  refine X_iconst (v := 0) dX11_law_17 iconst_0 ?_
  refine X_putI ck_X11 f_X11_145 rfl g_0 rfl rfl rfl dX11_law_18 h (fun σ3 h => ?_)
  refine X_iload_n dX11_law_21 rfl rfl ?_
  refine X_iconst (v := -1) dX11_law_22 iconst_m1 ?_
  refine X_icmp_eq (tgt := 31) dX11_law_23 (by decide) h (fun h => ?_) (fun h => ?_)
  · refine X_aload_n dX11_law_31 rfl rfl ?_
    refine X_get (v := .ref 8) ck_X11 f_X11_19 g_0 rfl (fun _ => rfl) dX11_law_32 ?_
    refine X_aload_n dX11_law_35 rfl rfl ?_
    refine X_get (v := .ref 11) ck_X11 f_X11_26 g_0 rfl (fun _ => rfl) dX11_law_36 ?_
    refine X_callVv [.ref 11] [] c_X8_become v_X8_become lk_X11_152 dX11_law_39 g_8 rfl rfl rfl (by decide) (Nat.le_of_ble_eq_true rfl) rfl (s_X8_become sx   σ3 _ h) (fun  σ4 h => ?_)
    refine X_iconst (v := 1) dX11_law_42 iconst_1 ?_
    exact X_reti rfl dX11_law_43 h
  · refine X_bipush (v := -100) dX11_law_26 bipush_m100 ?_
    refine X_iload_n dX11_law_28 rfl rfl ?_
    refine X_isub dX11_law_29 ?_
    exact X_reti rfl dX11_law_30 h
def w_X11_turn (a0 : Int32) (σ : Sg) (Q : Int32 → Sg → Prop) : Prop := w_X7_hasCarriage a0 σ (fun r2 σ1 => if r2 = 0 then (Q (-2000000000 : Int32) σ1) else (vp_in a0 6 ∧ vp_in a0 6 ∧ w_X3_start (Int32.toNatClampNeg a0) (σ1.1 4 (Int32.toNatClampNeg a0)) σ1 (fun  σ4 => vp_in a0 6 ∧ w_X3_lawBehind (Int32.toNatClampNeg a0) (0 : Int32) (σ4.1 3 (Int32.toNatClampNeg a0)) σ4 (fun r6 σ5 => Q r6 σ5))))
set_option maxRecDepth 100000 in
set_option maxHeartbeats 4000000 in
theorem s_X11_turn (sx : Nat × (Nat → Int32)) (a0 : Int32) (σ : Sg) (Q : Int32 → Sg → Prop) (h : w_X11_turn a0 σ Q) : Ct mX11_turn 4 false (0, 0) sx G0 [.ref 0, .int a0] σ (qI Q) := by
  refine Ct.of (L := [some (.ref 0), some (.int a0), none]) (by decide) (Nat.le_of_ble_eq_true rfl) rfl ?_
  unfold w_X11_turn at h
  refine X_aload_n dX11_turn_0 rfl rfl ?_
  refine X_get (v := .ref 1) ck_X11 f_X11_10 g_0 rfl (fun _ => rfl) dX11_turn_1 ?_
  refine X_iload_n dX11_turn_4 rfl rfl ?_
  refine X_callVi [.int a0] [] c_X7_hasCarriage v_X7_hasCarriage lk_X11_156 dX11_turn_5 g_1 rfl rfl rfl (by decide) (Nat.le_of_ble_eq_true rfl) rfl (s_X7_hasCarriage sx a0  σ _ h) (fun r2 σ1 h => ?_)
  refine X_if_ne (tgt := 14) dX11_turn_8 (by decide) h (fun h => ?_) (fun h => ?_)
  · refine X_aload_n dX11_turn_14 rfl rfl ?_
    refine X_get (v := .ref 15) ck_X11 f_X11_36 g_0 rfl (fun _ => rfl) dX11_turn_15 ?_
    refine X_iload_n dX11_turn_18 rfl rfl ?_
    have hk3 := vp_lt h.1
    refine X_aald g_15 (Or.inl rfl) dX11_turn_19 h (fun q => g_coaches (vp_lt q)) (fun h => ?_)
    refine X_astore_n (L' := [some (.ref 0), some (.int a0), some (.ref (16 + 2 * (Int32.toNatClampNeg a0)))]) dX11_turn_20 rfl (by decide) rfl ?_
    refine X_aload_n dX11_turn_21 rfl rfl ?_
    refine X_aload_n dX11_turn_22 rfl rfl ?_
    refine X_get (v := .ref 1) ck_X11 f_X11_10 g_0 rfl (fun _ => rfl) dX11_turn_23 ?_
    refine X_get (v := .ref 4) ck_X7 f_X11_159 g_1 rfl (fun _ => rfl) dX11_turn_26 ?_
    refine X_iload_n dX11_turn_29 rfl rfl ?_
    refine X_iald g_4 dX11_turn_30 h (fun h => ?_)
    refine X_callVv [.int (σ1.1 4 (Int32.toNatClampNeg a0))] [] c_X3_start v_X3_start lk_X11_162 dX11_turn_31 (g_coach hk3) rfl rfl rfl (by decide) (Nat.le_of_ble_eq_true rfl) rfl (s_X3_start sx (Int32.toNatClampNeg a0) (σ1.1 4 (Int32.toNatClampNeg a0)) hk3 σ1 _ h) (fun  σ4 h => ?_)
    refine X_aload_n dX11_turn_34 rfl rfl ?_
    refine X_iconst (v := 0) dX11_turn_35 iconst_0 ?_
    refine X_aload_n dX11_turn_36 rfl rfl ?_
    refine X_get (v := .ref 1) ck_X11 f_X11_10 g_0 rfl (fun _ => rfl) dX11_turn_37 ?_
    refine X_get (v := .ref 3) ck_X7 f_X11_166 g_1 rfl (fun _ => rfl) dX11_turn_40 ?_
    refine X_iload_n dX11_turn_43 rfl rfl ?_
    refine X_iald g_3 dX11_turn_44 h (fun h => ?_)
    refine X_callVi [.int (0 : Int32), .int (σ4.1 3 (Int32.toNatClampNeg a0))] [] c_X3_lawBehind v_X3_lawBehind lk_X11_169 dX11_turn_45 (g_coach hk3) rfl rfl rfl (by decide) (Nat.le_of_ble_eq_true rfl) rfl (s_X3_lawBehind sx (Int32.toNatClampNeg a0) (0 : Int32) (σ4.1 3 (Int32.toNatClampNeg a0)) hk3 σ4 _ h) (fun r6 σ5 h => ?_)
    exact X_reti rfl dX11_turn_48 h
  · refine X_ldc (v := -2000000000) dX11_turn_11 k_X11_132 ?_
    exact X_reti rfl dX11_turn_13 h
def w_X11_later (a0 : Int32) (b0 : Int32) (c0 : Int32) (σ : Sg) (Q : Int32 → Sg → Prop) : Prop := w_X7_hasCarriage a0 σ (fun r2 σ1 => if r2 = 0 then (Q (-1 : Int32) σ1) else (w_X11_within b0 (0 : Int32) (60 : Int32) σ1 (fun r4 σ3 => if r4 = 0 then (Q (-1 : Int32) σ3) else (w_X11_within c0 (0 : Int32) (2 : Int32) σ3 (fun r6 σ5 => if r6 = 0 then (Q (-1 : Int32) σ5) else (if c0 = (2 : Int32) then (vp_in a0 6 ∧ Q (imax (0 : Int32) ((σ5.1 5 (Int32.toNatClampNeg a0)) - b0)) σ5) else (w_X6_follow a0 b0 σ5 (fun  σ7 => if c0 = 0 then (w_X6_cellBehind a0 b0 σ7 (fun r11 σ10 => Q r11 σ10)) else (w_X6_wayBehind a0 b0 σ7 (fun r9 σ8 => Q r9 σ8))))))))))
set_option maxRecDepth 100000 in
set_option maxHeartbeats 4000000 in
theorem s_X11_later (sx : Nat × (Nat → Int32)) (a0 : Int32) (b0 : Int32) (c0 : Int32) (σ : Sg) (Q : Int32 → Sg → Prop) (h : w_X11_later a0 b0 c0 σ Q) : Ct mX11_later 7 false (0, 0) sx G0 [.ref 0, .int a0, .int b0, .int c0] σ (qI Q) := by
  refine Ct.of (L := [some (.ref 0), some (.int a0), some (.int b0), some (.int c0)]) (by decide) (Nat.le_of_ble_eq_true rfl) rfl ?_
  unfold w_X11_later at h
  refine X_aload_n dX11_later_0 rfl rfl ?_
  refine X_get (v := .ref 1) ck_X11 f_X11_10 g_0 rfl (fun _ => rfl) dX11_later_1 ?_
  refine X_iload_n dX11_later_4 rfl rfl ?_
  refine X_callVi [.int a0] [] c_X7_hasCarriage v_X7_hasCarriage lk_X11_156 dX11_later_5 g_1 rfl rfl rfl (by decide) (Nat.le_of_ble_eq_true rfl) rfl (s_X7_hasCarriage sx a0  σ _ h) (fun r2 σ1 h => ?_)
  refine X_if_eq (tgt := 30) dX11_later_8 (by decide) h (fun h => ?_) (fun h => ?_)
  · refine X_iconst (v := -1) dX11_later_30 iconst_m1 ?_
    exact X_reti rfl dX11_later_31 h
  · refine X_iload_n dX11_later_11 rfl rfl ?_
    refine X_iconst (v := 0) dX11_later_12 iconst_0 ?_
    refine X_bipush (v := 60) dX11_later_13 bipush_60 ?_
    refine X_callSi [.int b0, .int (0 : Int32), .int (60 : Int32)] [] c_X11_within t_X11_within lk_X11_110 dX11_later_15 rfl (by decide) (Nat.le_of_ble_eq_true rfl) rfl (s_X11_within sx b0 (0 : Int32) (60 : Int32)  σ1 _ h) (fun r4 σ3 h => ?_)
    refine X_if_eq (tgt := 30) dX11_later_18 (by decide) h (fun h => ?_) (fun h => ?_)
    · refine X_iconst (v := -1) dX11_later_30 iconst_m1 ?_
      exact X_reti rfl dX11_later_31 h
    · refine X_iload_n dX11_later_21 rfl rfl ?_
      refine X_iconst (v := 0) dX11_later_22 iconst_0 ?_
      refine X_iconst (v := 2) dX11_later_23 iconst_2 ?_
      refine X_callSi [.int c0, .int (0 : Int32), .int (2 : Int32)] [] c_X11_within t_X11_within lk_X11_110 dX11_later_24 rfl (by decide) (Nat.le_of_ble_eq_true rfl) rfl (s_X11_within sx c0 (0 : Int32) (2 : Int32)  σ3 _ h) (fun r6 σ5 h => ?_)
      refine X_if_ne (tgt := 32) dX11_later_27 (by decide) h (fun h => ?_) (fun h => ?_)
      · refine X_iload_n dX11_later_32 rfl rfl ?_
        refine X_iconst (v := 2) dX11_later_33 iconst_2 ?_
        refine X_icmp_ne (tgt := 53) dX11_later_34 (by decide) h (fun h => ?_) (fun h => ?_)
        · refine X_aload_n dX11_later_53 rfl rfl ?_
          refine X_get (v := .ref 28) ck_X11 f_X11_48 g_0 rfl (fun _ => rfl) dX11_later_54 ?_
          refine X_iload_n dX11_later_57 rfl rfl ?_
          refine X_iload_n dX11_later_58 rfl rfl ?_
          refine X_callVv [.int a0, .int b0] [] c_X6_follow v_X6_follow lk_X11_180 dX11_later_59 g_28 rfl rfl rfl (by decide) (Nat.le_of_ble_eq_true rfl) rfl (s_X6_follow sx a0 b0  σ5 _ h) (fun  σ7 h => ?_)
          refine X_iload_n dX11_later_62 rfl rfl ?_
          refine X_if_ne (tgt := 78) dX11_later_63 (by decide) h (fun h => ?_) (fun h => ?_)
          · refine X_aload_n dX11_later_78 rfl rfl ?_
            refine X_get (v := .ref 28) ck_X11 f_X11_48 g_0 rfl (fun _ => rfl) dX11_later_79 ?_
            refine X_iload_n dX11_later_82 rfl rfl ?_
            refine X_iload_n dX11_later_83 rfl rfl ?_
            refine X_callVi [.int a0, .int b0] [] c_X6_wayBehind v_X6_wayBehind lk_X11_187 dX11_later_84 g_28 rfl rfl rfl (by decide) (Nat.le_of_ble_eq_true rfl) rfl (s_X6_wayBehind sx a0 b0  σ7 _ h) (fun r9 σ8 h => ?_)
            exact X_reti rfl dX11_later_87 h
          · refine X_aload_n dX11_later_66 rfl rfl ?_
            refine X_get (v := .ref 28) ck_X11 f_X11_48 g_0 rfl (fun _ => rfl) dX11_later_67 ?_
            refine X_iload_n dX11_later_70 rfl rfl ?_
            refine X_iload_n dX11_later_71 rfl rfl ?_
            refine X_callVi [.int a0, .int b0] [] c_X6_cellBehind v_X6_cellBehind lk_X11_184 dX11_later_72 g_28 rfl rfl rfl (by decide) (Nat.le_of_ble_eq_true rfl) rfl (s_X6_cellBehind sx a0 b0  σ7 _ h) (fun r11 σ10 h => ?_)
            refine X_goto (tgt := 87) dX11_later_75 (by decide) ?_
            exact X_reti rfl dX11_later_87 h
        · refine X_iconst (v := 0) dX11_later_37 iconst_0 ?_
          refine X_aload_n dX11_later_38 rfl rfl ?_
          refine X_get (v := .ref 1) ck_X11 f_X11_10 g_0 rfl (fun _ => rfl) dX11_later_39 ?_
          refine X_get (v := .ref 5) ck_X7 f_X11_172 g_1 rfl (fun _ => rfl) dX11_later_42 ?_
          refine X_iload_n dX11_later_45 rfl rfl ?_
          refine X_iald g_5 dX11_later_46 h (fun h => ?_)
          refine X_iload_n dX11_later_47 rfl rfl ?_
          refine X_isub dX11_later_48 ?_
          refine X_mmax lk_X11_175 dX11_later_49 (by decide) (Nat.le_of_ble_eq_true rfl) ?_
          exact X_reti rfl dX11_later_52 h
      · refine X_iconst (v := -1) dX11_later_30 iconst_m1 ?_
        exact X_reti rfl dX11_later_31 h
def w_X11_isPair (a0 : Int32) (σ : Sg) (Q : Int32 → Sg → Prop) : Prop := if a0 < 0 then (Q (0 : Int32) σ) else (w_X7_hasCarriage (a0 / (10 : Int32)) σ (fun r2 σ1 => if r2 = 0 then (Q (0 : Int32) σ1) else (w_X7_hasPlace (a0 - a0 / (10 : Int32) * (10 : Int32)) σ1 (fun r4 σ3 => if r4 = 0 then (Q (0 : Int32) σ3) else (Q (1 : Int32) σ3)))))
set_option maxRecDepth 100000 in
set_option maxHeartbeats 4000000 in
theorem s_X11_isPair (sx : Nat × (Nat → Int32)) (a0 : Int32) (σ : Sg) (Q : Int32 → Sg → Prop) (h : w_X11_isPair a0 σ Q) : Ct mX11_isPair 1 false (0, 0) sx G0 [.ref 0, .int a0] σ (qI Q) := by
  refine Ct.of (L := [some (.ref 0), some (.int a0)]) (by decide) (Nat.le_of_ble_eq_true rfl) rfl ?_
  unfold w_X11_isPair at h
  refine X_iload_n dX11_isPair_0 rfl rfl ?_
  refine X_if_lt (tgt := 36) dX11_isPair_1 (by decide) h (fun h => ?_) (fun h => ?_)
  · refine X_iconst (v := 0) dX11_isPair_36 iconst_0 ?_
    exact X_retz rfl rfl dX11_isPair_37 h
  · refine X_aload_n dX11_isPair_4 rfl rfl ?_
    refine X_get (v := .ref 1) ck_X11 f_X11_10 g_0 rfl (fun _ => rfl) dX11_isPair_5 ?_
    refine X_iload_n dX11_isPair_8 rfl rfl ?_
    refine X_bipush (v := 10) dX11_isPair_9 bipush_10 ?_
    refine X_idiv dX11_isPair_11 (by decide) ?_
    refine X_callVi [.int (a0 / (10 : Int32))] [] c_X7_hasCarriage v_X7_hasCarriage lk_X11_156 dX11_isPair_12 g_1 rfl rfl rfl (by decide) (Nat.le_of_ble_eq_true rfl) rfl (s_X7_hasCarriage sx (a0 / (10 : Int32))  σ _ h) (fun r2 σ1 h => ?_)
    refine X_if_eq (tgt := 36) dX11_isPair_15 (by decide) h (fun h => ?_) (fun h => ?_)
    · refine X_iconst (v := 0) dX11_isPair_36 iconst_0 ?_
      exact X_retz rfl rfl dX11_isPair_37 h
    · refine X_aload_n dX11_isPair_18 rfl rfl ?_
      refine X_get (v := .ref 1) ck_X11 f_X11_10 g_0 rfl (fun _ => rfl) dX11_isPair_19 ?_
      refine X_iload_n dX11_isPair_22 rfl rfl ?_
      refine X_bipush (v := 10) dX11_isPair_23 bipush_10 ?_
      refine X_irem dX11_isPair_25 (by decide) ?_
      refine X_callVi [.int (a0 - a0 / (10 : Int32) * (10 : Int32))] [] c_X7_hasPlace v_X7_hasPlace lk_X11_285 dX11_isPair_26 g_1 rfl rfl rfl (by decide) (Nat.le_of_ble_eq_true rfl) rfl (s_X7_hasPlace sx (a0 - a0 / (10 : Int32) * (10 : Int32))  σ1 _ h) (fun r4 σ3 h => ?_)
      refine X_if_eq (tgt := 36) dX11_isPair_29 (by decide) h (fun h => ?_) (fun h => ?_)
      · refine X_iconst (v := 0) dX11_isPair_36 iconst_0 ?_
        exact X_retz rfl rfl dX11_isPair_37 h
      · refine X_iconst (v := 1) dX11_isPair_32 iconst_1 ?_
        refine X_goto (tgt := 37) dX11_isPair_33 (by decide) ?_
        exact X_retz rfl rfl dX11_isPair_37 h
def w_X11_nears (a0 : Int32) (b0 : Int32) (c0 : Int32) (σ : Sg) (Q : Int32 → Sg → Prop) : Prop := w_X11_isPair a0 σ (fun r2 σ1 => if r2 = 0 then (Q (-1 : Int32) σ1) else (w_X11_within b0 (0 : Int32) (60 : Int32) σ1 (fun r4 σ3 => if r4 = 0 then (Q (-1 : Int32) σ3) else (w_X11_within c0 (0 : Int32) (1 : Int32) σ3 (fun r6 σ5 => if r6 = 0 then (Q (-1 : Int32) σ5) else (w_X6_follow (a0 / (10 : Int32)) b0 σ5 (fun  σ7 => vp_in (a0 - a0 / (10 : Int32) * (10 : Int32)) 8 ∧ w_X6_firstNearest (a0 / (10 : Int32)) (σ7.1 6 (Int32.toNatClampNeg (a0 - a0 / (10 : Int32) * (10 : Int32)))) b0 σ7 (fun r9 σ8 => if c0 = (1 : Int32) then (Q r9 σ8) else (w_X6_cellBehind (a0 / (10 : Int32)) r9 σ8 (fun r11 σ10 => vp_in (a0 - a0 / (10 : Int32) * (10 : Int32)) 8 ∧ w_X7_apart r11 (σ10.1 6 (Int32.toNatClampNeg (a0 - a0 / (10 : Int32) * (10 : Int32)))) σ10 (fun r13 σ12 => Q r13 σ12)))))))))))
set_option maxRecDepth 100000 in
set_option maxHeartbeats 4000000 in
theorem s_X11_nears (sx : Nat × (Nat → Int32)) (a0 : Int32) (b0 : Int32) (c0 : Int32) (σ : Sg) (Q : Int32 → Sg → Prop) (h : w_X11_nears a0 b0 c0 σ Q) : Ct mX11_nears 7 false (0, 0) sx G0 [.ref 0, .int a0, .int b0, .int c0] σ (qI Q) := by
  refine Ct.of (L := [some (.ref 0), some (.int a0), some (.int b0), some (.int c0), none]) (by decide) (Nat.le_of_ble_eq_true rfl) rfl ?_
  unfold w_X11_nears at h
  refine X_aload_n dX11_nears_0 rfl rfl ?_
  refine X_iload_n dX11_nears_1 rfl rfl ?_
  refine X_callVi [.int a0] [] c_X11_isPair v_X11_isPair lk_X11_190 dX11_nears_2 g_0 rfl rfl rfl (by decide) (Nat.le_of_ble_eq_true rfl) rfl (s_X11_isPair sx a0  σ _ h) (fun r2 σ1 h => ?_)
  refine X_if_eq (tgt := 27) dX11_nears_5 (by decide) h (fun h => ?_) (fun h => ?_)
  · refine X_iconst (v := -1) dX11_nears_27 iconst_m1 ?_
    exact X_reti rfl dX11_nears_28 h
  · refine X_iload_n dX11_nears_8 rfl rfl ?_
    refine X_iconst (v := 0) dX11_nears_9 iconst_0 ?_
    refine X_bipush (v := 60) dX11_nears_10 bipush_60 ?_
    refine X_callSi [.int b0, .int (0 : Int32), .int (60 : Int32)] [] c_X11_within t_X11_within lk_X11_110 dX11_nears_12 rfl (by decide) (Nat.le_of_ble_eq_true rfl) rfl (s_X11_within sx b0 (0 : Int32) (60 : Int32)  σ1 _ h) (fun r4 σ3 h => ?_)
    refine X_if_eq (tgt := 27) dX11_nears_15 (by decide) h (fun h => ?_) (fun h => ?_)
    · refine X_iconst (v := -1) dX11_nears_27 iconst_m1 ?_
      exact X_reti rfl dX11_nears_28 h
    · refine X_iload_n dX11_nears_18 rfl rfl ?_
      refine X_iconst (v := 0) dX11_nears_19 iconst_0 ?_
      refine X_iconst (v := 1) dX11_nears_20 iconst_1 ?_
      refine X_callSi [.int c0, .int (0 : Int32), .int (1 : Int32)] [] c_X11_within t_X11_within lk_X11_110 dX11_nears_21 rfl (by decide) (Nat.le_of_ble_eq_true rfl) rfl (s_X11_within sx c0 (0 : Int32) (1 : Int32)  σ3 _ h) (fun r6 σ5 h => ?_)
      refine X_if_ne (tgt := 29) dX11_nears_24 (by decide) h (fun h => ?_) (fun h => ?_)
      · refine X_aload_n dX11_nears_29 rfl rfl ?_
        refine X_get (v := .ref 28) ck_X11 f_X11_48 g_0 rfl (fun _ => rfl) dX11_nears_30 ?_
        refine X_iload_n dX11_nears_33 rfl rfl ?_
        refine X_bipush (v := 10) dX11_nears_34 bipush_10 ?_
        refine X_idiv dX11_nears_36 (by decide) ?_
        refine X_iload_n dX11_nears_37 rfl rfl ?_
        refine X_callVv [.int (a0 / (10 : Int32)), .int b0] [] c_X6_follow v_X6_follow lk_X11_180 dX11_nears_38 g_28 rfl rfl rfl (by decide) (Nat.le_of_ble_eq_true rfl) rfl (s_X6_follow sx (a0 / (10 : Int32)) b0  σ5 _ h) (fun  σ7 h => ?_)
        refine X_aload_n dX11_nears_41 rfl rfl ?_
        refine X_get (v := .ref 28) ck_X11 f_X11_48 g_0 rfl (fun _ => rfl) dX11_nears_42 ?_
        refine X_iload_n dX11_nears_45 rfl rfl ?_
        refine X_bipush (v := 10) dX11_nears_46 bipush_10 ?_
        refine X_idiv dX11_nears_48 (by decide) ?_
        refine X_aload_n dX11_nears_49 rfl rfl ?_
        refine X_get (v := .ref 1) ck_X11 f_X11_10 g_0 rfl (fun _ => rfl) dX11_nears_50 ?_
        refine X_get (v := .ref 6) ck_X7 f_X11_193 g_1 rfl (fun _ => rfl) dX11_nears_53 ?_
        refine X_iload_n dX11_nears_56 rfl rfl ?_
        refine X_bipush (v := 10) dX11_nears_57 bipush_10 ?_
        refine X_irem dX11_nears_59 (by decide) ?_
        refine X_iald g_6 dX11_nears_60 h (fun h => ?_)
        refine X_iload_n dX11_nears_61 rfl rfl ?_
        refine X_callVi [.int (a0 / (10 : Int32)), .int (σ7.1 6 (Int32.toNatClampNeg (a0 - a0 / (10 : Int32) * (10 : Int32)))), .int b0] [] c_X6_firstNearest v_X6_firstNearest lk_X11_196 dX11_nears_62 g_28 rfl rfl rfl (by decide) (Nat.le_of_ble_eq_true rfl) rfl (s_X6_firstNearest sx (a0 / (10 : Int32)) (σ7.1 6 (Int32.toNatClampNeg (a0 - a0 / (10 : Int32) * (10 : Int32)))) b0  σ7 _ h) (fun r9 σ8 h => ?_)
        refine X_istore (L' := [some (.ref 0), some (.int a0), some (.int b0), some (.int c0), some (.int r9)]) dX11_nears_65 (by decide) rfl ?_
        refine X_iload_n dX11_nears_67 rfl rfl ?_
        refine X_iconst (v := 1) dX11_nears_68 iconst_1 ?_
        refine X_icmp_ne (tgt := 77) dX11_nears_69 (by decide) h (fun h => ?_) (fun h => ?_)
        · refine X_aload_n dX11_nears_77 rfl rfl ?_
          refine X_get (v := .ref 28) ck_X11 f_X11_48 g_0 rfl (fun _ => rfl) dX11_nears_78 ?_
          refine X_iload_n dX11_nears_81 rfl rfl ?_
          refine X_bipush (v := 10) dX11_nears_82 bipush_10 ?_
          refine X_idiv dX11_nears_84 (by decide) ?_
          refine X_iload dX11_nears_85 rfl ?_
          refine X_callVi [.int (a0 / (10 : Int32)), .int r9] [] c_X6_cellBehind v_X6_cellBehind lk_X11_184 dX11_nears_87 g_28 rfl rfl rfl (by decide) (Nat.le_of_ble_eq_true rfl) rfl (s_X6_cellBehind sx (a0 / (10 : Int32)) r9  σ8 _ h) (fun r11 σ10 h => ?_)
          refine X_aload_n dX11_nears_90 rfl rfl ?_
          refine X_get (v := .ref 1) ck_X11 f_X11_10 g_0 rfl (fun _ => rfl) dX11_nears_91 ?_
          refine X_get (v := .ref 6) ck_X7 f_X11_193 g_1 rfl (fun _ => rfl) dX11_nears_94 ?_
          refine X_iload_n dX11_nears_97 rfl rfl ?_
          refine X_bipush (v := 10) dX11_nears_98 bipush_10 ?_
          refine X_irem dX11_nears_100 (by decide) ?_
          refine X_iald g_6 dX11_nears_101 h (fun h => ?_)
          refine X_callSi [.int r11, .int (σ10.1 6 (Int32.toNatClampNeg (a0 - a0 / (10 : Int32) * (10 : Int32))))] [] c_X7_apart t_X7_apart lk_X11_199 dX11_nears_102 rfl (by decide) (Nat.le_of_ble_eq_true rfl) rfl (s_X7_apart sx r11 (σ10.1 6 (Int32.toNatClampNeg (a0 - a0 / (10 : Int32) * (10 : Int32))))  σ10 _ h) (fun r13 σ12 h => ?_)
          exact X_reti rfl dX11_nears_105 h
        · refine X_iload dX11_nears_72 rfl ?_
          refine X_goto (tgt := 105) dX11_nears_74 (by decide) ?_
          exact X_reti rfl dX11_nears_105 h
      · refine X_iconst (v := -1) dX11_nears_27 iconst_m1 ?_
        exact X_reti rfl dX11_nears_28 h
def w_X11_passes (a0 : Int32) (b0 : Int32) (c0 : Int32) (σ : Sg) (Q : Int32 → Sg → Prop) : Prop := w_X7_hasCarriage a0 σ (fun r2 σ1 => if r2 = 0 then (Q (-1 : Int32) σ1) else (w_X11_within b0 (0 : Int32) (60 : Int32) σ1 (fun r4 σ3 => if r4 = 0 then (Q (-1 : Int32) σ3) else (w_X11_within c0 (0 : Int32) (1 : Int32) σ3 (fun r6 σ5 => if r6 = 0 then (Q (-1 : Int32) σ5) else (w_X6_follow a0 b0 σ5 (fun  σ7 => w_X6_placesPassed a0 b0 σ7 (fun r9 σ8 => if c0 = 0 then (Q r9 σ8) else (w_X7_worthOf r9 σ8 (fun r11 σ10 => Q r11 σ10))))))))))
set_option maxRecDepth 100000 in
set_option maxHeartbeats 4000000 in
theorem s_X11_passes (sx : Nat × (Nat → Int32)) (a0 : Int32) (b0 : Int32) (c0 : Int32) (σ : Sg) (Q : Int32 → Sg → Prop) (h : w_X11_passes a0 b0 c0 σ Q) : Ct mX11_passes 7 false (0, 0) sx G0 [.ref 0, .int a0, .int b0, .int c0] σ (qI Q) := by
  refine Ct.of (L := [some (.ref 0), some (.int a0), some (.int b0), some (.int c0), none]) (by decide) (Nat.le_of_ble_eq_true rfl) rfl ?_
  unfold w_X11_passes at h
  refine X_aload_n dX11_passes_0 rfl rfl ?_
  refine X_get (v := .ref 1) ck_X11 f_X11_10 g_0 rfl (fun _ => rfl) dX11_passes_1 ?_
  refine X_iload_n dX11_passes_4 rfl rfl ?_
  refine X_callVi [.int a0] [] c_X7_hasCarriage v_X7_hasCarriage lk_X11_156 dX11_passes_5 g_1 rfl rfl rfl (by decide) (Nat.le_of_ble_eq_true rfl) rfl (s_X7_hasCarriage sx a0  σ _ h) (fun r2 σ1 h => ?_)
  refine X_if_eq (tgt := 30) dX11_passes_8 (by decide) h (fun h => ?_) (fun h => ?_)
  · refine X_iconst (v := -1) dX11_passes_30 iconst_m1 ?_
    exact X_reti rfl dX11_passes_31 h
  · refine X_iload_n dX11_passes_11 rfl rfl ?_
    refine X_iconst (v := 0) dX11_passes_12 iconst_0 ?_
    refine X_bipush (v := 60) dX11_passes_13 bipush_60 ?_
    refine X_callSi [.int b0, .int (0 : Int32), .int (60 : Int32)] [] c_X11_within t_X11_within lk_X11_110 dX11_passes_15 rfl (by decide) (Nat.le_of_ble_eq_true rfl) rfl (s_X11_within sx b0 (0 : Int32) (60 : Int32)  σ1 _ h) (fun r4 σ3 h => ?_)
    refine X_if_eq (tgt := 30) dX11_passes_18 (by decide) h (fun h => ?_) (fun h => ?_)
    · refine X_iconst (v := -1) dX11_passes_30 iconst_m1 ?_
      exact X_reti rfl dX11_passes_31 h
    · refine X_iload_n dX11_passes_21 rfl rfl ?_
      refine X_iconst (v := 0) dX11_passes_22 iconst_0 ?_
      refine X_iconst (v := 1) dX11_passes_23 iconst_1 ?_
      refine X_callSi [.int c0, .int (0 : Int32), .int (1 : Int32)] [] c_X11_within t_X11_within lk_X11_110 dX11_passes_24 rfl (by decide) (Nat.le_of_ble_eq_true rfl) rfl (s_X11_within sx c0 (0 : Int32) (1 : Int32)  σ3 _ h) (fun r6 σ5 h => ?_)
      refine X_if_ne (tgt := 32) dX11_passes_27 (by decide) h (fun h => ?_) (fun h => ?_)
      · refine X_aload_n dX11_passes_32 rfl rfl ?_
        refine X_get (v := .ref 28) ck_X11 f_X11_48 g_0 rfl (fun _ => rfl) dX11_passes_33 ?_
        refine X_iload_n dX11_passes_36 rfl rfl ?_
        refine X_iload_n dX11_passes_37 rfl rfl ?_
        refine X_callVv [.int a0, .int b0] [] c_X6_follow v_X6_follow lk_X11_180 dX11_passes_38 g_28 rfl rfl rfl (by decide) (Nat.le_of_ble_eq_true rfl) rfl (s_X6_follow sx a0 b0  σ5 _ h) (fun  σ7 h => ?_)
        refine X_aload_n dX11_passes_41 rfl rfl ?_
        refine X_get (v := .ref 28) ck_X11 f_X11_48 g_0 rfl (fun _ => rfl) dX11_passes_42 ?_
        refine X_iload_n dX11_passes_45 rfl rfl ?_
        refine X_iload_n dX11_passes_46 rfl rfl ?_
        refine X_callVi [.int a0, .int b0] [] c_X6_placesPassed v_X6_placesPassed lk_X11_202 dX11_passes_47 g_28 rfl rfl rfl (by decide) (Nat.le_of_ble_eq_true rfl) rfl (s_X6_placesPassed sx a0 b0  σ7 _ h) (fun r9 σ8 h => ?_)
        refine X_istore (L' := [some (.ref 0), some (.int a0), some (.int b0), some (.int c0), some (.int r9)]) dX11_passes_50 (by decide) rfl ?_
        refine X_iload_n dX11_passes_52 rfl rfl ?_
        refine X_if_ne (tgt := 61) dX11_passes_53 (by decide) h (fun h => ?_) (fun h => ?_)
        · refine X_aload_n dX11_passes_61 rfl rfl ?_
          refine X_get (v := .ref 1) ck_X11 f_X11_10 g_0 rfl (fun _ => rfl) dX11_passes_62 ?_
          refine X_iload dX11_passes_65 rfl ?_
          refine X_callVi [.int r9] [] c_X7_worthOf v_X7_worthOf lk_X11_205 dX11_passes_67 g_1 rfl rfl rfl (by decide) (Nat.le_of_ble_eq_true rfl) rfl (s_X7_worthOf sx r9  σ8 _ h) (fun r11 σ10 h => ?_)
          exact X_reti rfl dX11_passes_70 h
        · refine X_iload dX11_passes_56 rfl ?_
          refine X_goto (tgt := 70) dX11_passes_58 (by decide) ?_
          exact X_reti rfl dX11_passes_70 h
      · refine X_iconst (v := -1) dX11_passes_30 iconst_m1 ?_
        exact X_reti rfl dX11_passes_31 h
def w_X11_areTwoCarriages (a0 : Int32) (σ : Sg) (Q : Int32 → Sg → Prop) : Prop := if a0 < 0 then (Q (0 : Int32) σ) else (w_X7_hasCarriage (a0 / (10 : Int32)) σ (fun r2 σ1 => if r2 = 0 then (Q (0 : Int32) σ1) else (w_X7_hasCarriage (a0 - a0 / (10 : Int32) * (10 : Int32)) σ1 (fun r4 σ3 => if r4 = 0 then (Q (0 : Int32) σ3) else (if (a0 / (10 : Int32)) = (a0 - a0 / (10 : Int32) * (10 : Int32)) then (Q (0 : Int32) σ3) else (Q (1 : Int32) σ3))))))
set_option maxRecDepth 100000 in
set_option maxHeartbeats 4000000 in
theorem s_X11_areTwoCarriages (sx : Nat × (Nat → Int32)) (a0 : Int32) (σ : Sg) (Q : Int32 → Sg → Prop) (h : w_X11_areTwoCarriages a0 σ Q) : Ct mX11_areTwoCarriages 1 false (0, 0) sx G0 [.ref 0, .int a0] σ (qI Q) := by
  refine Ct.of (L := [some (.ref 0), some (.int a0)]) (by decide) (Nat.le_of_ble_eq_true rfl) rfl ?_
  unfold w_X11_areTwoCarriages at h
  refine X_iload_n dX11_areTwoCarriages_0 rfl rfl ?_
  refine X_if_lt (tgt := 47) dX11_areTwoCarriages_1 (by decide) h (fun h => ?_) (fun h => ?_)
  · refine X_iconst (v := 0) dX11_areTwoCarriages_47 iconst_0 ?_
    exact X_retz rfl rfl dX11_areTwoCarriages_48 h
  · refine X_aload_n dX11_areTwoCarriages_4 rfl rfl ?_
    refine X_get (v := .ref 1) ck_X11 f_X11_10 g_0 rfl (fun _ => rfl) dX11_areTwoCarriages_5 ?_
    refine X_iload_n dX11_areTwoCarriages_8 rfl rfl ?_
    refine X_bipush (v := 10) dX11_areTwoCarriages_9 bipush_10 ?_
    refine X_idiv dX11_areTwoCarriages_11 (by decide) ?_
    refine X_callVi [.int (a0 / (10 : Int32))] [] c_X7_hasCarriage v_X7_hasCarriage lk_X11_156 dX11_areTwoCarriages_12 g_1 rfl rfl rfl (by decide) (Nat.le_of_ble_eq_true rfl) rfl (s_X7_hasCarriage sx (a0 / (10 : Int32))  σ _ h) (fun r2 σ1 h => ?_)
    refine X_if_eq (tgt := 47) dX11_areTwoCarriages_15 (by decide) h (fun h => ?_) (fun h => ?_)
    · refine X_iconst (v := 0) dX11_areTwoCarriages_47 iconst_0 ?_
      exact X_retz rfl rfl dX11_areTwoCarriages_48 h
    · refine X_aload_n dX11_areTwoCarriages_18 rfl rfl ?_
      refine X_get (v := .ref 1) ck_X11 f_X11_10 g_0 rfl (fun _ => rfl) dX11_areTwoCarriages_19 ?_
      refine X_iload_n dX11_areTwoCarriages_22 rfl rfl ?_
      refine X_bipush (v := 10) dX11_areTwoCarriages_23 bipush_10 ?_
      refine X_irem dX11_areTwoCarriages_25 (by decide) ?_
      refine X_callVi [.int (a0 - a0 / (10 : Int32) * (10 : Int32))] [] c_X7_hasCarriage v_X7_hasCarriage lk_X11_156 dX11_areTwoCarriages_26 g_1 rfl rfl rfl (by decide) (Nat.le_of_ble_eq_true rfl) rfl (s_X7_hasCarriage sx (a0 - a0 / (10 : Int32) * (10 : Int32))  σ1 _ h) (fun r4 σ3 h => ?_)
      refine X_if_eq (tgt := 47) dX11_areTwoCarriages_29 (by decide) h (fun h => ?_) (fun h => ?_)
      · refine X_iconst (v := 0) dX11_areTwoCarriages_47 iconst_0 ?_
        exact X_retz rfl rfl dX11_areTwoCarriages_48 h
      · refine X_iload_n dX11_areTwoCarriages_32 rfl rfl ?_
        refine X_bipush (v := 10) dX11_areTwoCarriages_33 bipush_10 ?_
        refine X_idiv dX11_areTwoCarriages_35 (by decide) ?_
        refine X_iload_n dX11_areTwoCarriages_36 rfl rfl ?_
        refine X_bipush (v := 10) dX11_areTwoCarriages_37 bipush_10 ?_
        refine X_irem dX11_areTwoCarriages_39 (by decide) ?_
        refine X_icmp_eq (tgt := 47) dX11_areTwoCarriages_40 (by decide) h (fun h => ?_) (fun h => ?_)
        · refine X_iconst (v := 0) dX11_areTwoCarriages_47 iconst_0 ?_
          exact X_retz rfl rfl dX11_areTwoCarriages_48 h
        · refine X_iconst (v := 1) dX11_areTwoCarriages_43 iconst_1 ?_
          refine X_goto (tgt := 48) dX11_areTwoCarriages_44 (by decide) ?_
          exact X_retz rfl rfl dX11_areTwoCarriages_48 h
def w_X11_meet (a0 : Int32) (σ : Sg) (Q : Int32 → Sg → Prop) : Prop := w_X11_areTwoCarriages a0 σ (fun r2 σ1 => if r2 = 0 then (Q (-1 : Int32) σ1) else (w_X6_follow (a0 / (10 : Int32)) (60 : Int32) σ1 (fun  σ3 => w_X6_follow (a0 - a0 / (10 : Int32) * (10 : Int32)) (60 : Int32) σ3 (fun  σ4 => w_X6_firstMeeting (a0 / (10 : Int32)) (a0 - a0 / (10 : Int32) * (10 : Int32)) σ4 (fun r6 σ5 => Q r6 σ5)))))
set_option maxRecDepth 100000 in
set_option maxHeartbeats 4000000 in
theorem s_X11_meet (sx : Nat × (Nat → Int32)) (a0 : Int32) (σ : Sg) (Q : Int32 → Sg → Prop) (h : w_X11_meet a0 σ Q) : Ct mX11_meet 7 false (0, 0) sx G0 [.ref 0, .int a0] σ (qI Q) := by
  refine Ct.of (L := [some (.ref 0), some (.int a0)]) (by decide) (Nat.le_of_ble_eq_true rfl) rfl ?_
  unfold w_X11_meet at h
  refine X_aload_n dX11_meet_0 rfl rfl ?_
  refine X_iload_n dX11_meet_1 rfl rfl ?_
  refine X_callVi [.int a0] [] c_X11_areTwoCarriages v_X11_areTwoCarriages lk_X11_208 dX11_meet_2 g_0 rfl rfl rfl (by decide) (Nat.le_of_ble_eq_true rfl) rfl (s_X11_areTwoCarriages sx a0  σ _ h) (fun r2 σ1 h => ?_)
  refine X_if_ne (tgt := 10) dX11_meet_5 (by decide) h (fun h => ?_) (fun h => ?_)
  · refine X_aload_n dX11_meet_10 rfl rfl ?_
    refine X_get (v := .ref 28) ck_X11 f_X11_48 g_0 rfl (fun _ => rfl) dX11_meet_11 ?_
    refine X_iload_n dX11_meet_14 rfl rfl ?_
    refine X_bipush (v := 10) dX11_meet_15 bipush_10 ?_
    refine X_idiv dX11_meet_17 (by decide) ?_
    refine X_bipush (v := 60) dX11_meet_18 bipush_60 ?_
    refine X_callVv [.int (a0 / (10 : Int32)), .int (60 : Int32)] [] c_X6_follow v_X6_follow lk_X11_180 dX11_meet_20 g_28 rfl rfl rfl (by decide) (Nat.le_of_ble_eq_true rfl) rfl (s_X6_follow sx (a0 / (10 : Int32)) (60 : Int32)  σ1 _ h) (fun  σ3 h => ?_)
    refine X_aload_n dX11_meet_23 rfl rfl ?_
    refine X_get (v := .ref 28) ck_X11 f_X11_48 g_0 rfl (fun _ => rfl) dX11_meet_24 ?_
    refine X_iload_n dX11_meet_27 rfl rfl ?_
    refine X_bipush (v := 10) dX11_meet_28 bipush_10 ?_
    refine X_irem dX11_meet_30 (by decide) ?_
    refine X_bipush (v := 60) dX11_meet_31 bipush_60 ?_
    refine X_callVv [.int (a0 - a0 / (10 : Int32) * (10 : Int32)), .int (60 : Int32)] [] c_X6_follow v_X6_follow lk_X11_180 dX11_meet_33 g_28 rfl rfl rfl (by decide) (Nat.le_of_ble_eq_true rfl) rfl (s_X6_follow sx (a0 - a0 / (10 : Int32) * (10 : Int32)) (60 : Int32)  σ3 _ h) (fun  σ4 h => ?_)
    refine X_aload_n dX11_meet_36 rfl rfl ?_
    refine X_get (v := .ref 28) ck_X11 f_X11_48 g_0 rfl (fun _ => rfl) dX11_meet_37 ?_
    refine X_iload_n dX11_meet_40 rfl rfl ?_
    refine X_bipush (v := 10) dX11_meet_41 bipush_10 ?_
    refine X_idiv dX11_meet_43 (by decide) ?_
    refine X_iload_n dX11_meet_44 rfl rfl ?_
    refine X_bipush (v := 10) dX11_meet_45 bipush_10 ?_
    refine X_irem dX11_meet_47 (by decide) ?_
    refine X_callVi [.int (a0 / (10 : Int32)), .int (a0 - a0 / (10 : Int32) * (10 : Int32))] [] c_X6_firstMeeting v_X6_firstMeeting lk_X11_211 dX11_meet_48 g_28 rfl rfl rfl (by decide) (Nat.le_of_ble_eq_true rfl) rfl (s_X6_firstMeeting sx (a0 / (10 : Int32)) (a0 - a0 / (10 : Int32) * (10 : Int32))  σ4 _ h) (fun r6 σ5 h => ?_)
    exact X_reti rfl dX11_meet_51 h
  · refine X_iconst (v := -1) dX11_meet_8 iconst_m1 ?_
    exact X_reti rfl dX11_meet_9 h
def w_X11_often (a0 : Int32) (b0 : Int32) (σ : Sg) (Q : Int32 → Sg → Prop) : Prop := w_X11_areTwoCarriages a0 σ (fun r2 σ1 => if r2 = 0 then (Q (-1 : Int32) σ1) else (w_X11_within b0 (0 : Int32) (60 : Int32) σ1 (fun r4 σ3 => if r4 = 0 then (Q (-1 : Int32) σ3) else (w_X6_follow (a0 / (10 : Int32)) b0 σ3 (fun  σ5 => w_X6_follow (a0 - a0 / (10 : Int32) * (10 : Int32)) b0 σ5 (fun  σ6 => w_X6_meetings (a0 / (10 : Int32)) (a0 - a0 / (10 : Int32) * (10 : Int32)) b0 σ6 (fun r8 σ7 => Q r8 σ7)))))))
set_option maxRecDepth 100000 in
set_option maxHeartbeats 4000000 in
theorem s_X11_often (sx : Nat × (Nat → Int32)) (a0 : Int32) (b0 : Int32) (σ : Sg) (Q : Int32 → Sg → Prop) (h : w_X11_often a0 b0 σ Q) : Ct mX11_often 7 false (0, 0) sx G0 [.ref 0, .int a0, .int b0] σ (qI Q) := by
  refine Ct.of (L := [some (.ref 0), some (.int a0), some (.int b0)]) (by decide) (Nat.le_of_ble_eq_true rfl) rfl ?_
  unfold w_X11_often at h
  refine X_aload_n dX11_often_0 rfl rfl ?_
  refine X_iload_n dX11_often_1 rfl rfl ?_
  refine X_callVi [.int a0] [] c_X11_areTwoCarriages v_X11_areTwoCarriages lk_X11_208 dX11_often_2 g_0 rfl rfl rfl (by decide) (Nat.le_of_ble_eq_true rfl) rfl (s_X11_areTwoCarriages sx a0  σ _ h) (fun r2 σ1 h => ?_)
  refine X_if_eq (tgt := 18) dX11_often_5 (by decide) h (fun h => ?_) (fun h => ?_)
  · refine X_iconst (v := -1) dX11_often_18 iconst_m1 ?_
    exact X_reti rfl dX11_often_19 h
  · refine X_iload_n dX11_often_8 rfl rfl ?_
    refine X_iconst (v := 0) dX11_often_9 iconst_0 ?_
    refine X_bipush (v := 60) dX11_often_10 bipush_60 ?_
    refine X_callSi [.int b0, .int (0 : Int32), .int (60 : Int32)] [] c_X11_within t_X11_within lk_X11_110 dX11_often_12 rfl (by decide) (Nat.le_of_ble_eq_true rfl) rfl (s_X11_within sx b0 (0 : Int32) (60 : Int32)  σ1 _ h) (fun r4 σ3 h => ?_)
    refine X_if_ne (tgt := 20) dX11_often_15 (by decide) h (fun h => ?_) (fun h => ?_)
    · refine X_aload_n dX11_often_20 rfl rfl ?_
      refine X_get (v := .ref 28) ck_X11 f_X11_48 g_0 rfl (fun _ => rfl) dX11_often_21 ?_
      refine X_iload_n dX11_often_24 rfl rfl ?_
      refine X_bipush (v := 10) dX11_often_25 bipush_10 ?_
      refine X_idiv dX11_often_27 (by decide) ?_
      refine X_iload_n dX11_often_28 rfl rfl ?_
      refine X_callVv [.int (a0 / (10 : Int32)), .int b0] [] c_X6_follow v_X6_follow lk_X11_180 dX11_often_29 g_28 rfl rfl rfl (by decide) (Nat.le_of_ble_eq_true rfl) rfl (s_X6_follow sx (a0 / (10 : Int32)) b0  σ3 _ h) (fun  σ5 h => ?_)
      refine X_aload_n dX11_often_32 rfl rfl ?_
      refine X_get (v := .ref 28) ck_X11 f_X11_48 g_0 rfl (fun _ => rfl) dX11_often_33 ?_
      refine X_iload_n dX11_often_36 rfl rfl ?_
      refine X_bipush (v := 10) dX11_often_37 bipush_10 ?_
      refine X_irem dX11_often_39 (by decide) ?_
      refine X_iload_n dX11_often_40 rfl rfl ?_
      refine X_callVv [.int (a0 - a0 / (10 : Int32) * (10 : Int32)), .int b0] [] c_X6_follow v_X6_follow lk_X11_180 dX11_often_41 g_28 rfl rfl rfl (by decide) (Nat.le_of_ble_eq_true rfl) rfl (s_X6_follow sx (a0 - a0 / (10 : Int32) * (10 : Int32)) b0  σ5 _ h) (fun  σ6 h => ?_)
      refine X_aload_n dX11_often_44 rfl rfl ?_
      refine X_get (v := .ref 28) ck_X11 f_X11_48 g_0 rfl (fun _ => rfl) dX11_often_45 ?_
      refine X_iload_n dX11_often_48 rfl rfl ?_
      refine X_bipush (v := 10) dX11_often_49 bipush_10 ?_
      refine X_idiv dX11_often_51 (by decide) ?_
      refine X_iload_n dX11_often_52 rfl rfl ?_
      refine X_bipush (v := 10) dX11_often_53 bipush_10 ?_
      refine X_irem dX11_often_55 (by decide) ?_
      refine X_iload_n dX11_often_56 rfl rfl ?_
      refine X_callVi [.int (a0 / (10 : Int32)), .int (a0 - a0 / (10 : Int32) * (10 : Int32)), .int b0] [] c_X6_meetings v_X6_meetings lk_X11_214 dX11_often_57 g_28 rfl rfl rfl (by decide) (Nat.le_of_ble_eq_true rfl) rfl (s_X6_meetings sx (a0 / (10 : Int32)) (a0 - a0 / (10 : Int32) * (10 : Int32)) b0  σ6 _ h) (fun r8 σ7 h => ?_)
      exact X_reti rfl dX11_often_60 h
    · refine X_iconst (v := -1) dX11_often_18 iconst_m1 ?_
      exact X_reti rfl dX11_often_19 h
def w_X11_who (a0 : Int32) (b0 : Int32) (σ : Sg) (Q : Int32 → Sg → Prop) : Prop := w_X7_mayBe (0 : Int32) a0 σ (fun r2 σ1 => if r2 = 0 then (Q (-1 : Int32) σ1) else (w_X11_within b0 (0 : Int32) (60 : Int32) σ1 (fun r4 σ3 => if r4 = 0 then (Q (-1 : Int32) σ3) else (w_X6_followAll b0 σ3 (fun  σ5 => w_X6_carriagesNear a0 b0 σ5 (fun r7 σ6 => Q r7 σ6))))))
set_option maxRecDepth 100000 in
set_option maxHeartbeats 4000000 in
theorem s_X11_who (sx : Nat × (Nat → Int32)) (a0 : Int32) (b0 : Int32) (σ : Sg) (Q : Int32 → Sg → Prop) (h : w_X11_who a0 b0 σ Q) : Ct mX11_who 7 false (0, 0) sx G0 [.ref 0, .int a0, .int b0] σ (qI Q) := by
  refine Ct.of (L := [some (.ref 0), some (.int a0), some (.int b0)]) (by decide) (Nat.le_of_ble_eq_true rfl) rfl ?_
  unfold w_X11_who at h
  refine X_iconst (v := 0) dX11_who_0 iconst_0 ?_
  refine X_iload_n dX11_who_1 rfl rfl ?_
  refine X_callSi [.int (0 : Int32), .int a0] [] c_X7_mayBe t_X7_mayBe lk_X11_98 dX11_who_2 rfl (by decide) (Nat.le_of_ble_eq_true rfl) rfl (s_X7_mayBe sx (0 : Int32) a0  σ _ h) (fun r2 σ1 h => ?_)
  refine X_if_eq (tgt := 18) dX11_who_5 (by decide) h (fun h => ?_) (fun h => ?_)
  · refine X_iconst (v := -1) dX11_who_18 iconst_m1 ?_
    exact X_reti rfl dX11_who_19 h
  · refine X_iload_n dX11_who_8 rfl rfl ?_
    refine X_iconst (v := 0) dX11_who_9 iconst_0 ?_
    refine X_bipush (v := 60) dX11_who_10 bipush_60 ?_
    refine X_callSi [.int b0, .int (0 : Int32), .int (60 : Int32)] [] c_X11_within t_X11_within lk_X11_110 dX11_who_12 rfl (by decide) (Nat.le_of_ble_eq_true rfl) rfl (s_X11_within sx b0 (0 : Int32) (60 : Int32)  σ1 _ h) (fun r4 σ3 h => ?_)
    refine X_if_ne (tgt := 20) dX11_who_15 (by decide) h (fun h => ?_) (fun h => ?_)
    · refine X_aload_n dX11_who_20 rfl rfl ?_
      refine X_get (v := .ref 28) ck_X11 f_X11_48 g_0 rfl (fun _ => rfl) dX11_who_21 ?_
      refine X_iload_n dX11_who_24 rfl rfl ?_
      refine X_callVv [.int b0] [] c_X6_followAll v_X6_followAll lk_X11_217 dX11_who_25 g_28 rfl rfl rfl (by decide) (Nat.le_of_ble_eq_true rfl) rfl (s_X6_followAll sx b0  σ3 _ h) (fun  σ5 h => ?_)
      refine X_aload_n dX11_who_28 rfl rfl ?_
      refine X_get (v := .ref 28) ck_X11 f_X11_48 g_0 rfl (fun _ => rfl) dX11_who_29 ?_
      refine X_iload_n dX11_who_32 rfl rfl ?_
      refine X_iload_n dX11_who_33 rfl rfl ?_
      refine X_callVi [.int a0, .int b0] [] c_X6_carriagesNear v_X6_carriagesNear lk_X11_220 dX11_who_34 g_28 rfl rfl rfl (by decide) (Nat.le_of_ble_eq_true rfl) rfl (s_X6_carriagesNear sx a0 b0  σ5 _ h) (fun r7 σ6 h => ?_)
      exact X_reti rfl dX11_who_37 h
    · refine X_iconst (v := -1) dX11_who_18 iconst_m1 ?_
      exact X_reti rfl dX11_who_19 h
def w_X11_areTwoPlaces (a0 : Int32) (σ : Sg) (Q : Int32 → Sg → Prop) : Prop := if a0 < 0 then (Q (0 : Int32) σ) else (w_X7_hasPlace (a0 / (10 : Int32)) σ (fun r2 σ1 => if r2 = 0 then (Q (0 : Int32) σ1) else (w_X7_hasPlace (a0 - a0 / (10 : Int32) * (10 : Int32)) σ1 (fun r4 σ3 => if r4 = 0 then (Q (0 : Int32) σ3) else (if (a0 / (10 : Int32)) = (a0 - a0 / (10 : Int32) * (10 : Int32)) then (Q (0 : Int32) σ3) else (Q (1 : Int32) σ3))))))
set_option maxRecDepth 100000 in
set_option maxHeartbeats 4000000 in
theorem s_X11_areTwoPlaces (sx : Nat × (Nat → Int32)) (a0 : Int32) (σ : Sg) (Q : Int32 → Sg → Prop) (h : w_X11_areTwoPlaces a0 σ Q) : Ct mX11_areTwoPlaces 1 false (0, 0) sx G0 [.ref 0, .int a0] σ (qI Q) := by
  refine Ct.of (L := [some (.ref 0), some (.int a0)]) (by decide) (Nat.le_of_ble_eq_true rfl) rfl ?_
  unfold w_X11_areTwoPlaces at h
  refine X_iload_n dX11_areTwoPlaces_0 rfl rfl ?_
  refine X_if_lt (tgt := 47) dX11_areTwoPlaces_1 (by decide) h (fun h => ?_) (fun h => ?_)
  · refine X_iconst (v := 0) dX11_areTwoPlaces_47 iconst_0 ?_
    exact X_retz rfl rfl dX11_areTwoPlaces_48 h
  · refine X_aload_n dX11_areTwoPlaces_4 rfl rfl ?_
    refine X_get (v := .ref 1) ck_X11 f_X11_10 g_0 rfl (fun _ => rfl) dX11_areTwoPlaces_5 ?_
    refine X_iload_n dX11_areTwoPlaces_8 rfl rfl ?_
    refine X_bipush (v := 10) dX11_areTwoPlaces_9 bipush_10 ?_
    refine X_idiv dX11_areTwoPlaces_11 (by decide) ?_
    refine X_callVi [.int (a0 / (10 : Int32))] [] c_X7_hasPlace v_X7_hasPlace lk_X11_285 dX11_areTwoPlaces_12 g_1 rfl rfl rfl (by decide) (Nat.le_of_ble_eq_true rfl) rfl (s_X7_hasPlace sx (a0 / (10 : Int32))  σ _ h) (fun r2 σ1 h => ?_)
    refine X_if_eq (tgt := 47) dX11_areTwoPlaces_15 (by decide) h (fun h => ?_) (fun h => ?_)
    · refine X_iconst (v := 0) dX11_areTwoPlaces_47 iconst_0 ?_
      exact X_retz rfl rfl dX11_areTwoPlaces_48 h
    · refine X_aload_n dX11_areTwoPlaces_18 rfl rfl ?_
      refine X_get (v := .ref 1) ck_X11 f_X11_10 g_0 rfl (fun _ => rfl) dX11_areTwoPlaces_19 ?_
      refine X_iload_n dX11_areTwoPlaces_22 rfl rfl ?_
      refine X_bipush (v := 10) dX11_areTwoPlaces_23 bipush_10 ?_
      refine X_irem dX11_areTwoPlaces_25 (by decide) ?_
      refine X_callVi [.int (a0 - a0 / (10 : Int32) * (10 : Int32))] [] c_X7_hasPlace v_X7_hasPlace lk_X11_285 dX11_areTwoPlaces_26 g_1 rfl rfl rfl (by decide) (Nat.le_of_ble_eq_true rfl) rfl (s_X7_hasPlace sx (a0 - a0 / (10 : Int32) * (10 : Int32))  σ1 _ h) (fun r4 σ3 h => ?_)
      refine X_if_eq (tgt := 47) dX11_areTwoPlaces_29 (by decide) h (fun h => ?_) (fun h => ?_)
      · refine X_iconst (v := 0) dX11_areTwoPlaces_47 iconst_0 ?_
        exact X_retz rfl rfl dX11_areTwoPlaces_48 h
      · refine X_iload_n dX11_areTwoPlaces_32 rfl rfl ?_
        refine X_bipush (v := 10) dX11_areTwoPlaces_33 bipush_10 ?_
        refine X_idiv dX11_areTwoPlaces_35 (by decide) ?_
        refine X_iload_n dX11_areTwoPlaces_36 rfl rfl ?_
        refine X_bipush (v := 10) dX11_areTwoPlaces_37 bipush_10 ?_
        refine X_irem dX11_areTwoPlaces_39 (by decide) ?_
        refine X_icmp_eq (tgt := 47) dX11_areTwoPlaces_40 (by decide) h (fun h => ?_) (fun h => ?_)
        · refine X_iconst (v := 0) dX11_areTwoPlaces_47 iconst_0 ?_
          exact X_retz rfl rfl dX11_areTwoPlaces_48 h
        · refine X_iconst (v := 1) dX11_areTwoPlaces_43 iconst_1 ?_
          refine X_goto (tgt := 48) dX11_areTwoPlaces_44 (by decide) ?_
          exact X_retz rfl rfl dX11_areTwoPlaces_48 h
def w_X11_soonest (a0 : Int32) (b0 : Int32) (σ : Sg) (Q : Int32 → Sg → Prop) : Prop := w_X11_areTwoPlaces a0 σ (fun r2 σ1 => if r2 = 0 then (Q (-1 : Int32) σ1) else (w_X11_within b0 (0 : Int32) (1 : Int32) σ1 (fun r4 σ3 => if r4 = 0 then (Q (-1 : Int32) σ3) else (w_X6_followAll (60 : Int32) σ3 (fun  σ5 => vp_in (a0 / (10 : Int32)) 8 ∧ vp_in (a0 - a0 / (10 : Int32) * (10 : Int32)) 8 ∧ bd (fun (x6 : Int32) (x7 : Int32) (x8 : Int32) (σ9 : Sg) => w_X6_soonestBetween x6 x7 x8 σ9 (fun r11 σ10 => Q r11 σ10)) fun J66 => if b0 = (1 : Int32) then (J66 (σ5.1 6 (Int32.toNatClampNeg (a0 / (10 : Int32)))) (σ5.1 6 (Int32.toNatClampNeg (a0 - a0 / (10 : Int32) * (10 : Int32)))) (1 : Int32) σ5) else (J66 (σ5.1 6 (Int32.toNatClampNeg (a0 / (10 : Int32)))) (σ5.1 6 (Int32.toNatClampNeg (a0 - a0 / (10 : Int32) * (10 : Int32)))) (0 : Int32) σ5))))))
set_option maxRecDepth 100000 in
set_option maxHeartbeats 4000000 in
theorem s_X11_soonest (sx : Nat × (Nat → Int32)) (a0 : Int32) (b0 : Int32) (σ : Sg) (Q : Int32 → Sg → Prop) (h : w_X11_soonest a0 b0 σ Q) : Ct mX11_soonest 7 false (0, 0) sx G0 [.ref 0, .int a0, .int b0] σ (qI Q) := by
  refine Ct.of (L := [some (.ref 0), some (.int a0), some (.int b0)]) (by decide) (Nat.le_of_ble_eq_true rfl) rfl ?_
  unfold w_X11_soonest at h
  refine X_aload_n dX11_soonest_0 rfl rfl ?_
  refine X_iload_n dX11_soonest_1 rfl rfl ?_
  refine X_callVi [.int a0] [] c_X11_areTwoPlaces v_X11_areTwoPlaces lk_X11_223 dX11_soonest_2 g_0 rfl rfl rfl (by decide) (Nat.le_of_ble_eq_true rfl) rfl (s_X11_areTwoPlaces sx a0  σ _ h) (fun r2 σ1 h => ?_)
  refine X_if_eq (tgt := 17) dX11_soonest_5 (by decide) h (fun h => ?_) (fun h => ?_)
  · refine X_iconst (v := -1) dX11_soonest_17 iconst_m1 ?_
    exact X_reti rfl dX11_soonest_18 h
  · refine X_iload_n dX11_soonest_8 rfl rfl ?_
    refine X_iconst (v := 0) dX11_soonest_9 iconst_0 ?_
    refine X_iconst (v := 1) dX11_soonest_10 iconst_1 ?_
    refine X_callSi [.int b0, .int (0 : Int32), .int (1 : Int32)] [] c_X11_within t_X11_within lk_X11_110 dX11_soonest_11 rfl (by decide) (Nat.le_of_ble_eq_true rfl) rfl (s_X11_within sx b0 (0 : Int32) (1 : Int32)  σ1 _ h) (fun r4 σ3 h => ?_)
    refine X_if_ne (tgt := 19) dX11_soonest_14 (by decide) h (fun h => ?_) (fun h => ?_)
    · refine X_aload_n dX11_soonest_19 rfl rfl ?_
      refine X_get (v := .ref 28) ck_X11 f_X11_48 g_0 rfl (fun _ => rfl) dX11_soonest_20 ?_
      refine X_bipush (v := 60) dX11_soonest_23 bipush_60 ?_
      refine X_callVv [.int (60 : Int32)] [] c_X6_followAll v_X6_followAll lk_X11_217 dX11_soonest_25 g_28 rfl rfl rfl (by decide) (Nat.le_of_ble_eq_true rfl) rfl (s_X6_followAll sx (60 : Int32)  σ3 _ h) (fun  σ5 h => ?_)
      refine X_aload_n dX11_soonest_28 rfl rfl ?_
      refine X_get (v := .ref 28) ck_X11 f_X11_48 g_0 rfl (fun _ => rfl) dX11_soonest_29 ?_
      refine X_aload_n dX11_soonest_32 rfl rfl ?_
      refine X_get (v := .ref 1) ck_X11 f_X11_10 g_0 rfl (fun _ => rfl) dX11_soonest_33 ?_
      refine X_get (v := .ref 6) ck_X7 f_X11_193 g_1 rfl (fun _ => rfl) dX11_soonest_36 ?_
      refine X_iload_n dX11_soonest_39 rfl rfl ?_
      refine X_bipush (v := 10) dX11_soonest_40 bipush_10 ?_
      refine X_idiv dX11_soonest_42 (by decide) ?_
      refine X_iald g_6 dX11_soonest_43 h (fun h => ?_)
      refine X_aload_n dX11_soonest_44 rfl rfl ?_
      refine X_get (v := .ref 1) ck_X11 f_X11_10 g_0 rfl (fun _ => rfl) dX11_soonest_45 ?_
      refine X_get (v := .ref 6) ck_X7 f_X11_193 g_1 rfl (fun _ => rfl) dX11_soonest_48 ?_
      refine X_iload_n dX11_soonest_51 rfl rfl ?_
      refine X_bipush (v := 10) dX11_soonest_52 bipush_10 ?_
      refine X_irem dX11_soonest_54 (by decide) ?_
      refine X_iald g_6 dX11_soonest_55 h (fun h => ?_)
      refine X_iload_n dX11_soonest_56 rfl rfl ?_
      refine X_iconst (v := 1) dX11_soonest_57 iconst_1 ?_
      refine bd_j h (fun J66 e66 h => ?_)
      have j66 : ∀ (x6 : Int32) (x7 : Int32) (x8 : Int32) (σ9 : Sg) , J66 x6 x7 x8 σ9 → Ex mX11_soonest 7 false (0, 0) sx G0 66 [none, none, none] [.int x8, .int x7, .int x6, .ref 28] σ9 (qI Q) := by
        intro x6 x7 x8 σ9  h
        subst e66
        replace h := h
        refine X_callVi [.int x6, .int x7, .int x8] [] c_X6_soonestBetween v_X6_soonestBetween lk_X11_226 dX11_soonest_66 g_28 rfl rfl rfl (by decide) (Nat.le_of_ble_eq_true rfl) rfl (s_X6_soonestBetween sx x6 x7 x8  σ9 _ h) (fun r11 σ10 h => ?_)
        exact X_reti rfl dX11_soonest_69 h
      refine X_icmp_ne (tgt := 65) dX11_soonest_58 (by decide) h (fun h => ?_) (fun h => ?_)
      · refine X_iconst (v := 0) dX11_soonest_65 iconst_0 ?_
        refine X_drop (L' := [none, none, none]) trivial ?_
        exact j66 _ _ _ _  h
      · refine X_iconst (v := 1) dX11_soonest_61 iconst_1 ?_
        refine X_goto (tgt := 66) dX11_soonest_62 (by decide) ?_
        refine X_drop (L' := [none, none, none]) trivial ?_
        exact j66 _ _ _ _  h
    · refine X_iconst (v := -1) dX11_soonest_17 iconst_m1 ?_
      exact X_reti rfl dX11_soonest_18 h
