def w_X12_product_l4 (Q : Sg → Prop) (F : Sg → (Sg → Prop) → Prop) : Nat → Sg → Prop
  | 0, _ => False
  | n4 + 1, σ2 => if 0 ≤ (σ2.1 60 19) then (Q σ2) else (w_X12_look  σ2 (fun r4 σ3 => bd (fun (σ5 : Sg) => w_X12_look  σ5 (fun r7 σ6 => bd (sI σ6 60 18 ((σ6.1 60 18) + (1 : Int32))) fun σ8 => F  σ8 (fun  σ9 => w_X12_addStep r7 (0 : Int32) σ9 (fun  σ10 => w_X12_product_l4 Q F n4 σ10)))) fun J38 => if r4 = (42 : Int32) then (J38 σ3) else (w_X12_look  σ3 (fun r12 σ11 => if r12 = (47 : Int32) then (J38 σ11) else (w_X12_look  σ11 (fun r14 σ13 => if r14 = (37 : Int32) then (J38 σ13) else (Q σ13)))))))
def w_X12_product (F : Sg → (Sg → Prop) → Prop) (σ : Sg) (Q : Sg → Prop) : Prop := F  σ (fun  σ1 => ∃ n, w_X12_product_l4 Q F n σ1)
set_option maxRecDepth 100000 in
set_option maxHeartbeats 4000000 in
theorem s_X12_product (sx : Nat × (Nat → Int32)) (F : Sg → (Sg → Prop) → Prop) (dF : Nat) (hF : ∀ (σ : Sg) (Q : Sg → Prop), F σ Q → Ct mX12_operand dF false (0, 0) sx G0 [.ref 60] σ (qV Q)) (σ : Sg) (Q : Sg → Prop) (h : w_X12_product F σ Q) : Ct mX12_product (dF + 1) false (0, 0) sx G0 [.ref 60] σ (qV Q) := by
  refine Ct.of (L := [some (.ref 60), none]) (by decide) (Nat.le_of_ble_eq_true rfl) rfl ?_
  unfold w_X12_product at h
  refine X_aload_n dX12_product_0 rfl rfl ?_
  refine X_callVv [] [] c_X12_operand v_X12_operand lk_X12_212 dX12_product_1 g_60 rfl rfl rfl (by omega) (Nat.le_of_ble_eq_true rfl) rfl (hF   σ _ h) (fun  σ1 h => ?_)
  obtain ⟨n4, h⟩ := h
  have key4 : ∀ (n : Nat) (σ2 : Sg) , w_X12_product_l4 Q F n  σ2 → Ex mX12_product (dF + 1) false (0, 0) sx G0 4 [some (.ref 60), none] [] σ2 (qV Q) := by
    intro n4
    induction n4 with
    | zero => intro _  h; exact h.elim
    | succ n4 ih4 =>
      intro  σ2  h
      unfold w_X12_product_l4 at h
      refine X_aload_n dX12_product_4 rfl rfl ?_
      refine X_get (v := .int (σ2.1 60 19)) ck_X12 f_X12_184 g_60 rfl (fun _ => rfl) dX12_product_5 ?_
      refine X_if_ge (tgt := 66) dX12_product_8 (by decide) h (fun h => ?_) (fun h => ?_)
      · exact X_retv rfl dX12_product_66 h
      · refine X_aload_n dX12_product_11 rfl rfl ?_
        refine X_callVi [] [] c_X12_look v_X12_look lk_X12_196 dX12_product_12 g_60 rfl rfl rfl (by omega) (Nat.le_of_ble_eq_true rfl) rfl (s_X12_look sx   σ2 _ h) (fun r4 σ3 h => ?_)
        refine X_bipush (v := 42) dX12_product_15 bipush_42 ?_
        refine bd_j h (fun J38 e38 h => ?_)
        have j38 : ∀ (σ5 : Sg) , J38  σ5 → Ex mX12_product (dF + 1) false (0, 0) sx G0 38 [some (.ref 60), none] [] σ5 (qV Q) := by
          intro  σ5  h
          subst e38
          replace h := h
          refine X_aload_n dX12_product_38 rfl rfl ?_
          refine X_callVi [] [] c_X12_look v_X12_look lk_X12_196 dX12_product_39 g_60 rfl rfl rfl (by omega) (Nat.le_of_ble_eq_true rfl) rfl (s_X12_look sx   σ5 _ h) (fun r7 σ6 h => ?_)
          refine X_istore_n (L' := [some (.ref 60), some (.int r7)]) dX12_product_42 rfl (by decide) rfl ?_
          refine X_aload_n dX12_product_43 rfl rfl ?_
          refine X_dup dX12_product_44 rfl ?_
          refine X_get (v := .int (σ6.1 60 18)) ck_X12 f_X12_181 g_60 rfl (fun _ => rfl) dX12_product_45 ?_
          refine X_iconst (v := 1) dX12_product_48 iconst_1 ?_
          refine X_iadd dX12_product_49 ?_
          refine X_putI ck_X12 f_X12_181 rfl g_60 rfl rfl rfl dX12_product_50 h (fun σ8 h => ?_)
          refine X_aload_n dX12_product_53 rfl rfl ?_
          refine X_callVv [] [] c_X12_operand v_X12_operand lk_X12_212 dX12_product_54 g_60 rfl rfl rfl (by omega) (Nat.le_of_ble_eq_true rfl) rfl (hF   σ8 _ h) (fun  σ9 h => ?_)
          refine X_aload_n dX12_product_57 rfl rfl ?_
          refine X_iload_n dX12_product_58 rfl rfl ?_
          refine X_iconst (v := 0) dX12_product_59 iconst_0 ?_
          refine X_callVv [.int r7, .int (0 : Int32)] [] c_X12_addStep v_X12_addStep lk_X12_200 dX12_product_60 g_60 rfl rfl rfl (by omega) (Nat.le_of_ble_eq_true rfl) rfl (s_X12_addStep sx r7 (0 : Int32)  σ9 _ h) (fun  σ10 h => ?_)
          refine X_goto (tgt := 4) dX12_product_63 (by decide) ?_
          refine X_drop (L' := [some (.ref 60), none]) ⟨rfl, trivial⟩ ?_
          exact ih4 _  h
        refine X_icmp_eq (tgt := 38) dX12_product_17 (by decide) h (fun h => ?_) (fun h => ?_)
        · exact j38 _  h
        · refine X_aload_n dX12_product_20 rfl rfl ?_
          refine X_callVi [] [] c_X12_look v_X12_look lk_X12_196 dX12_product_21 g_60 rfl rfl rfl (by omega) (Nat.le_of_ble_eq_true rfl) rfl (s_X12_look sx   σ3 _ h) (fun r12 σ11 h => ?_)
          refine X_bipush (v := 47) dX12_product_24 bipush_47 ?_
          refine X_icmp_eq (tgt := 38) dX12_product_26 (by decide) h (fun h => ?_) (fun h => ?_)
          · exact j38 _  h
          · refine X_aload_n dX12_product_29 rfl rfl ?_
            refine X_callVi [] [] c_X12_look v_X12_look lk_X12_196 dX12_product_30 g_60 rfl rfl rfl (by omega) (Nat.le_of_ble_eq_true rfl) rfl (s_X12_look sx   σ11 _ h) (fun r14 σ13 h => ?_)
            refine X_bipush (v := 37) dX12_product_33 bipush_37 ?_
            refine X_icmp_ne (tgt := 66) dX12_product_35 (by decide) h (fun h => ?_) (fun h => ?_)
            · exact X_retv rfl dX12_product_66 h
            · exact j38 _  h
  exact key4 _ _  h
def w_X12_sum_l4 (Q : Sg → Prop) (F : Sg → (Sg → Prop) → Prop) : Nat → Sg → Prop
  | 0, _ => False
  | n4 + 1, σ2 => if 0 ≤ (σ2.1 60 19) then (Q σ2) else (w_X12_look  σ2 (fun r4 σ3 => bd (fun (σ5 : Sg) => w_X12_look  σ5 (fun r7 σ6 => bd (sI σ6 60 18 ((σ6.1 60 18) + (1 : Int32))) fun σ8 => w_X12_product F  σ8 (fun  σ9 => w_X12_addStep r7 (0 : Int32) σ9 (fun  σ10 => w_X12_sum_l4 Q F n4 σ10)))) fun J29 => if r4 = (43 : Int32) then (J29 σ3) else (w_X12_look  σ3 (fun r12 σ11 => if r12 = (45 : Int32) then (J29 σ11) else (Q σ11)))))
def w_X12_sum (F : Sg → (Sg → Prop) → Prop) (σ : Sg) (Q : Sg → Prop) : Prop := w_X12_product F  σ (fun  σ1 => ∃ n, w_X12_sum_l4 Q F n σ1)
set_option maxRecDepth 100000 in
set_option maxHeartbeats 4000000 in
theorem s_X12_sum (sx : Nat × (Nat → Int32)) (F : Sg → (Sg → Prop) → Prop) (dF : Nat) (hF : ∀ (σ : Sg) (Q : Sg → Prop), F σ Q → Ct mX12_operand dF false (0, 0) sx G0 [.ref 60] σ (qV Q)) (σ : Sg) (Q : Sg → Prop) (h : w_X12_sum F σ Q) : Ct mX12_sum (dF + 2) false (0, 0) sx G0 [.ref 60] σ (qV Q) := by
  refine Ct.of (L := [some (.ref 60), none]) (by decide) (Nat.le_of_ble_eq_true rfl) rfl ?_
  unfold w_X12_sum at h
  refine X_aload_n dX12_sum_0 rfl rfl ?_
  refine X_callVv [] [] c_X12_product v_X12_product lk_X12_221 dX12_sum_1 g_60 rfl rfl rfl (by omega) (Nat.le_of_ble_eq_true rfl) rfl (s_X12_product sx F dF hF   σ _ h) (fun  σ1 h => ?_)
  obtain ⟨n4, h⟩ := h
  have key4 : ∀ (n : Nat) (σ2 : Sg) , w_X12_sum_l4 Q F n  σ2 → Ex mX12_sum (dF + 2) false (0, 0) sx G0 4 [some (.ref 60), none] [] σ2 (qV Q) := by
    intro n4
    induction n4 with
    | zero => intro _  h; exact h.elim
    | succ n4 ih4 =>
      intro  σ2  h
      unfold w_X12_sum_l4 at h
      refine X_aload_n dX12_sum_4 rfl rfl ?_
      refine X_get (v := .int (σ2.1 60 19)) ck_X12 f_X12_184 g_60 rfl (fun _ => rfl) dX12_sum_5 ?_
      refine X_if_ge (tgt := 57) dX12_sum_8 (by decide) h (fun h => ?_) (fun h => ?_)
      · exact X_retv rfl dX12_sum_57 h
      · refine X_aload_n dX12_sum_11 rfl rfl ?_
        refine X_callVi [] [] c_X12_look v_X12_look lk_X12_196 dX12_sum_12 g_60 rfl rfl rfl (by omega) (Nat.le_of_ble_eq_true rfl) rfl (s_X12_look sx   σ2 _ h) (fun r4 σ3 h => ?_)
        refine X_bipush (v := 43) dX12_sum_15 bipush_43 ?_
        refine bd_j h (fun J29 e29 h => ?_)
        have j29 : ∀ (σ5 : Sg) , J29  σ5 → Ex mX12_sum (dF + 2) false (0, 0) sx G0 29 [some (.ref 60), none] [] σ5 (qV Q) := by
          intro  σ5  h
          subst e29
          replace h := h
          refine X_aload_n dX12_sum_29 rfl rfl ?_
          refine X_callVi [] [] c_X12_look v_X12_look lk_X12_196 dX12_sum_30 g_60 rfl rfl rfl (by omega) (Nat.le_of_ble_eq_true rfl) rfl (s_X12_look sx   σ5 _ h) (fun r7 σ6 h => ?_)
          refine X_istore_n (L' := [some (.ref 60), some (.int r7)]) dX12_sum_33 rfl (by decide) rfl ?_
          refine X_aload_n dX12_sum_34 rfl rfl ?_
          refine X_dup dX12_sum_35 rfl ?_
          refine X_get (v := .int (σ6.1 60 18)) ck_X12 f_X12_181 g_60 rfl (fun _ => rfl) dX12_sum_36 ?_
          refine X_iconst (v := 1) dX12_sum_39 iconst_1 ?_
          refine X_iadd dX12_sum_40 ?_
          refine X_putI ck_X12 f_X12_181 rfl g_60 rfl rfl rfl dX12_sum_41 h (fun σ8 h => ?_)
          refine X_aload_n dX12_sum_44 rfl rfl ?_
          refine X_callVv [] [] c_X12_product v_X12_product lk_X12_221 dX12_sum_45 g_60 rfl rfl rfl (by omega) (Nat.le_of_ble_eq_true rfl) rfl (s_X12_product sx F dF hF   σ8 _ h) (fun  σ9 h => ?_)
          refine X_aload_n dX12_sum_48 rfl rfl ?_
          refine X_iload_n dX12_sum_49 rfl rfl ?_
          refine X_iconst (v := 0) dX12_sum_50 iconst_0 ?_
          refine X_callVv [.int r7, .int (0 : Int32)] [] c_X12_addStep v_X12_addStep lk_X12_200 dX12_sum_51 g_60 rfl rfl rfl (by omega) (Nat.le_of_ble_eq_true rfl) rfl (s_X12_addStep sx r7 (0 : Int32)  σ9 _ h) (fun  σ10 h => ?_)
          refine X_goto (tgt := 4) dX12_sum_54 (by decide) ?_
          refine X_drop (L' := [some (.ref 60), none]) ⟨rfl, trivial⟩ ?_
          exact ih4 _  h
        refine X_icmp_eq (tgt := 29) dX12_sum_17 (by decide) h (fun h => ?_) (fun h => ?_)
        · exact j29 _  h
        · refine X_aload_n dX12_sum_20 rfl rfl ?_
          refine X_callVi [] [] c_X12_look v_X12_look lk_X12_196 dX12_sum_21 g_60 rfl rfl rfl (by omega) (Nat.le_of_ble_eq_true rfl) rfl (s_X12_look sx   σ3 _ h) (fun r12 σ11 h => ?_)
          refine X_bipush (v := 45) dX12_sum_24 bipush_45 ?_
          refine X_icmp_ne (tgt := 57) dX12_sum_26 (by decide) h (fun h => ?_) (fun h => ?_)
          · exact X_retv rfl dX12_sum_57 h
          · exact j29 _  h
  exact key4 _ _  h
def w_X12_compared (F : Sg → (Sg → Prop) → Prop) (σ : Sg) (Q : Sg → Prop) : Prop := w_X12_sum F  σ (fun  σ1 => w_X12_look  σ1 (fun r3 σ2 => if 0 ≤ (σ2.1 60 19) then (Q σ2) else (bd (fun (σ4 : Sg) => bd (sI σ4 60 18 ((σ4.1 60 18) + (1 : Int32))) fun σ5 => w_X12_sum F  σ5 (fun  σ6 => w_X12_addStep r3 (0 : Int32) σ6 (fun  σ7 => Q σ7))) fun J35 => if r3 = (60 : Int32) then (J35 σ2) else (if r3 = (61 : Int32) then (J35 σ2) else (if r3 = (62 : Int32) then (J35 σ2) else (Q σ2))))))
set_option maxRecDepth 100000 in
set_option maxHeartbeats 4000000 in
theorem s_X12_compared (sx : Nat × (Nat → Int32)) (F : Sg → (Sg → Prop) → Prop) (dF : Nat) (hF : ∀ (σ : Sg) (Q : Sg → Prop), F σ Q → Ct mX12_operand dF false (0, 0) sx G0 [.ref 60] σ (qV Q)) (σ : Sg) (Q : Sg → Prop) (h : w_X12_compared F σ Q) : Ct mX12_compared (dF + 3) false (0, 0) sx G0 [.ref 60] σ (qV Q) := by
  refine Ct.of (L := [some (.ref 60), none]) (by decide) (Nat.le_of_ble_eq_true rfl) rfl ?_
  unfold w_X12_compared at h
  refine X_aload_n dX12_compared_0 rfl rfl ?_
  refine X_callVv [] [] c_X12_sum v_X12_sum lk_X12_224 dX12_compared_1 g_60 rfl rfl rfl (by omega) (Nat.le_of_ble_eq_true rfl) rfl (s_X12_sum sx F dF hF   σ _ h) (fun  σ1 h => ?_)
  refine X_aload_n dX12_compared_4 rfl rfl ?_
  refine X_callVi [] [] c_X12_look v_X12_look lk_X12_196 dX12_compared_5 g_60 rfl rfl rfl (by omega) (Nat.le_of_ble_eq_true rfl) rfl (s_X12_look sx   σ1 _ h) (fun r3 σ2 h => ?_)
  refine X_istore_n (L' := [some (.ref 60), some (.int r3)]) dX12_compared_8 rfl (by decide) rfl ?_
  refine X_aload_n dX12_compared_9 rfl rfl ?_
  refine X_get (v := .int (σ2.1 60 19)) ck_X12 f_X12_184 g_60 rfl (fun _ => rfl) dX12_compared_10 ?_
  refine X_if_ge (tgt := 34) dX12_compared_13 (by decide) h (fun h => ?_) (fun h => ?_)
  · exact X_retv rfl dX12_compared_34 h
  · refine X_iload_n dX12_compared_16 rfl rfl ?_
    refine X_bipush (v := 60) dX12_compared_17 bipush_60 ?_
    refine bd_j h (fun J35 e35 h => ?_)
    have j35 : ∀ (σ4 : Sg) , J35  σ4 → Ex mX12_compared (dF + 3) false (0, 0) sx G0 35 [some (.ref 60), some (.int r3)] [] σ4 (qV Q) := by
      intro  σ4  h
      subst e35
      replace h := h
      refine X_aload_n dX12_compared_35 rfl rfl ?_
      refine X_dup dX12_compared_36 rfl ?_
      refine X_get (v := .int (σ4.1 60 18)) ck_X12 f_X12_181 g_60 rfl (fun _ => rfl) dX12_compared_37 ?_
      refine X_iconst (v := 1) dX12_compared_40 iconst_1 ?_
      refine X_iadd dX12_compared_41 ?_
      refine X_putI ck_X12 f_X12_181 rfl g_60 rfl rfl rfl dX12_compared_42 h (fun σ5 h => ?_)
      refine X_aload_n dX12_compared_45 rfl rfl ?_
      refine X_callVv [] [] c_X12_sum v_X12_sum lk_X12_224 dX12_compared_46 g_60 rfl rfl rfl (by omega) (Nat.le_of_ble_eq_true rfl) rfl (s_X12_sum sx F dF hF   σ5 _ h) (fun  σ6 h => ?_)
      refine X_aload_n dX12_compared_49 rfl rfl ?_
      refine X_iload_n dX12_compared_50 rfl rfl ?_
      refine X_iconst (v := 0) dX12_compared_51 iconst_0 ?_
      refine X_callVv [.int r3, .int (0 : Int32)] [] c_X12_addStep v_X12_addStep lk_X12_200 dX12_compared_52 g_60 rfl rfl rfl (by omega) (Nat.le_of_ble_eq_true rfl) rfl (s_X12_addStep sx r3 (0 : Int32)  σ6 _ h) (fun  σ7 h => ?_)
      exact X_retv rfl dX12_compared_55 h
    refine X_icmp_eq (tgt := 35) dX12_compared_19 (by decide) h (fun h => ?_) (fun h => ?_)
    · exact j35 _  h
    · refine X_iload_n dX12_compared_22 rfl rfl ?_
      refine X_bipush (v := 61) dX12_compared_23 bipush_61 ?_
      refine X_icmp_eq (tgt := 35) dX12_compared_25 (by decide) h (fun h => ?_) (fun h => ?_)
      · exact j35 _  h
      · refine X_iload_n dX12_compared_28 rfl rfl ?_
        refine X_bipush (v := 62) dX12_compared_29 bipush_62 ?_
        refine X_icmp_eq (tgt := 35) dX12_compared_31 (by decide) h (fun h => ?_) (fun h => ?_)
        · exact j35 _  h
        · exact X_retv rfl dX12_compared_34 h
def w_X12_both_l4 (Q : Sg → Prop) (F : Sg → (Sg → Prop) → Prop) : Nat → Sg → Prop
  | 0, _ => False
  | n4 + 1, σ2 => if 0 ≤ (σ2.1 60 19) then (Q σ2) else (w_X12_look  σ2 (fun r4 σ3 => if r4 = (38 : Int32) then (bd (sI σ3 60 18 ((σ3.1 60 18) + (1 : Int32))) fun σ5 => w_X12_compared F  σ5 (fun  σ6 => w_X12_addStep (38 : Int32) (0 : Int32) σ6 (fun  σ7 => w_X12_both_l4 Q F n4 σ7))) else (Q σ3)))
def w_X12_both (F : Sg → (Sg → Prop) → Prop) (σ : Sg) (Q : Sg → Prop) : Prop := w_X12_compared F  σ (fun  σ1 => ∃ n, w_X12_both_l4 Q F n σ1)
set_option maxRecDepth 100000 in
set_option maxHeartbeats 4000000 in
theorem s_X12_both (sx : Nat × (Nat → Int32)) (F : Sg → (Sg → Prop) → Prop) (dF : Nat) (hF : ∀ (σ : Sg) (Q : Sg → Prop), F σ Q → Ct mX12_operand dF false (0, 0) sx G0 [.ref 60] σ (qV Q)) (σ : Sg) (Q : Sg → Prop) (h : w_X12_both F σ Q) : Ct mX12_both (dF + 4) false (0, 0) sx G0 [.ref 60] σ (qV Q) := by
  refine Ct.of (L := [some (.ref 60)]) (by decide) (Nat.le_of_ble_eq_true rfl) rfl ?_
  unfold w_X12_both at h
  refine X_aload_n dX12_both_0 rfl rfl ?_
  refine X_callVv [] [] c_X12_compared v_X12_compared lk_X12_227 dX12_both_1 g_60 rfl rfl rfl (by omega) (Nat.le_of_ble_eq_true rfl) rfl (s_X12_compared sx F dF hF   σ _ h) (fun  σ1 h => ?_)
  obtain ⟨n4, h⟩ := h
  have key4 : ∀ (n : Nat) (σ2 : Sg) , w_X12_both_l4 Q F n  σ2 → Ex mX12_both (dF + 4) false (0, 0) sx G0 4 [some (.ref 60)] [] σ2 (qV Q) := by
    intro n4
    induction n4 with
    | zero => intro _  h; exact h.elim
    | succ n4 ih4 =>
      intro  σ2  h
      unfold w_X12_both_l4 at h
      refine X_aload_n dX12_both_4 rfl rfl ?_
      refine X_get (v := .int (σ2.1 60 19)) ck_X12 f_X12_184 g_60 rfl (fun _ => rfl) dX12_both_5 ?_
      refine X_if_ge (tgt := 44) dX12_both_8 (by decide) h (fun h => ?_) (fun h => ?_)
      · exact X_retv rfl dX12_both_44 h
      · refine X_aload_n dX12_both_11 rfl rfl ?_
        refine X_callVi [] [] c_X12_look v_X12_look lk_X12_196 dX12_both_12 g_60 rfl rfl rfl (by omega) (Nat.le_of_ble_eq_true rfl) rfl (s_X12_look sx   σ2 _ h) (fun r4 σ3 h => ?_)
        refine X_bipush (v := 38) dX12_both_15 bipush_38 ?_
        refine X_icmp_ne (tgt := 44) dX12_both_17 (by decide) h (fun h => ?_) (fun h => ?_)
        · exact X_retv rfl dX12_both_44 h
        · refine X_aload_n dX12_both_20 rfl rfl ?_
          refine X_dup dX12_both_21 rfl ?_
          refine X_get (v := .int (σ3.1 60 18)) ck_X12 f_X12_181 g_60 rfl (fun _ => rfl) dX12_both_22 ?_
          refine X_iconst (v := 1) dX12_both_25 iconst_1 ?_
          refine X_iadd dX12_both_26 ?_
          refine X_putI ck_X12 f_X12_181 rfl g_60 rfl rfl rfl dX12_both_27 h (fun σ5 h => ?_)
          refine X_aload_n dX12_both_30 rfl rfl ?_
          refine X_callVv [] [] c_X12_compared v_X12_compared lk_X12_227 dX12_both_31 g_60 rfl rfl rfl (by omega) (Nat.le_of_ble_eq_true rfl) rfl (s_X12_compared sx F dF hF   σ5 _ h) (fun  σ6 h => ?_)
          refine X_aload_n dX12_both_34 rfl rfl ?_
          refine X_bipush (v := 38) dX12_both_35 bipush_38 ?_
          refine X_iconst (v := 0) dX12_both_37 iconst_0 ?_
          refine X_callVv [.int (38 : Int32), .int (0 : Int32)] [] c_X12_addStep v_X12_addStep lk_X12_200 dX12_both_38 g_60 rfl rfl rfl (by omega) (Nat.le_of_ble_eq_true rfl) rfl (s_X12_addStep sx (38 : Int32) (0 : Int32)  σ6 _ h) (fun  σ7 h => ?_)
          refine X_goto (tgt := 4) dX12_both_41 (by decide) ?_
          exact ih4 _  h
  exact key4 _ _  h
def w_X12_either_l4 (Q : Sg → Prop) (F : Sg → (Sg → Prop) → Prop) : Nat → Sg → Prop
  | 0, _ => False
  | n4 + 1, σ2 => if 0 ≤ (σ2.1 60 19) then (Q σ2) else (w_X12_look  σ2 (fun r4 σ3 => if r4 = (124 : Int32) then (bd (sI σ3 60 18 ((σ3.1 60 18) + (1 : Int32))) fun σ5 => w_X12_both F  σ5 (fun  σ6 => w_X12_addStep (124 : Int32) (0 : Int32) σ6 (fun  σ7 => w_X12_either_l4 Q F n4 σ7))) else (Q σ3)))
def w_X12_either (F : Sg → (Sg → Prop) → Prop) (σ : Sg) (Q : Sg → Prop) : Prop := w_X12_both F  σ (fun  σ1 => ∃ n, w_X12_either_l4 Q F n σ1)
set_option maxRecDepth 100000 in
set_option maxHeartbeats 4000000 in
theorem s_X12_either (sx : Nat × (Nat → Int32)) (F : Sg → (Sg → Prop) → Prop) (dF : Nat) (hF : ∀ (σ : Sg) (Q : Sg → Prop), F σ Q → Ct mX12_operand dF false (0, 0) sx G0 [.ref 60] σ (qV Q)) (σ : Sg) (Q : Sg → Prop) (h : w_X12_either F σ Q) : Ct mX12_either (dF + 5) false (0, 0) sx G0 [.ref 60] σ (qV Q) := by
  refine Ct.of (L := [some (.ref 60)]) (by decide) (Nat.le_of_ble_eq_true rfl) rfl ?_
  unfold w_X12_either at h
  refine X_aload_n dX12_either_0 rfl rfl ?_
  refine X_callVv [] [] c_X12_both v_X12_both lk_X12_230 dX12_either_1 g_60 rfl rfl rfl (by omega) (Nat.le_of_ble_eq_true rfl) rfl (s_X12_both sx F dF hF   σ _ h) (fun  σ1 h => ?_)
  obtain ⟨n4, h⟩ := h
  have key4 : ∀ (n : Nat) (σ2 : Sg) , w_X12_either_l4 Q F n  σ2 → Ex mX12_either (dF + 5) false (0, 0) sx G0 4 [some (.ref 60)] [] σ2 (qV Q) := by
    intro n4
    induction n4 with
    | zero => intro _  h; exact h.elim
    | succ n4 ih4 =>
      intro  σ2  h
      unfold w_X12_either_l4 at h
      refine X_aload_n dX12_either_4 rfl rfl ?_
      refine X_get (v := .int (σ2.1 60 19)) ck_X12 f_X12_184 g_60 rfl (fun _ => rfl) dX12_either_5 ?_
      refine X_if_ge (tgt := 44) dX12_either_8 (by decide) h (fun h => ?_) (fun h => ?_)
      · exact X_retv rfl dX12_either_44 h
      · refine X_aload_n dX12_either_11 rfl rfl ?_
        refine X_callVi [] [] c_X12_look v_X12_look lk_X12_196 dX12_either_12 g_60 rfl rfl rfl (by omega) (Nat.le_of_ble_eq_true rfl) rfl (s_X12_look sx   σ2 _ h) (fun r4 σ3 h => ?_)
        refine X_bipush (v := 124) dX12_either_15 bipush_124 ?_
        refine X_icmp_ne (tgt := 44) dX12_either_17 (by decide) h (fun h => ?_) (fun h => ?_)
        · exact X_retv rfl dX12_either_44 h
        · refine X_aload_n dX12_either_20 rfl rfl ?_
          refine X_dup dX12_either_21 rfl ?_
          refine X_get (v := .int (σ3.1 60 18)) ck_X12 f_X12_181 g_60 rfl (fun _ => rfl) dX12_either_22 ?_
          refine X_iconst (v := 1) dX12_either_25 iconst_1 ?_
          refine X_iadd dX12_either_26 ?_
          refine X_putI ck_X12 f_X12_181 rfl g_60 rfl rfl rfl dX12_either_27 h (fun σ5 h => ?_)
          refine X_aload_n dX12_either_30 rfl rfl ?_
          refine X_callVv [] [] c_X12_both v_X12_both lk_X12_230 dX12_either_31 g_60 rfl rfl rfl (by omega) (Nat.le_of_ble_eq_true rfl) rfl (s_X12_both sx F dF hF   σ5 _ h) (fun  σ6 h => ?_)
          refine X_aload_n dX12_either_34 rfl rfl ?_
          refine X_bipush (v := 124) dX12_either_35 bipush_124 ?_
          refine X_iconst (v := 0) dX12_either_37 iconst_0 ?_
          refine X_callVv [.int (124 : Int32), .int (0 : Int32)] [] c_X12_addStep v_X12_addStep lk_X12_200 dX12_either_38 g_60 rfl rfl rfl (by omega) (Nat.le_of_ble_eq_true rfl) rfl (s_X12_addStep sx (124 : Int32) (0 : Int32)  σ6 _ h) (fun  σ7 h => ?_)
          refine X_goto (tgt := 4) dX12_either_41 (by decide) ?_
          exact ih4 _  h
  exact key4 _ _  h
def w_X12_operand_b (F : Sg → (Sg → Prop) → Prop) (σ : Sg) (Q : Sg → Prop) : Prop := w_X12_look  σ (fun r2 σ1 => w_X12_nameOf r2 σ1 (fun r4 σ3 => if r4 < 0 then (bd (fun (σ5 : Sg) => w_X12_opens  σ5 (fun r7 σ6 => if r7 = 0 then (Q σ6) else (F  σ6 (fun  σ8 => bd (sI σ8 60 20 ((σ8.1 60 20) - (1 : Int32))) fun σ9 => bd (fun (x10 : Int32) (σ11 : Sg) => w_X12_addStep x10 (0 : Int32) σ11 (fun  σ12 => Q σ12)) fun J80 => if r2 = (33 : Int32) then (J80 (3 : Int32) σ9) else (J80 (4 : Int32) σ9))))) fun J46 => if r2 = (33 : Int32) then (J46 σ3) else (if r2 = (45 : Int32) then (J46 σ3) else (if r2 = (40 : Int32) then (w_X12_opens  σ3 (fun r15 σ14 => if r15 = 0 then (Q σ14) else (w_X12_either F  σ14 (fun  σ16 => if (σ16.1 60 19) < 0 then (w_X12_look  σ16 (fun r18 σ17 => if r18 = (41 : Int32) then (bd (sI σ17 60 18 ((σ17.1 60 18) + (1 : Int32))) fun σ19 => bd (sI σ19 60 20 ((σ19.1 60 20) - (1 : Int32))) fun σ20 => Q σ20) else (w_X12_wrong  σ17 (fun  σ21 => Q σ21)))) else (Q σ16))))) else (w_X12_figure  σ3 (fun  σ13 => Q σ13))))) else (w_X12_nameOf r2 σ3 (fun r23 σ22 => w_X12_addStep (2 : Int32) r23 σ22 (fun  σ24 => bd (sI σ24 60 18 ((σ24.1 60 18) + (1 : Int32))) fun σ25 => Q σ25)))))
set_option maxRecDepth 100000 in
set_option maxHeartbeats 4000000 in
theorem s_X12_operand_b (sx : Nat × (Nat → Int32)) (F : Sg → (Sg → Prop) → Prop) (dF : Nat) (hF : ∀ (σ : Sg) (Q : Sg → Prop), F σ Q → Ct mX12_operand dF false (0, 0) sx G0 [.ref 60] σ (qV Q)) (σ : Sg) (Q : Sg → Prop) (h : w_X12_operand_b F σ Q) : Ct mX12_operand (dF + 6) false (0, 0) sx G0 [.ref 60] σ (qV Q) := by
  refine Ct.of (L := [some (.ref 60), none]) (by decide) (Nat.le_of_ble_eq_true rfl) rfl ?_
  unfold w_X12_operand_b at h
  refine X_aload_n dX12_operand_0 rfl rfl ?_
  refine X_callVi [] [] c_X12_look v_X12_look lk_X12_196 dX12_operand_1 g_60 rfl rfl rfl (by omega) (Nat.le_of_ble_eq_true rfl) rfl (s_X12_look sx   σ _ h) (fun r2 σ1 h => ?_)
  refine X_istore_n (L' := [some (.ref 60), some (.int r2)]) dX12_operand_4 rfl (by decide) rfl ?_
  refine X_iload_n dX12_operand_5 rfl rfl ?_
  refine X_callSi [.int r2] [] c_X12_nameOf t_X12_nameOf lk_X12_204 dX12_operand_6 rfl (by omega) (Nat.le_of_ble_eq_true rfl) rfl (s_X12_nameOf sx r2  σ1 _ h) (fun r4 σ3 h => ?_)
  refine X_if_lt (tgt := 34) dX12_operand_9 (by decide) h (fun h => ?_) (fun h => ?_)
  · refine X_iload_n dX12_operand_34 rfl rfl ?_
    refine X_bipush (v := 33) dX12_operand_35 bipush_33 ?_
    refine bd_j h (fun J46 e46 h => ?_)
    have j46 : ∀ (σ5 : Sg) , J46  σ5 → Ex mX12_operand (dF + 6) false (0, 0) sx G0 46 [some (.ref 60), some (.int r2)] [] σ5 (qV Q) := by
      intro  σ5  h
      subst e46
      replace h := h
      refine X_aload_n dX12_operand_46 rfl rfl ?_
      refine X_callVi [] [] c_X12_opens v_X12_opens lk_X12_208 dX12_operand_47 g_60 rfl rfl rfl (by omega) (Nat.le_of_ble_eq_true rfl) rfl (s_X12_opens sx   σ5 _ h) (fun r7 σ6 h => ?_)
      refine X_if_ne (tgt := 54) dX12_operand_50 (by decide) h (fun h => ?_) (fun h => ?_)
      · refine X_aload_n dX12_operand_54 rfl rfl ?_
        refine X_callVv [] [] c_X12_operand v_X12_operand lk_X12_212 dX12_operand_55 g_60 rfl rfl rfl (by omega) (Nat.le_of_ble_eq_true rfl) rfl (hF   σ6 _ h) (fun  σ8 h => ?_)
        refine X_aload_n dX12_operand_58 rfl rfl ?_
        refine X_dup dX12_operand_59 rfl ?_
        refine X_get (v := .int (σ8.1 60 20)) ck_X12 f_X12_190 g_60 rfl (fun _ => rfl) dX12_operand_60 ?_
        refine X_iconst (v := 1) dX12_operand_63 iconst_1 ?_
        refine X_isub dX12_operand_64 ?_
        refine X_putI ck_X12 f_X12_190 rfl g_60 rfl rfl rfl dX12_operand_65 h (fun σ9 h => ?_)
        refine X_aload_n dX12_operand_68 rfl rfl ?_
        refine X_iload_n dX12_operand_69 rfl rfl ?_
        refine X_bipush (v := 33) dX12_operand_70 bipush_33 ?_
        refine bd_j h (fun J80 e80 h => ?_)
        have j80 : ∀ (x10 : Int32) (σ11 : Sg) , J80 x10 σ11 → Ex mX12_operand (dF + 6) false (0, 0) sx G0 80 [none, none] [.int x10, .ref 60] σ11 (qV Q) := by
          intro x10 σ11  h
          subst e80
          replace h := h
          refine X_iconst (v := 0) dX12_operand_80 iconst_0 ?_
          refine X_callVv [.int x10, .int (0 : Int32)] [] c_X12_addStep v_X12_addStep lk_X12_200 dX12_operand_81 g_60 rfl rfl rfl (by omega) (Nat.le_of_ble_eq_true rfl) rfl (s_X12_addStep sx x10 (0 : Int32)  σ11 _ h) (fun  σ12 h => ?_)
          refine X_goto (tgt := 154) dX12_operand_84 (by decide) ?_
          exact X_retv rfl dX12_operand_154 h
        refine X_icmp_ne (tgt := 79) dX12_operand_72 (by decide) h (fun h => ?_) (fun h => ?_)
        · refine X_iconst (v := 4) dX12_operand_79 iconst_4 ?_
          refine X_drop (L' := [none, none]) trivial ?_
          exact j80 _ _  h
        · refine X_iconst (v := 3) dX12_operand_75 iconst_3 ?_
          refine X_goto (tgt := 80) dX12_operand_76 (by decide) ?_
          refine X_drop (L' := [none, none]) trivial ?_
          exact j80 _ _  h
      · exact X_retv rfl dX12_operand_53 h
    refine X_icmp_eq (tgt := 46) dX12_operand_37 (by decide) h (fun h => ?_) (fun h => ?_)
    · exact j46 _  h
    · refine X_iload_n dX12_operand_40 rfl rfl ?_
      refine X_bipush (v := 45) dX12_operand_41 bipush_45 ?_
      refine X_icmp_ne (tgt := 87) dX12_operand_43 (by decide) h (fun h => ?_) (fun h => ?_)
      · refine X_iload_n dX12_operand_87 rfl rfl ?_
        refine X_bipush (v := 40) dX12_operand_88 bipush_40 ?_
        refine X_icmp_ne (tgt := 150) dX12_operand_90 (by decide) h (fun h => ?_) (fun h => ?_)
        · refine X_aload_n dX12_operand_150 rfl rfl ?_
          refine X_callVv [] [] c_X12_figure v_X12_figure lk_X12_218 dX12_operand_151 g_60 rfl rfl rfl (by omega) (Nat.le_of_ble_eq_true rfl) rfl (s_X12_figure sx   σ3 _ h) (fun  σ13 h => ?_)
          exact X_retv rfl dX12_operand_154 h
        · refine X_aload_n dX12_operand_93 rfl rfl ?_
          refine X_callVi [] [] c_X12_opens v_X12_opens lk_X12_208 dX12_operand_94 g_60 rfl rfl rfl (by omega) (Nat.le_of_ble_eq_true rfl) rfl (s_X12_opens sx   σ3 _ h) (fun r15 σ14 h => ?_)
          refine X_if_ne (tgt := 101) dX12_operand_97 (by decide) h (fun h => ?_) (fun h => ?_)
          · refine X_aload_n dX12_operand_101 rfl rfl ?_
            refine X_callVv [] [] c_X12_either v_X12_either lk_X12_215 dX12_operand_102 g_60 rfl rfl rfl (by omega) (Nat.le_of_ble_eq_true rfl) rfl (s_X12_either sx F dF hF   σ14 _ h) (fun  σ16 h => ?_)
            refine X_aload_n dX12_operand_105 rfl rfl ?_
            refine X_get (v := .int (σ16.1 60 19)) ck_X12 f_X12_184 g_60 rfl (fun _ => rfl) dX12_operand_106 ?_
            refine X_if_lt (tgt := 113) dX12_operand_109 (by decide) h (fun h => ?_) (fun h => ?_)
            · refine X_aload_n dX12_operand_113 rfl rfl ?_
              refine X_callVi [] [] c_X12_look v_X12_look lk_X12_196 dX12_operand_114 g_60 rfl rfl rfl (by omega) (Nat.le_of_ble_eq_true rfl) rfl (s_X12_look sx   σ16 _ h) (fun r18 σ17 h => ?_)
              refine X_bipush (v := 41) dX12_operand_117 bipush_41 ?_
              refine X_icmp_eq (tgt := 127) dX12_operand_119 (by decide) h (fun h => ?_) (fun h => ?_)
              · refine X_aload_n dX12_operand_127 rfl rfl ?_
                refine X_dup dX12_operand_128 rfl ?_
                refine X_get (v := .int (σ17.1 60 18)) ck_X12 f_X12_181 g_60 rfl (fun _ => rfl) dX12_operand_129 ?_
                refine X_iconst (v := 1) dX12_operand_132 iconst_1 ?_
                refine X_iadd dX12_operand_133 ?_
                refine X_putI ck_X12 f_X12_181 rfl g_60 rfl rfl rfl dX12_operand_134 h (fun σ19 h => ?_)
                refine X_aload_n dX12_operand_137 rfl rfl ?_
                refine X_dup dX12_operand_138 rfl ?_
                refine X_get (v := .int (σ19.1 60 20)) ck_X12 f_X12_190 g_60 rfl (fun _ => rfl) dX12_operand_139 ?_
                refine X_iconst (v := 1) dX12_operand_142 iconst_1 ?_
                refine X_isub dX12_operand_143 ?_
                refine X_putI ck_X12 f_X12_190 rfl g_60 rfl rfl rfl dX12_operand_144 h (fun σ20 h => ?_)
                refine X_goto (tgt := 154) dX12_operand_147 (by decide) ?_
                exact X_retv rfl dX12_operand_154 h
              · refine X_aload_n dX12_operand_122 rfl rfl ?_
                refine X_callVv [] [] c_X12_wrong v_X12_wrong lk_X12_193 dX12_operand_123 g_60 rfl rfl rfl (by omega) (Nat.le_of_ble_eq_true rfl) rfl (s_X12_wrong sx   σ17 _ h) (fun  σ21 h => ?_)
                exact X_retv rfl dX12_operand_126 h
            · exact X_retv rfl dX12_operand_112 h
          · exact X_retv rfl dX12_operand_100 h
      · exact j46 _  h
  · refine X_aload_n dX12_operand_12 rfl rfl ?_
    refine X_iconst (v := 2) dX12_operand_13 iconst_2 ?_
    refine X_iload_n dX12_operand_14 rfl rfl ?_
    refine X_callSi [.int r2] [.int (2 : Int32), .ref 60] c_X12_nameOf t_X12_nameOf lk_X12_204 dX12_operand_15 rfl (by omega) (Nat.le_of_ble_eq_true rfl) rfl (s_X12_nameOf sx r2  σ3 _ h) (fun r23 σ22 h => ?_)
    refine X_callVv [.int (2 : Int32), .int r23] [] c_X12_addStep v_X12_addStep lk_X12_200 dX12_operand_18 g_60 rfl rfl rfl (by omega) (Nat.le_of_ble_eq_true rfl) rfl (s_X12_addStep sx (2 : Int32) r23  σ22 _ h) (fun  σ24 h => ?_)
    refine X_aload_n dX12_operand_21 rfl rfl ?_
    refine X_dup dX12_operand_22 rfl ?_
    refine X_get (v := .int (σ24.1 60 18)) ck_X12 f_X12_181 g_60 rfl (fun _ => rfl) dX12_operand_23 ?_
    refine X_iconst (v := 1) dX12_operand_26 iconst_1 ?_
    refine X_iadd dX12_operand_27 ?_
    refine X_putI ck_X12 f_X12_181 rfl g_60 rfl rfl rfl dX12_operand_28 h (fun σ25 h => ?_)
    refine X_goto (tgt := 154) dX12_operand_31 (by decide) ?_
    exact X_retv rfl dX12_operand_154 h
def w_X12_operand : Nat → Sg → (Sg → Prop) → Prop
  | 0 => fun _ _ => False
  | n + 1 => w_X12_operand_b (w_X12_operand n)
theorem s_X12_operand (sx : Nat × (Nat → Int32)) (n : Nat) : ∀ (σ : Sg) (Q : Sg → Prop), w_X12_operand n σ Q → Ct mX12_operand (n * 6) false (0, 0) sx G0 [.ref 60] σ (qV Q) := by
  induction n with
  | zero => intro  σ Q h; exact h.elim
  | succ n ih =>
    intro  σ Q h
    rw [show (n + 1) * 6 = n * 6 + 6 by omega]
    exact s_X12_operand_b sx (w_X12_operand n) (n * 6) ih  σ Q h
def w_X0_own (F : Int32 → Int32 → Int32 → Int32 → Sg → (Int32 → Sg → Prop) → Prop) (a0 : Int32) (b0 : Int32) (c0 : Int32) (σ : Sg) (Q : Int32 → Sg → Prop) : Prop := w_X0_kindOf (σ.1 57 4) σ (fun r2 σ1 => F r2 a0 b0 c0 σ1 (fun r4 σ3 => Q r4 σ3))
set_option maxRecDepth 100000 in
set_option maxHeartbeats 4000000 in
theorem s_X0_own (sx : Nat × (Nat → Int32)) (F : Int32 → Int32 → Int32 → Int32 → Sg → (Int32 → Sg → Prop) → Prop) (dF : Nat) (hF : ∀ (a0 : Int32) (b0 : Int32) (c0 : Int32) (d0 : Int32) (σ : Sg) (Q : Int32 → Sg → Prop), F a0 b0 c0 d0 σ Q → Ct mX0_run dF false (0, 0) sx G0 [.ref 57, .int a0, .int b0, .int c0, .int d0] σ (qI Q)) (a0 : Int32) (b0 : Int32) (c0 : Int32) (σ : Sg) (Q : Int32 → Sg → Prop) (h : w_X0_own F a0 b0 c0 σ Q) : Ct mX0_own (dF + 2) false (0, 0) sx G0 [.ref 57, .int a0, .int b0, .int c0] σ (qI Q) := by
  refine Ct.of (L := [some (.ref 57), some (.int a0), some (.int b0), some (.int c0)]) (by decide) (Nat.le_of_ble_eq_true rfl) rfl ?_
  unfold w_X0_own at h
  refine X_aload_n dX0_own_0 rfl rfl ?_
  refine X_aload_n dX0_own_1 rfl rfl ?_
  refine X_aload_n dX0_own_2 rfl rfl ?_
  refine X_get (v := .int (σ.1 57 4)) ck_X0 f_X0_36 g_57 rfl (fun _ => rfl) dX0_own_3 ?_
  refine X_callVi [.int (σ.1 57 4)] [.ref 57] c_X0_kindOf v_X0_kindOf lk_X0_43 dX0_own_6 g_57 rfl rfl rfl (by omega) (Nat.le_of_ble_eq_true rfl) rfl (s_X0_kindOf sx (σ.1 57 4)  σ _ h) (fun r2 σ1 h => ?_)
  refine X_iload_n dX0_own_9 rfl rfl ?_
  refine X_iload_n dX0_own_10 rfl rfl ?_
  refine X_iload_n dX0_own_11 rfl rfl ?_
  refine X_callVi [.int r2, .int a0, .int b0, .int c0] [] c_X0_run v_X0_run lk_X0_47 dX0_own_12 g_57 rfl rfl rfl (by omega) (Nat.le_of_ble_eq_true rfl) rfl (hF r2 a0 b0 c0  σ1 _ h) (fun r4 σ3 h => ?_)
  exact X_reti rfl dX0_own_15 h
def w_X0_first (F : Int32 → Int32 → Int32 → Int32 → Sg → (Int32 → Sg → Prop) → Prop) (a0 : Int32) (b0 : Int32) (c0 : Int32) (σ : Sg) (Q : Int32 → Sg → Prop) : Prop := if a0 = (1 : Int32) then (Q (b0 + (σ.1 57 4)) σ) else (if a0 = (2 : Int32) then (w_X0_own F (1 : Int32) b0 c0 σ (fun r2 σ1 => w_X0_own F (2 : Int32) (1 : Int32) c0 σ1 (fun r4 σ3 => Q (r2 - r4) σ3))) else (if a0 = (10 : Int32) then (w_X0_own F (0 : Int32) b0 c0 σ (fun r6 σ5 => Q (r6 * (2 : Int32)) σ5)) else (if a0 = (11 : Int32) then (Q (b0 ^^^ (σ.1 57 4)) σ) else (Q (0 : Int32) σ))))
set_option maxRecDepth 100000 in
set_option maxHeartbeats 4000000 in
theorem s_X0_first (sx : Nat × (Nat → Int32)) (F : Int32 → Int32 → Int32 → Int32 → Sg → (Int32 → Sg → Prop) → Prop) (dF : Nat) (hF : ∀ (a0 : Int32) (b0 : Int32) (c0 : Int32) (d0 : Int32) (σ : Sg) (Q : Int32 → Sg → Prop), F a0 b0 c0 d0 σ Q → Ct mX0_run dF false (0, 0) sx G0 [.ref 57, .int a0, .int b0, .int c0, .int d0] σ (qI Q)) (a0 : Int32) (b0 : Int32) (c0 : Int32) (σ : Sg) (Q : Int32 → Sg → Prop) (h : w_X0_first F a0 b0 c0 σ Q) : Ct mX0_first (dF + 3) false (0, 0) sx G0 [.ref 57, .int a0, .int b0, .int c0] σ (qI Q) := by
  refine Ct.of (L := [some (.ref 57), some (.int a0), some (.int b0), some (.int c0)]) (by decide) (Nat.le_of_ble_eq_true rfl) rfl ?_
  unfold w_X0_first at h
  refine X_iload_n dX0_first_0 rfl rfl ?_
  by_cases hc1_1 : a0 = (1 : Int32)
  · replace h := if_t h hc1_1
    refine X_lookup (tgt := 44) dX0_first_1 (by decide) (by rw [hc1_1] <;> decide) (by decide) ?_
    refine X_iload_n dX0_first_44 rfl rfl ?_
    refine X_aload_n dX0_first_45 rfl rfl ?_
    refine X_get (v := .int (σ.1 57 4)) ck_X0 f_X0_36 g_57 rfl (fun _ => rfl) dX0_first_46 ?_
    refine X_iadd dX0_first_49 ?_
    exact X_reti rfl dX0_first_50 h
  replace h := if_f h hc1_1
  by_cases hc1_2 : a0 = (2 : Int32)
  · replace h := if_t h hc1_2
    refine X_lookup (tgt := 68) dX0_first_1 (by decide) (by rw [hc1_2] <;> decide) (by decide) ?_
    refine X_aload_n dX0_first_68 rfl rfl ?_
    refine X_iconst (v := 1) dX0_first_69 iconst_1 ?_
    refine X_iload_n dX0_first_70 rfl rfl ?_
    refine X_iload_n dX0_first_71 rfl rfl ?_
    refine X_callVi [.int (1 : Int32), .int b0, .int c0] [] c_X0_own v_X0_own lk_X0_39 dX0_first_72 g_57 rfl rfl rfl (by omega) (Nat.le_of_ble_eq_true rfl) rfl (s_X0_own sx F dF hF (1 : Int32) b0 c0  σ _ h) (fun r2 σ1 h => ?_)
    refine X_aload_n dX0_first_75 rfl rfl ?_
    refine X_iconst (v := 2) dX0_first_76 iconst_2 ?_
    refine X_iconst (v := 1) dX0_first_77 iconst_1 ?_
    refine X_iload_n dX0_first_78 rfl rfl ?_
    refine X_callVi [.int (2 : Int32), .int (1 : Int32), .int c0] [.int r2] c_X0_own v_X0_own lk_X0_39 dX0_first_79 g_57 rfl rfl rfl (by omega) (Nat.le_of_ble_eq_true rfl) rfl (s_X0_own sx F dF hF (2 : Int32) (1 : Int32) c0  σ1 _ h) (fun r4 σ3 h => ?_)
    refine X_isub dX0_first_82 ?_
    exact X_reti rfl dX0_first_83 h
  replace h := if_f h hc1_2
  by_cases hc1_10 : a0 = (10 : Int32)
  · replace h := if_t h hc1_10
    refine X_lookup (tgt := 51) dX0_first_1 (by decide) (by rw [hc1_10] <;> decide) (by decide) ?_
    refine X_aload_n dX0_first_51 rfl rfl ?_
    refine X_iconst (v := 0) dX0_first_52 iconst_0 ?_
    refine X_iload_n dX0_first_53 rfl rfl ?_
    refine X_iload_n dX0_first_54 rfl rfl ?_
    refine X_callVi [.int (0 : Int32), .int b0, .int c0] [] c_X0_own v_X0_own lk_X0_39 dX0_first_55 g_57 rfl rfl rfl (by omega) (Nat.le_of_ble_eq_true rfl) rfl (s_X0_own sx F dF hF (0 : Int32) b0 c0  σ _ h) (fun r6 σ5 h => ?_)
    refine X_iconst (v := 2) dX0_first_58 iconst_2 ?_
    refine X_imul dX0_first_59 ?_
    exact X_reti rfl dX0_first_60 h
  replace h := if_f h hc1_10
  by_cases hc1_11 : a0 = (11 : Int32)
  · replace h := if_t h hc1_11
    refine X_lookup (tgt := 61) dX0_first_1 (by decide) (by rw [hc1_11] <;> decide) (by decide) ?_
    refine X_iload_n dX0_first_61 rfl rfl ?_
    refine X_aload_n dX0_first_62 rfl rfl ?_
    refine X_get (v := .int (σ.1 57 4)) ck_X0 f_X0_36 g_57 rfl (fun _ => rfl) dX0_first_63 ?_
    refine X_ixor dX0_first_66 ?_
    exact X_reti rfl dX0_first_67 h
  replace h := if_f h hc1_11
  refine X_lookup (tgt := 84) dX0_first_1 (by decide) (lk_out (by intro q hq; simp only [List.mem_cons, List.not_mem_nil, or_false] at hq; rcases hq with rfl | rfl | rfl | rfl <;> first | exact ne_toInt hc1_1 | exact ne_toInt hc1_2 | exact ne_toInt hc1_10 | exact ne_toInt hc1_11)) (by decide) ?_
  refine X_iconst (v := 0) dX0_first_84 iconst_0 ?_
  exact X_reti rfl dX0_first_85 h
def w_X0_inherited (F : Int32 → Int32 → Int32 → Int32 → Sg → (Int32 → Sg → Prop) → Prop) (a0 : Int32) (b0 : Int32) (c0 : Int32) (d0 : Int32) (σ : Sg) (Q : Int32 → Sg → Prop) : Prop := if a0 = (20 : Int32) then (F b0 (0 : Int32) c0 d0 σ (fun r2 σ1 => Q (r2 + (3 : Int32)) σ1)) else (if a0 = (30 : Int32) then (F b0 (1 : Int32) c0 d0 σ (fun r4 σ3 => Q (-r4) σ3)) else (if a0 = (40 : Int32) then (F b0 (2 : Int32) c0 d0 σ (fun r6 σ5 => Q (r6 * (3 : Int32)) σ5)) else (if a0 = (41 : Int32) then (F b0 (1 : Int32) (c0 + (1 : Int32)) d0 σ (fun r8 σ7 => Q r8 σ7)) else (if a0 = (50 : Int32) then (F b0 (3 : Int32) c0 d0 σ (fun r10 σ9 => Q (r10 ^^^ (5 : Int32)) σ9)) else (if a0 = (60 : Int32) then (F b0 (2 : Int32) c0 d0 σ (fun r12 σ11 => w_X0_own F (0 : Int32) (2 : Int32) d0 σ11 (fun r14 σ13 => Q (r12 - r14) σ13))) else (if a0 = (61 : Int32) then (F b0 (3 : Int32) c0 d0 σ (fun r16 σ15 => Q (r16 + (1 : Int32)) σ15)) else (if a0 = (70 : Int32) then (F b0 (0 : Int32) c0 d0 σ (fun r18 σ17 => Q (r18 * (2 : Int32)) σ17)) else (if a0 = (80 : Int32) then (F b0 (1 : Int32) c0 d0 σ (fun r20 σ19 => w_X0_own F (2 : Int32) (2 : Int32) d0 σ19 (fun r22 σ21 => Q (r20 + r22) σ21))) else (if a0 = (81 : Int32) then (F b0 (0 : Int32) c0 d0 σ (fun r24 σ23 => Q (r24 - (1 : Int32)) σ23)) else (Q (0 : Int32) σ))))))))))
set_option maxRecDepth 100000 in
set_option maxHeartbeats 4000000 in
theorem s_X0_inherited (sx : Nat × (Nat → Int32)) (F : Int32 → Int32 → Int32 → Int32 → Sg → (Int32 → Sg → Prop) → Prop) (dF : Nat) (hF : ∀ (a0 : Int32) (b0 : Int32) (c0 : Int32) (d0 : Int32) (σ : Sg) (Q : Int32 → Sg → Prop), F a0 b0 c0 d0 σ Q → Ct mX0_run dF false (0, 0) sx G0 [.ref 57, .int a0, .int b0, .int c0, .int d0] σ (qI Q)) (a0 : Int32) (b0 : Int32) (c0 : Int32) (d0 : Int32) (σ : Sg) (Q : Int32 → Sg → Prop) (h : w_X0_inherited F a0 b0 c0 d0 σ Q) : Ct mX0_inherited (dF + 3) false (0, 0) sx G0 [.ref 57, .int a0, .int b0, .int c0, .int d0] σ (qI Q) := by
  refine Ct.of (L := [some (.ref 57), some (.int a0), some (.int b0), some (.int c0), some (.int d0)]) (by decide) (Nat.le_of_ble_eq_true rfl) rfl ?_
  unfold w_X0_inherited at h
  refine X_iload_n dX0_inherited_0 rfl rfl ?_
  by_cases hc1_20 : a0 = (20 : Int32)
  · replace h := if_t h hc1_20
    refine X_lookup (tgt := 92) dX0_inherited_1 (by decide) (by rw [hc1_20] <;> decide) (by decide) ?_
    refine X_aload_n dX0_inherited_92 rfl rfl ?_
    refine X_iload_n dX0_inherited_93 rfl rfl ?_
    refine X_iconst (v := 0) dX0_inherited_94 iconst_0 ?_
    refine X_iload_n dX0_inherited_95 rfl rfl ?_
    refine X_iload dX0_inherited_96 rfl ?_
    refine X_callVi [.int b0, .int (0 : Int32), .int c0, .int d0] [] c_X0_run v_X0_run lk_X0_47 dX0_inherited_98 g_57 rfl rfl rfl (by omega) (Nat.le_of_ble_eq_true rfl) rfl (hF b0 (0 : Int32) c0 d0  σ _ h) (fun r2 σ1 h => ?_)
    refine X_iconst (v := 3) dX0_inherited_101 iconst_3 ?_
    refine X_iadd dX0_inherited_102 ?_
    exact X_reti rfl dX0_inherited_103 h
  replace h := if_f h hc1_20
  by_cases hc1_30 : a0 = (30 : Int32)
  · replace h := if_t h hc1_30
    refine X_lookup (tgt := 104) dX0_inherited_1 (by decide) (by rw [hc1_30] <;> decide) (by decide) ?_
    refine X_aload_n dX0_inherited_104 rfl rfl ?_
    refine X_iload_n dX0_inherited_105 rfl rfl ?_
    refine X_iconst (v := 1) dX0_inherited_106 iconst_1 ?_
    refine X_iload_n dX0_inherited_107 rfl rfl ?_
    refine X_iload dX0_inherited_108 rfl ?_
    refine X_callVi [.int b0, .int (1 : Int32), .int c0, .int d0] [] c_X0_run v_X0_run lk_X0_47 dX0_inherited_110 g_57 rfl rfl rfl (by omega) (Nat.le_of_ble_eq_true rfl) rfl (hF b0 (1 : Int32) c0 d0  σ _ h) (fun r4 σ3 h => ?_)
    refine X_ineg dX0_inherited_113 ?_
    exact X_reti rfl dX0_inherited_114 h
  replace h := if_f h hc1_30
  by_cases hc1_40 : a0 = (40 : Int32)
  · replace h := if_t h hc1_40
    refine X_lookup (tgt := 115) dX0_inherited_1 (by decide) (by rw [hc1_40] <;> decide) (by decide) ?_
    refine X_aload_n dX0_inherited_115 rfl rfl ?_
    refine X_iload_n dX0_inherited_116 rfl rfl ?_
    refine X_iconst (v := 2) dX0_inherited_117 iconst_2 ?_
    refine X_iload_n dX0_inherited_118 rfl rfl ?_
    refine X_iload dX0_inherited_119 rfl ?_
    refine X_callVi [.int b0, .int (2 : Int32), .int c0, .int d0] [] c_X0_run v_X0_run lk_X0_47 dX0_inherited_121 g_57 rfl rfl rfl (by omega) (Nat.le_of_ble_eq_true rfl) rfl (hF b0 (2 : Int32) c0 d0  σ _ h) (fun r6 σ5 h => ?_)
    refine X_iconst (v := 3) dX0_inherited_124 iconst_3 ?_
    refine X_imul dX0_inherited_125 ?_
    exact X_reti rfl dX0_inherited_126 h
  replace h := if_f h hc1_40
  by_cases hc1_41 : a0 = (41 : Int32)
  · replace h := if_t h hc1_41
    refine X_lookup (tgt := 127) dX0_inherited_1 (by decide) (by rw [hc1_41] <;> decide) (by decide) ?_
    refine X_aload_n dX0_inherited_127 rfl rfl ?_
    refine X_iload_n dX0_inherited_128 rfl rfl ?_
    refine X_iconst (v := 1) dX0_inherited_129 iconst_1 ?_
    refine X_iload_n dX0_inherited_130 rfl rfl ?_
    refine X_iconst (v := 1) dX0_inherited_131 iconst_1 ?_
    refine X_iadd dX0_inherited_132 ?_
    refine X_iload dX0_inherited_133 rfl ?_
    refine X_callVi [.int b0, .int (1 : Int32), .int (c0 + (1 : Int32)), .int d0] [] c_X0_run v_X0_run lk_X0_47 dX0_inherited_135 g_57 rfl rfl rfl (by omega) (Nat.le_of_ble_eq_true rfl) rfl (hF b0 (1 : Int32) (c0 + (1 : Int32)) d0  σ _ h) (fun r8 σ7 h => ?_)
    exact X_reti rfl dX0_inherited_138 h
  replace h := if_f h hc1_41
  by_cases hc1_50 : a0 = (50 : Int32)
  · replace h := if_t h hc1_50
    refine X_lookup (tgt := 139) dX0_inherited_1 (by decide) (by rw [hc1_50] <;> decide) (by decide) ?_
    refine X_aload_n dX0_inherited_139 rfl rfl ?_
    refine X_iload_n dX0_inherited_140 rfl rfl ?_
    refine X_iconst (v := 3) dX0_inherited_141 iconst_3 ?_
    refine X_iload_n dX0_inherited_142 rfl rfl ?_
    refine X_iload dX0_inherited_143 rfl ?_
    refine X_callVi [.int b0, .int (3 : Int32), .int c0, .int d0] [] c_X0_run v_X0_run lk_X0_47 dX0_inherited_145 g_57 rfl rfl rfl (by omega) (Nat.le_of_ble_eq_true rfl) rfl (hF b0 (3 : Int32) c0 d0  σ _ h) (fun r10 σ9 h => ?_)
    refine X_iconst (v := 5) dX0_inherited_148 iconst_5 ?_
    refine X_ixor dX0_inherited_149 ?_
    exact X_reti rfl dX0_inherited_150 h
  replace h := if_f h hc1_50
  by_cases hc1_60 : a0 = (60 : Int32)
  · replace h := if_t h hc1_60
    refine X_lookup (tgt := 151) dX0_inherited_1 (by decide) (by rw [hc1_60] <;> decide) (by decide) ?_
    refine X_aload_n dX0_inherited_151 rfl rfl ?_
    refine X_iload_n dX0_inherited_152 rfl rfl ?_
    refine X_iconst (v := 2) dX0_inherited_153 iconst_2 ?_
    refine X_iload_n dX0_inherited_154 rfl rfl ?_
    refine X_iload dX0_inherited_155 rfl ?_
    refine X_callVi [.int b0, .int (2 : Int32), .int c0, .int d0] [] c_X0_run v_X0_run lk_X0_47 dX0_inherited_157 g_57 rfl rfl rfl (by omega) (Nat.le_of_ble_eq_true rfl) rfl (hF b0 (2 : Int32) c0 d0  σ _ h) (fun r12 σ11 h => ?_)
    refine X_aload_n dX0_inherited_160 rfl rfl ?_
    refine X_iconst (v := 0) dX0_inherited_161 iconst_0 ?_
    refine X_iconst (v := 2) dX0_inherited_162 iconst_2 ?_
    refine X_iload dX0_inherited_163 rfl ?_
    refine X_callVi [.int (0 : Int32), .int (2 : Int32), .int d0] [.int r12] c_X0_own v_X0_own lk_X0_39 dX0_inherited_165 g_57 rfl rfl rfl (by omega) (Nat.le_of_ble_eq_true rfl) rfl (s_X0_own sx F dF hF (0 : Int32) (2 : Int32) d0  σ11 _ h) (fun r14 σ13 h => ?_)
    refine X_isub dX0_inherited_168 ?_
    exact X_reti rfl dX0_inherited_169 h
  replace h := if_f h hc1_60
  by_cases hc1_61 : a0 = (61 : Int32)
  · replace h := if_t h hc1_61
    refine X_lookup (tgt := 170) dX0_inherited_1 (by decide) (by rw [hc1_61] <;> decide) (by decide) ?_
    refine X_aload_n dX0_inherited_170 rfl rfl ?_
    refine X_iload_n dX0_inherited_171 rfl rfl ?_
    refine X_iconst (v := 3) dX0_inherited_172 iconst_3 ?_
    refine X_iload_n dX0_inherited_173 rfl rfl ?_
    refine X_iload dX0_inherited_174 rfl ?_
    refine X_callVi [.int b0, .int (3 : Int32), .int c0, .int d0] [] c_X0_run v_X0_run lk_X0_47 dX0_inherited_176 g_57 rfl rfl rfl (by omega) (Nat.le_of_ble_eq_true rfl) rfl (hF b0 (3 : Int32) c0 d0  σ _ h) (fun r16 σ15 h => ?_)
    refine X_iconst (v := 1) dX0_inherited_179 iconst_1 ?_
    refine X_iadd dX0_inherited_180 ?_
    exact X_reti rfl dX0_inherited_181 h
  replace h := if_f h hc1_61
  by_cases hc1_70 : a0 = (70 : Int32)
  · replace h := if_t h hc1_70
    refine X_lookup (tgt := 182) dX0_inherited_1 (by decide) (by rw [hc1_70] <;> decide) (by decide) ?_
    refine X_aload_n dX0_inherited_182 rfl rfl ?_
    refine X_iload_n dX0_inherited_183 rfl rfl ?_
    refine X_iconst (v := 0) dX0_inherited_184 iconst_0 ?_
    refine X_iload_n dX0_inherited_185 rfl rfl ?_
    refine X_iload dX0_inherited_186 rfl ?_
    refine X_callVi [.int b0, .int (0 : Int32), .int c0, .int d0] [] c_X0_run v_X0_run lk_X0_47 dX0_inherited_188 g_57 rfl rfl rfl (by omega) (Nat.le_of_ble_eq_true rfl) rfl (hF b0 (0 : Int32) c0 d0  σ _ h) (fun r18 σ17 h => ?_)
    refine X_iconst (v := 2) dX0_inherited_191 iconst_2 ?_
    refine X_imul dX0_inherited_192 ?_
    exact X_reti rfl dX0_inherited_193 h
  replace h := if_f h hc1_70
  by_cases hc1_80 : a0 = (80 : Int32)
  · replace h := if_t h hc1_80
    refine X_lookup (tgt := 194) dX0_inherited_1 (by decide) (by rw [hc1_80] <;> decide) (by decide) ?_
    refine X_aload_n dX0_inherited_194 rfl rfl ?_
    refine X_iload_n dX0_inherited_195 rfl rfl ?_
    refine X_iconst (v := 1) dX0_inherited_196 iconst_1 ?_
    refine X_iload_n dX0_inherited_197 rfl rfl ?_
    refine X_iload dX0_inherited_198 rfl ?_
    refine X_callVi [.int b0, .int (1 : Int32), .int c0, .int d0] [] c_X0_run v_X0_run lk_X0_47 dX0_inherited_200 g_57 rfl rfl rfl (by omega) (Nat.le_of_ble_eq_true rfl) rfl (hF b0 (1 : Int32) c0 d0  σ _ h) (fun r20 σ19 h => ?_)
    refine X_aload_n dX0_inherited_203 rfl rfl ?_
    refine X_iconst (v := 2) dX0_inherited_204 iconst_2 ?_
    refine X_iconst (v := 2) dX0_inherited_205 iconst_2 ?_
    refine X_iload dX0_inherited_206 rfl ?_
    refine X_callVi [.int (2 : Int32), .int (2 : Int32), .int d0] [.int r20] c_X0_own v_X0_own lk_X0_39 dX0_inherited_208 g_57 rfl rfl rfl (by omega) (Nat.le_of_ble_eq_true rfl) rfl (s_X0_own sx F dF hF (2 : Int32) (2 : Int32) d0  σ19 _ h) (fun r22 σ21 h => ?_)
    refine X_iadd dX0_inherited_211 ?_
    exact X_reti rfl dX0_inherited_212 h
  replace h := if_f h hc1_80
  by_cases hc1_81 : a0 = (81 : Int32)
  · replace h := if_t h hc1_81
    refine X_lookup (tgt := 213) dX0_inherited_1 (by decide) (by rw [hc1_81] <;> decide) (by decide) ?_
    refine X_aload_n dX0_inherited_213 rfl rfl ?_
    refine X_iload_n dX0_inherited_214 rfl rfl ?_
    refine X_iconst (v := 0) dX0_inherited_215 iconst_0 ?_
    refine X_iload_n dX0_inherited_216 rfl rfl ?_
    refine X_iload dX0_inherited_217 rfl ?_
    refine X_callVi [.int b0, .int (0 : Int32), .int c0, .int d0] [] c_X0_run v_X0_run lk_X0_47 dX0_inherited_219 g_57 rfl rfl rfl (by omega) (Nat.le_of_ble_eq_true rfl) rfl (hF b0 (0 : Int32) c0 d0  σ _ h) (fun r24 σ23 h => ?_)
    refine X_iconst (v := 1) dX0_inherited_222 iconst_1 ?_
    refine X_isub dX0_inherited_223 ?_
    exact X_reti rfl dX0_inherited_224 h
  replace h := if_f h hc1_81
  refine X_lookup (tgt := 225) dX0_inherited_1 (by decide) (lk_out (by intro q hq; simp only [List.mem_cons, List.not_mem_nil, or_false] at hq; rcases hq with rfl | rfl | rfl | rfl | rfl | rfl | rfl | rfl | rfl | rfl <;> first | exact ne_toInt hc1_20 | exact ne_toInt hc1_30 | exact ne_toInt hc1_40 | exact ne_toInt hc1_41 | exact ne_toInt hc1_50 | exact ne_toInt hc1_60 | exact ne_toInt hc1_61 | exact ne_toInt hc1_70 | exact ne_toInt hc1_80 | exact ne_toInt hc1_81)) (by decide) ?_
  refine X_iconst (v := 0) dX0_inherited_225 iconst_0 ?_
  exact X_reti rfl dX0_inherited_226 h
def w_X0_run_b (F : Int32 → Int32 → Int32 → Int32 → Sg → (Int32 → Sg → Prop) → Prop) (a0 : Int32) (b0 : Int32) (c0 : Int32) (d0 : Int32) (σ : Sg) (Q : Int32 → Sg → Prop) : Prop := w_X0_holderOf a0 b0 σ (fun r2 σ1 => if r2 < 0 then (Q (0 : Int32) σ1) else (if d0 ≤ (40 : Int32) then (vp_in (((4 : Int32) * r2) + b0) 32 ∧ bd ((exC 6) (Int32.toNatClampNeg (((4 : Int32) * r2) + b0))) fun x3 => bd (fun (σ4 : Sg) => bd (sI σ4 57 3 ((σ4.1 57 3) + (1 : Int32))) fun σ5 => if r2 = 0 then (w_X0_first F x3 c0 (d0 + (1 : Int32)) σ5 (fun r9 σ8 => Q r9 σ8)) else (vp_in r2 8 ∧ w_X0_inherited F x3 ((exC 7) (Int32.toNatClampNeg r2)) c0 (d0 + (1 : Int32)) σ5 (fun r7 σ6 => Q r7 σ6))) fun J53 => if (24 : Int32) ≤ (σ1.1 57 3) then (J53 σ1) else (vp_in (σ1.1 57 3) 24 ∧ bd (sI σ1 59 (Int32.toNatClampNeg (σ1.1 57 3)) x3) fun σ10 => J53 σ10)) else (Q (0 : Int32) σ1)))
set_option maxRecDepth 100000 in
set_option maxHeartbeats 4000000 in
theorem s_X0_run_b (sx : Nat × (Nat → Int32)) (F : Int32 → Int32 → Int32 → Int32 → Sg → (Int32 → Sg → Prop) → Prop) (dF : Nat) (hF : ∀ (a0 : Int32) (b0 : Int32) (c0 : Int32) (d0 : Int32) (σ : Sg) (Q : Int32 → Sg → Prop), F a0 b0 c0 d0 σ Q → Ct mX0_run dF false (0, 0) sx G0 [.ref 57, .int a0, .int b0, .int c0, .int d0] σ (qI Q)) (a0 : Int32) (b0 : Int32) (c0 : Int32) (d0 : Int32) (σ : Sg) (Q : Int32 → Sg → Prop) (h : w_X0_run_b F a0 b0 c0 d0 σ Q) : Ct mX0_run (dF + 4) false (0, 0) sx G0 [.ref 57, .int a0, .int b0, .int c0, .int d0] σ (qI Q) := by
  refine Ct.of (L := [some (.ref 57), some (.int a0), some (.int b0), some (.int c0), some (.int d0), none, none]) (by decide) (Nat.le_of_ble_eq_true rfl) rfl ?_
  unfold w_X0_run_b at h
  refine X_iload_n dX0_run_0 rfl rfl ?_
  refine X_iload_n dX0_run_1 rfl rfl ?_
  refine X_callSi [.int a0, .int b0] [] c_X0_holderOf t_X0_holderOf lk_X0_51 dX0_run_2 rfl (by omega) (Nat.le_of_ble_eq_true rfl) rfl (s_X0_holderOf sx a0 b0  σ _ h) (fun r2 σ1 h => ?_)
  refine X_istore (L' := [some (.ref 57), some (.int a0), some (.int b0), some (.int c0), some (.int d0), some (.int r2), none]) dX0_run_5 (by decide) rfl ?_
  refine X_iload dX0_run_7 rfl ?_
  refine X_if_lt (tgt := 19) dX0_run_9 (by decide) h (fun h => ?_) (fun h => ?_)
  · refine X_iconst (v := 0) dX0_run_19 iconst_0 ?_
    exact X_reti rfl dX0_run_20 h
  · refine X_iload dX0_run_12 rfl ?_
    refine X_bipush (v := 40) dX0_run_14 bipush_40 ?_
    refine X_icmp_le (tgt := 21) dX0_run_16 (by decide) h (fun h => ?_) (fun h => ?_)
    · refine X_gets (j := 5) (v := 6) rfl rfl f_X0_55 dX0_run_21 ?_
      refine X_iconst (v := 4) dX0_run_24 iconst_4 ?_
      refine X_iload dX0_run_25 rfl ?_
      refine X_imul dX0_run_27 ?_
      refine X_iload_n dX0_run_28 rfl rfl ?_
      refine X_iadd dX0_run_29 ?_
      refine X_ialdX (v := 6) (f := (exC 6)) (n := 32) (by decide) rfl rfl dX0_run_30 h (fun h => ?_)
      refine X_topI h (fun x3 h => ?_)
      refine X_istore (L' := [some (.ref 57), some (.int a0), some (.int b0), some (.int c0), some (.int d0), some (.int r2), some (.int x3)]) dX0_run_31 (by decide) rfl ?_
      refine X_aload_n dX0_run_33 rfl rfl ?_
      refine X_get (v := .int (σ1.1 57 3)) ck_X0 f_X0_33 g_57 rfl (fun _ => rfl) dX0_run_34 ?_
      refine X_bipush (v := 24) dX0_run_37 bipush_24 ?_
      refine bd_j h (fun J53 e53 h => ?_)
      have j53 : ∀ (σ4 : Sg) , J53  σ4 → Ex mX0_run (dF + 4) false (0, 0) sx G0 53 [some (.ref 57), none, none, some (.int c0), some (.int d0), some (.int r2), some (.int x3)] [] σ4 (qI Q) := by
        intro  σ4  h
        subst e53
        replace h := h
        refine X_aload_n dX0_run_53 rfl rfl ?_
        refine X_dup dX0_run_54 rfl ?_
        refine X_get (v := .int (σ4.1 57 3)) ck_X0 f_X0_33 g_57 rfl (fun _ => rfl) dX0_run_55 ?_
        refine X_iconst (v := 1) dX0_run_58 iconst_1 ?_
        refine X_iadd dX0_run_59 ?_
        refine X_putI ck_X0 f_X0_33 rfl g_57 rfl rfl rfl dX0_run_60 h (fun σ5 h => ?_)
        refine X_iload dX0_run_63 rfl ?_
        refine X_if_ne (tgt := 82) dX0_run_65 (by decide) h (fun h => ?_) (fun h => ?_)
        · refine X_aload_n dX0_run_82 rfl rfl ?_
          refine X_iload dX0_run_83 rfl ?_
          refine X_gets (j := 6) (v := 7) rfl rfl f_X0_30 dX0_run_85 ?_
          refine X_iload dX0_run_88 rfl ?_
          refine X_ialdX (v := 7) (f := (exC 7)) (n := 8) (by decide) rfl rfl dX0_run_90 h (fun h => ?_)
          refine X_iload_n dX0_run_91 rfl rfl ?_
          refine X_iload dX0_run_92 rfl ?_
          refine X_iconst (v := 1) dX0_run_94 iconst_1 ?_
          refine X_iadd dX0_run_95 ?_
          refine X_callVi [.int x3, .int ((exC 7) (Int32.toNatClampNeg r2)), .int c0, .int (d0 + (1 : Int32))] [] c_X0_inherited v_X0_inherited lk_X0_61 dX0_run_96 g_57 rfl rfl rfl (by omega) (Nat.le_of_ble_eq_true rfl) rfl (s_X0_inherited sx F dF hF x3 ((exC 7) (Int32.toNatClampNeg r2)) c0 (d0 + (1 : Int32))  σ5 _ h) (fun r7 σ6 h => ?_)
          exact X_reti rfl dX0_run_99 h
        · refine X_aload_n dX0_run_68 rfl rfl ?_
          refine X_iload dX0_run_69 rfl ?_
          refine X_iload_n dX0_run_71 rfl rfl ?_
          refine X_iload dX0_run_72 rfl ?_
          refine X_iconst (v := 1) dX0_run_74 iconst_1 ?_
          refine X_iadd dX0_run_75 ?_
          refine X_callVi [.int x3, .int c0, .int (d0 + (1 : Int32))] [] c_X0_first v_X0_first lk_X0_58 dX0_run_76 g_57 rfl rfl rfl (by omega) (Nat.le_of_ble_eq_true rfl) rfl (s_X0_first sx F dF hF x3 c0 (d0 + (1 : Int32))  σ5 _ h) (fun r9 σ8 h => ?_)
          refine X_goto (tgt := 99) dX0_run_79 (by decide) ?_
          exact X_reti rfl dX0_run_99 h
      refine X_icmp_ge (tgt := 53) dX0_run_39 (by decide) h (fun h => ?_) (fun h => ?_)
      · refine X_drop (L' := [some (.ref 57), none, none, some (.int c0), some (.int d0), some (.int r2), some (.int x3)]) ⟨rfl, ⟨rfl, ⟨rfl, ⟨rfl, ⟨rfl, trivial⟩⟩⟩⟩⟩ ?_
        exact j53 _  h
      · refine X_aload_n dX0_run_42 rfl rfl ?_
        refine X_get (v := .ref 59) ck_X0 f_X0_15 g_57 rfl (fun _ => rfl) dX0_run_43 ?_
        refine X_aload_n dX0_run_46 rfl rfl ?_
        refine X_get (v := .int (σ1.1 57 3)) ck_X0 f_X0_33 g_57 rfl (fun _ => rfl) dX0_run_47 ?_
        refine X_iload dX0_run_50 rfl ?_
        refine X_iast g_59 dX0_run_52 h (fun σ10 h => ?_)
        refine X_drop (L' := [some (.ref 57), none, none, some (.int c0), some (.int d0), some (.int r2), some (.int x3)]) ⟨rfl, ⟨rfl, ⟨rfl, ⟨rfl, ⟨rfl, trivial⟩⟩⟩⟩⟩ ?_
        exact j53 _  h
    · refine X_iconst (v := 0) dX0_run_19 iconst_0 ?_
      exact X_reti rfl dX0_run_20 h
def w_X0_run : Nat → Int32 → Int32 → Int32 → Int32 → Sg → (Int32 → Sg → Prop) → Prop
  | 0 => fun _ _ _ _ _ _ => False
  | n + 1 => w_X0_run_b (w_X0_run n)
theorem s_X0_run (sx : Nat × (Nat → Int32)) (n : Nat) : ∀ (a0 : Int32) (b0 : Int32) (c0 : Int32) (d0 : Int32) (σ : Sg) (Q : Int32 → Sg → Prop), w_X0_run n a0 b0 c0 d0 σ Q → Ct mX0_run (n * 4) false (0, 0) sx G0 [.ref 57, .int a0, .int b0, .int c0, .int d0] σ (qI Q) := by
  induction n with
  | zero => intro a0 b0 c0 d0  σ Q h; exact h.elim
  | succ n ih =>
    intro a0 b0 c0 d0  σ Q h
    rw [show (n + 1) * 4 = n * 4 + 4 by omega]
    exact s_X0_run_b sx (w_X0_run n) (n * 4) ih a0 b0 c0 d0  σ Q h
def w_X12_goChance_l59 (a0 : Int32) (b0 : Int32) (c0 : Int32) (d0 : Int32) (e0 : Int32) (f0 : Int32) (g0 : Int64) (h0 : Int32) (Q : Sg → Prop) (F : Int32 → Int32 → Int32 → Int32 → Int32 → Int32 → Int64 → Int32 → Sg → (Sg → Prop) → Prop) : Nat → Int32 → Sg → Prop
  | 0, _, _ => False
  | n59 + 1, x1, σ2 => if (2 : Int32) ≤ x1 then (Q σ2) else (bd (sI σ2 60 30 e0) fun σ3 => bd (sI σ3 60 31 f0) fun σ4 => w_X12_goHour a0 b0 x1 σ4 (fun  σ5 => bd (fun (x6 : Int32) (x7 : Int32) (x8 : Int32) (x9 : Int32) (x10 : Int32) (x11 : Int32) (x12 : Int64) (x13 : Int32) (σ14 : Sg) => F x6 x7 x8 x9 x10 x11 (x12 * (Int32.toInt64 x13)) h0 σ14 (fun  σ15 => w_X12_goChance_l59 a0 b0 c0 d0 e0 f0 g0 h0 Q F n59 (x1 + 1) σ15)) fun J119 => if x1 = (1 : Int32) then (J119 a0 (b0 + (1 : Int32)) c0 d0 (σ5.1 60 30) (σ5.1 60 31) g0 d0 σ5) else (J119 a0 (b0 + (1 : Int32)) c0 d0 (σ5.1 60 30) (σ5.1 60 31) g0 ((12 : Int32) - d0) σ5)))
def w_X12_goChance_b (F : Int32 → Int32 → Int32 → Int32 → Int32 → Int32 → Int64 → Int32 → Sg → (Sg → Prop) → Prop) (a0 : Int32) (b0 : Int32) (c0 : Int32) (d0 : Int32) (e0 : Int32) (f0 : Int32) (g0 : Int64) (h0 : Int32) (σ : Sg) (Q : Sg → Prop) : Prop := if (lg_cmp g0 (0 : Int64)) = 0 then (Q σ) else (if b0 = c0 then (w_X12_nearTo e0 h0 σ (fun r17 σ16 => bd (fun (σ18 : Sg) => w_X12_apart e0 h0 σ18 (fun r20 σ19 => bd (sJ σ19 60 36 ((σ18.2 60 36) + (g0 * (Int32.toInt64 r20)))) fun σ21 => Q σ21)) fun J35 => if r17 = 0 then (J35 σ16) else (bd (sJ σ16 60 35 ((σ16.2 60 35) + g0)) fun σ22 => J35 σ22))) else (∃ n, w_X12_goChance_l59 a0 b0 c0 d0 e0 f0 g0 h0 Q F n (0 : Int32) σ))
set_option maxRecDepth 100000 in
set_option maxHeartbeats 4000000 in
theorem s_X12_goChance_b (sx : Nat × (Nat → Int32)) (F : Int32 → Int32 → Int32 → Int32 → Int32 → Int32 → Int64 → Int32 → Sg → (Sg → Prop) → Prop) (dF : Nat) (hF : ∀ (a0 : Int32) (b0 : Int32) (c0 : Int32) (d0 : Int32) (e0 : Int32) (f0 : Int32) (g0 : Int64) (h0 : Int32) (σ : Sg) (Q : Sg → Prop), F a0 b0 c0 d0 e0 f0 g0 h0 σ Q → Ct mX12_goChance dF false (0, 0) sx G0 [.ref 60, .int a0, .int b0, .int c0, .int d0, .int e0, .int f0, .long g0, .int h0] σ (qV Q)) (a0 : Int32) (b0 : Int32) (c0 : Int32) (d0 : Int32) (e0 : Int32) (f0 : Int32) (g0 : Int64) (h0 : Int32) (σ : Sg) (Q : Sg → Prop) (h : w_X12_goChance_b F a0 b0 c0 d0 e0 f0 g0 h0 σ Q) : Ct mX12_goChance (dF + 5) false (0, 0) sx G0 [.ref 60, .int a0, .int b0, .int c0, .int d0, .int e0, .int f0, .long g0, .int h0] σ (qV Q) := by
  refine Ct.of (L := [some (.ref 60), some (.int a0), some (.int b0), some (.int c0), some (.int d0), some (.int e0), some (.int f0), some (.long g0), none, some (.int h0), none]) (by decide) (Nat.le_of_ble_eq_true rfl) rfl ?_
  unfold w_X12_goChance_b at h
  refine X_lload dX12_goChance_0 rfl ?_
  refine X_lconst (v := 0) dX12_goChance_2 rfl ?_
  refine X_lcmp dX12_goChance_3 ?_
  refine X_if_ne (tgt := 8) dX12_goChance_4 (by decide) h (fun h => ?_) (fun h => ?_)
  · refine X_iload_n dX12_goChance_8 rfl rfl ?_
    refine X_iload_n dX12_goChance_9 rfl rfl ?_
    refine X_icmp_ne (tgt := 56) dX12_goChance_10 (by decide) h (fun h => ?_) (fun h => ?_)
    · refine X_iconst (v := 0) dX12_goChance_56 iconst_0 ?_
      refine X_istore (L' := [some (.ref 60), some (.int a0), some (.int b0), some (.int c0), some (.int d0), some (.int e0), some (.int f0), some (.long g0), none, some (.int h0), some (.int (0 : Int32))]) dX12_goChance_57 (by decide) rfl ?_
      obtain ⟨n59, h⟩ := h
      have key59 : ∀ (n : Nat) (x1 : Int32) (σ2 : Sg) , w_X12_goChance_l59 a0 b0 c0 d0 e0 f0 g0 h0 Q F n x1 σ2 → Ex mX12_goChance (dF + 5) false (0, 0) sx G0 59 [some (.ref 60), some (.int a0), some (.int b0), some (.int c0), some (.int d0), some (.int e0), some (.int f0), some (.long g0), none, some (.int h0), some (.int x1)] [] σ2 (qV Q) := by
        intro n59
        induction n59 with
        | zero => intro _ _  h; exact h.elim
        | succ n59 ih59 =>
          intro x1 σ2  h
          unfold w_X12_goChance_l59 at h
          refine X_iload dX12_goChance_59 rfl ?_
          refine X_iconst (v := 2) dX12_goChance_61 iconst_2 ?_
          refine X_icmp_ge (tgt := 132) dX12_goChance_62 (by decide) h (fun h => ?_) (fun h => ?_)
          · exact X_retv rfl dX12_goChance_132 h
          · refine X_aload_n dX12_goChance_65 rfl rfl ?_
            refine X_iload dX12_goChance_66 rfl ?_
            refine X_putI ck_X12 f_X12_262 rfl g_60 rfl rfl rfl dX12_goChance_68 h (fun σ3 h => ?_)
            refine X_aload_n dX12_goChance_71 rfl rfl ?_
            refine X_iload dX12_goChance_72 rfl ?_
            refine X_putI ck_X12 f_X12_265 rfl g_60 rfl rfl rfl dX12_goChance_74 h (fun σ4 h => ?_)
            refine X_aload_n dX12_goChance_77 rfl rfl ?_
            refine X_iload_n dX12_goChance_78 rfl rfl ?_
            refine X_iload_n dX12_goChance_79 rfl rfl ?_
            refine X_iload dX12_goChance_80 rfl ?_
            refine X_callVv [.int a0, .int b0, .int x1] [] c_X12_goHour v_X12_goHour lk_X12_287 dX12_goChance_82 g_60 rfl rfl rfl (by omega) (Nat.le_of_ble_eq_true rfl) rfl (s_X12_goHour sx a0 b0 x1  σ4 _ h) (fun  σ5 h => ?_)
            refine X_aload_n dX12_goChance_85 rfl rfl ?_
            refine X_iload_n dX12_goChance_86 rfl rfl ?_
            refine X_iload_n dX12_goChance_87 rfl rfl ?_
            refine X_iconst (v := 1) dX12_goChance_88 iconst_1 ?_
            refine X_iadd dX12_goChance_89 ?_
            refine X_iload_n dX12_goChance_90 rfl rfl ?_
            refine X_iload dX12_goChance_91 rfl ?_
            refine X_aload_n dX12_goChance_93 rfl rfl ?_
            refine X_get (v := .int (σ5.1 60 30)) ck_X12 f_X12_262 g_60 rfl (fun _ => rfl) dX12_goChance_94 ?_
            refine X_aload_n dX12_goChance_97 rfl rfl ?_
            refine X_get (v := .int (σ5.1 60 31)) ck_X12 f_X12_265 g_60 rfl (fun _ => rfl) dX12_goChance_98 ?_
            refine X_lload dX12_goChance_101 rfl ?_
            refine X_iload dX12_goChance_103 rfl ?_
            refine X_iconst (v := 1) dX12_goChance_105 iconst_1 ?_
            refine bd_j h (fun J119 e119 h => ?_)
            have j119 : ∀ (x6 : Int32) (x7 : Int32) (x8 : Int32) (x9 : Int32) (x10 : Int32) (x11 : Int32) (x12 : Int64) (x13 : Int32) (σ14 : Sg) , J119 x6 x7 x8 x9 x10 x11 x12 x13 σ14 → Ex mX12_goChance (dF + 5) false (0, 0) sx G0 119 [some (.ref 60), some (.int a0), some (.int b0), some (.int c0), some (.int d0), some (.int e0), some (.int f0), some (.long g0), none, some (.int h0), some (.int x1)] [.int x13, .long x12, .int x11, .int x10, .int x9, .int x8, .int x7, .int x6, .ref 60] σ14 (qV Q) := by
              intro x6 x7 x8 x9 x10 x11 x12 x13 σ14  h
              subst e119
              replace h := h
              refine X_i2l dX12_goChance_119 ?_
              refine X_lmul dX12_goChance_120 ?_
              refine X_iload dX12_goChance_121 rfl ?_
              refine X_callVv [.int x6, .int x7, .int x8, .int x9, .int x10, .int x11, .long (x12 * (Int32.toInt64 x13)), .int h0] [] c_X12_goChance v_X12_goChance lk_X12_374 dX12_goChance_123 g_60 rfl rfl rfl (by omega) (Nat.le_of_ble_eq_true rfl) rfl (hF x6 x7 x8 x9 x10 x11 (x12 * (Int32.toInt64 x13)) h0  σ14 _ h) (fun  σ15 h => ?_)
              refine X_iinc (v := (x1 + 1)) (L' := [some (.ref 60), some (.int a0), some (.int b0), some (.int c0), some (.int d0), some (.int e0), some (.int f0), some (.long g0), none, some (.int h0), some (.int (x1 + 1))]) dX12_goChance_126 rfl rfl (by decide) rfl ?_
              refine X_goto (tgt := 59) dX12_goChance_129 (by decide) ?_
              exact ih59 _ _  h
            refine X_icmp_ne (tgt := 114) dX12_goChance_106 (by decide) h (fun h => ?_) (fun h => ?_)
            · refine X_bipush (v := 12) dX12_goChance_114 bipush_12 ?_
              refine X_iload dX12_goChance_116 rfl ?_
              refine X_isub dX12_goChance_118 ?_
              exact j119 _ _ _ _ _ _ _ _ _  h
            · refine X_iload dX12_goChance_109 rfl ?_
              refine X_goto (tgt := 119) dX12_goChance_111 (by decide) ?_
              exact j119 _ _ _ _ _ _ _ _ _  h
      exact key59 _ _ _  h
    · refine X_aload_n dX12_goChance_13 rfl rfl ?_
      refine X_iload dX12_goChance_14 rfl ?_
      refine X_iload dX12_goChance_16 rfl ?_
      refine X_callVi [.int e0, .int h0] [] c_X12_nearTo v_X12_nearTo lk_X12_305 dX12_goChance_18 g_60 rfl rfl rfl (by omega) (Nat.le_of_ble_eq_true rfl) rfl (s_X12_nearTo sx e0 h0  σ _ h) (fun r17 σ16 h => ?_)
      refine bd_j h (fun J35 e35 h => ?_)
      have j35 : ∀ (σ18 : Sg) , J35  σ18 → Ex mX12_goChance (dF + 5) false (0, 0) sx G0 35 [some (.ref 60), none, none, none, none, some (.int e0), none, some (.long g0), none, some (.int h0), none] [] σ18 (qV Q) := by
        intro  σ18  h
        subst e35
        replace h := h
        refine X_aload_n dX12_goChance_35 rfl rfl ?_
        refine X_dup dX12_goChance_36 rfl ?_
        refine X_get (v := .long (σ18.2 60 36)) ck_X12 f_X12_371 g_60 rfl (fun _ => rfl) dX12_goChance_37 ?_
        refine X_lload dX12_goChance_40 rfl ?_
        refine X_iload dX12_goChance_42 rfl ?_
        refine X_iload dX12_goChance_44 rfl ?_
        refine X_callSi [.int e0, .int h0] [.long g0, .long (σ18.2 60 36), .ref 60] c_X12_apart t_X12_apart lk_X12_296 dX12_goChance_46 rfl (by omega) (Nat.le_of_ble_eq_true rfl) rfl (s_X12_apart sx e0 h0  σ18 _ h) (fun r20 σ19 h => ?_)
        refine X_i2l dX12_goChance_49 ?_
        refine X_lmul dX12_goChance_50 ?_
        refine X_ladd dX12_goChance_51 ?_
        refine X_putJ ck_X12 f_X12_371 rfl g_60 rfl rfl rfl dX12_goChance_52 h (fun σ21 h => ?_)
        exact X_retv rfl dX12_goChance_55 h
      refine X_if_eq (tgt := 35) dX12_goChance_21 (by decide) h (fun h => ?_) (fun h => ?_)
      · refine X_drop (L' := [some (.ref 60), none, none, none, none, some (.int e0), none, some (.long g0), none, some (.int h0), none]) ⟨rfl, ⟨rfl, ⟨rfl, ⟨rfl, trivial⟩⟩⟩⟩ ?_
        exact j35 _  h
      · refine X_aload_n dX12_goChance_24 rfl rfl ?_
        refine X_dup dX12_goChance_25 rfl ?_
        refine X_get (v := .long (σ16.2 60 35)) ck_X12 f_X12_367 g_60 rfl (fun _ => rfl) dX12_goChance_26 ?_
        refine X_lload dX12_goChance_29 rfl ?_
        refine X_ladd dX12_goChance_31 ?_
        refine X_putJ ck_X12 f_X12_367 rfl g_60 rfl rfl rfl dX12_goChance_32 h (fun σ22 h => ?_)
        refine X_drop (L' := [some (.ref 60), none, none, none, none, some (.int e0), none, some (.long g0), none, some (.int h0), none]) ⟨rfl, ⟨rfl, ⟨rfl, ⟨rfl, trivial⟩⟩⟩⟩ ?_
        exact j35 _  h
  · exact X_retv rfl dX12_goChance_7 h
def w_X12_goChance : Nat → Int32 → Int32 → Int32 → Int32 → Int32 → Int32 → Int64 → Int32 → Sg → (Sg → Prop) → Prop
  | 0 => fun _ _ _ _ _ _ _ _ _ _ => False
  | n + 1 => w_X12_goChance_b (w_X12_goChance n)
theorem s_X12_goChance (sx : Nat × (Nat → Int32)) (n : Nat) : ∀ (a0 : Int32) (b0 : Int32) (c0 : Int32) (d0 : Int32) (e0 : Int32) (f0 : Int32) (g0 : Int64) (h0 : Int32) (σ : Sg) (Q : Sg → Prop), w_X12_goChance n a0 b0 c0 d0 e0 f0 g0 h0 σ Q → Ct mX12_goChance (n * 5) false (0, 0) sx G0 [.ref 60, .int a0, .int b0, .int c0, .int d0, .int e0, .int f0, .long g0, .int h0] σ (qV Q) := by
  induction n with
  | zero => intro a0 b0 c0 d0 e0 f0 g0 h0  σ Q h; exact h.elim
  | succ n ih =>
    intro a0 b0 c0 d0 e0 f0 g0 h0  σ Q h
    rw [show (n + 1) * 5 = n * 5 + 5 by omega]
    exact s_X12_goChance_b sx (w_X12_goChance n) (n * 5) ih a0 b0 c0 d0 e0 f0 g0 h0  σ Q h
def w_X1_farAtLast_l43 (a0 : Nat) (b0 : Int32) (c0 : Int32) (d0 : Int32) (e0 : Int32) (Q : Int32 → Sg → Prop) (x1 : Int32) (F : Nat → Int32 → Int32 → Int32 → Int32 → Sg → (Int32 → Sg → Prop) → Prop) : Nat → Int32 → Int32 → Sg → Prop
  | 0, _, _, _ => False
  | n43 + 1, x5, x6, σ7 => if (3 : Int32) ≤ x6 then (Q x5 σ7) else (vp_in x6 3 ∧ w_X3_next a0 b0 c0 ((exC 5) (Int32.toNatClampNeg x6)) σ7 (fun r9 σ8 => F a0 r9 (c0 + (1 : Int32)) d0 e0 σ8 (fun r11 σ10 => bd (fun (x12 : Int32) (σ13 : Sg) => w_X1_farAtLast_l43 a0 b0 c0 d0 e0 Q x1 F n43 x12 (x6 + 1) σ13) fun J95 => if x1 = 0 then (J95 (imax x5 r11) σ10) else (J95 (imin x5 r11) σ10))))
def w_X1_farAtLast_b (F : Nat → Int32 → Int32 → Int32 → Int32 → Sg → (Int32 → Sg → Prop) → Prop) (a0 : Nat) (b0 : Int32) (c0 : Int32) (d0 : Int32) (e0 : Int32) (σ : Sg) (Q : Int32 → Sg → Prop) : Prop := if c0 < d0 then (bd (fun (x1 : Int32) (σ2 : Sg) => bd (fun (x3 : Int32) (σ4 : Sg) => ∃ n, w_X1_farAtLast_l43 a0 b0 c0 d0 e0 Q x1 F n x3 (0 : Int32) σ4) fun J38 => if x1 = 0 then (J38 (-1 : Int32) σ2) else (J38 (2147483647 : Int32) σ2)) fun J25 => if (c0 - c0 / (2 : Int32) * (2 : Int32)) = 0 then (J25 (1 : Int32) σ) else (J25 (0 : Int32) σ)) else (w_X7_apart (b0 >>> ((3 : Int32) &&& 31)) e0 σ (fun r15 σ14 => Q r15 σ14))
set_option maxRecDepth 100000 in
set_option maxHeartbeats 4000000 in
theorem s_X1_farAtLast_b (sx : Nat × (Nat → Int32)) (F : Nat → Int32 → Int32 → Int32 → Int32 → Sg → (Int32 → Sg → Prop) → Prop) (dF : Nat) (hF : ∀ (a0 : Nat) (b0 : Int32) (c0 : Int32) (d0 : Int32) (e0 : Int32) (ha0 : a0 < 6) (σ : Sg) (Q : Int32 → Sg → Prop), F a0 b0 c0 d0 e0 σ Q → Ct mX1_farAtLast dF false (0, 0) sx G0 [.ref (16 + 2 * a0), .int b0, .int c0, .int d0, .int e0] σ (qI Q)) (a0 : Nat) (b0 : Int32) (c0 : Int32) (d0 : Int32) (e0 : Int32) (ha0 : a0 < 6) (σ : Sg) (Q : Int32 → Sg → Prop) (h : w_X1_farAtLast_b F a0 b0 c0 d0 e0 σ Q) : Ct mX1_farAtLast (dF + 5) false (0, 0) sx G0 [.ref (16 + 2 * a0), .int b0, .int c0, .int d0, .int e0] σ (qI Q) := by
  refine Ct.of (L := [some (.ref (16 + 2 * a0)), some (.int b0), some (.int c0), some (.int d0), some (.int e0), none, none, none, none]) (by decide) (Nat.le_of_ble_eq_true rfl) rfl ?_
  unfold w_X1_farAtLast_b at h
  refine X_iload_n dX1_farAtLast_0 rfl rfl ?_
  refine X_iload_n dX1_farAtLast_1 rfl rfl ?_
  refine X_icmp_lt (tgt := 14) dX1_farAtLast_2 (by decide) h (fun h => ?_) (fun h => ?_)
  · refine X_iload_n dX1_farAtLast_14 rfl rfl ?_
    refine X_iconst (v := 2) dX1_farAtLast_15 iconst_2 ?_
    refine X_irem dX1_farAtLast_16 (by decide) ?_
    refine bd_j h (fun J25 e25 h => ?_)
    have j25 : ∀ (x1 : Int32) (σ2 : Sg) , J25 x1 σ2 → Ex mX1_farAtLast (dF + 5) false (0, 0) sx G0 25 [some (.ref (16 + 2 * a0)), some (.int b0), some (.int c0), some (.int d0), some (.int e0), none, none, none, none] [.int x1] σ2 (qI Q) := by
      intro x1 σ2  h
      subst e25
      replace h := h
      refine X_istore (L' := [some (.ref (16 + 2 * a0)), some (.int b0), some (.int c0), some (.int d0), some (.int e0), some (.int x1), none, none, none]) dX1_farAtLast_25 (by decide) rfl ?_
      refine X_iload dX1_farAtLast_27 rfl ?_
      refine bd_j h (fun J38 e38 h => ?_)
      have j38 : ∀ (x3 : Int32) (σ4 : Sg) , J38 x3 σ4 → Ex mX1_farAtLast (dF + 5) false (0, 0) sx G0 38 [some (.ref (16 + 2 * a0)), some (.int b0), some (.int c0), some (.int d0), some (.int e0), some (.int x1), none, none, none] [.int x3] σ4 (qI Q) := by
        intro x3 σ4  h
        subst e38
        replace h := h
        refine X_istore (L' := [some (.ref (16 + 2 * a0)), some (.int b0), some (.int c0), some (.int d0), some (.int e0), some (.int x1), some (.int x3), none, none]) dX1_farAtLast_38 (by decide) rfl ?_
        refine X_iconst (v := 0) dX1_farAtLast_40 iconst_0 ?_
        refine X_istore (L' := [some (.ref (16 + 2 * a0)), some (.int b0), some (.int c0), some (.int d0), some (.int e0), some (.int x1), some (.int x3), some (.int (0 : Int32)), none]) dX1_farAtLast_41 (by decide) rfl ?_
        obtain ⟨n43, h⟩ := h
        have key43 : ∀ (n : Nat) (x5 : Int32) (x6 : Int32) (σ7 : Sg) , w_X1_farAtLast_l43 a0 b0 c0 d0 e0 Q x1 F n x5 x6 σ7 → Ex mX1_farAtLast (dF + 5) false (0, 0) sx G0 43 [some (.ref (16 + 2 * a0)), some (.int b0), some (.int c0), some (.int d0), some (.int e0), some (.int x1), some (.int x5), some (.int x6), none] [] σ7 (qI Q) := by
          intro n43
          induction n43 with
          | zero => intro _ _ _  h; exact h.elim
          | succ n43 ih43 =>
            intro x5 x6 σ7  h
            unfold w_X1_farAtLast_l43 at h
            refine X_iload dX1_farAtLast_43 rfl ?_
            refine X_iconst (v := 3) dX1_farAtLast_45 iconst_3 ?_
            refine X_icmp_ge (tgt := 103) dX1_farAtLast_46 (by decide) h (fun h => ?_) (fun h => ?_)
            · refine X_iload dX1_farAtLast_103 rfl ?_
              exact X_reti rfl dX1_farAtLast_105 h
            · refine X_aload_n dX1_farAtLast_49 rfl rfl ?_
              refine X_aload_n dX1_farAtLast_50 rfl rfl ?_
              refine X_iload_n dX1_farAtLast_51 rfl rfl ?_
              refine X_iload_n dX1_farAtLast_52 rfl rfl ?_
              refine X_gets (j := 4) (v := 5) rfl rfl f_X1_66 dX1_farAtLast_53 ?_
              refine X_iload dX1_farAtLast_56 rfl ?_
              refine X_ialdX (v := 5) (f := (exC 5)) (n := 3) (by decide) rfl rfl dX1_farAtLast_58 h (fun h => ?_)
              refine X_callVi [.int b0, .int c0, .int ((exC 5) (Int32.toNatClampNeg x6))] [.ref (16 + 2 * a0)] c_X3_next v_X3_next lk_X1_69 dX1_farAtLast_59 (g_coach ha0) rfl rfl rfl (by omega) (Nat.le_of_ble_eq_true rfl) rfl (s_X3_next sx a0 b0 c0 ((exC 5) (Int32.toNatClampNeg x6)) ha0 σ7 _ h) (fun r9 σ8 h => ?_)
              refine X_iload_n dX1_farAtLast_62 rfl rfl ?_
              refine X_iconst (v := 1) dX1_farAtLast_63 iconst_1 ?_
              refine X_iadd dX1_farAtLast_64 ?_
              refine X_iload_n dX1_farAtLast_65 rfl rfl ?_
              refine X_iload dX1_farAtLast_66 rfl ?_
              refine X_callSi [.ref (16 + 2 * a0), .int r9, .int (c0 + (1 : Int32)), .int d0, .int e0] [] c_X1_farAtLast t_X1_farAtLast lk_X1_102 dX1_farAtLast_68 rfl (by omega) (Nat.le_of_ble_eq_true rfl) rfl (hF a0 r9 (c0 + (1 : Int32)) d0 e0 ha0 σ8 _ h) (fun r11 σ10 h => ?_)
              refine X_istore (L' := [some (.ref (16 + 2 * a0)), some (.int b0), some (.int c0), some (.int d0), some (.int e0), some (.int x1), some (.int x5), some (.int x6), some (.int r11)]) dX1_farAtLast_71 (by decide) rfl ?_
              refine X_iload dX1_farAtLast_73 rfl ?_
              refine bd_j h (fun J95 e95 h => ?_)
              have j95 : ∀ (x12 : Int32) (σ13 : Sg) , J95 x12 σ13 → Ex mX1_farAtLast (dF + 5) false (0, 0) sx G0 95 [some (.ref (16 + 2 * a0)), some (.int b0), some (.int c0), some (.int d0), some (.int e0), some (.int x1), none, some (.int x6), none] [.int x12] σ13 (qI Q) := by
                intro x12 σ13  h
                subst e95
                replace h := h
                refine X_istore (L' := [some (.ref (16 + 2 * a0)), some (.int b0), some (.int c0), some (.int d0), some (.int e0), some (.int x1), some (.int x12), some (.int x6), none]) dX1_farAtLast_95 (by decide) rfl ?_
                refine X_iinc (v := (x6 + 1)) (L' := [some (.ref (16 + 2 * a0)), some (.int b0), some (.int c0), some (.int d0), some (.int e0), some (.int x1), some (.int x12), some (.int (x6 + 1)), none]) dX1_farAtLast_97 rfl rfl (by decide) rfl ?_
                refine X_goto (tgt := 43) dX1_farAtLast_100 (by decide) ?_
                exact ih43 _ _ _  h
              refine X_if_eq (tgt := 88) dX1_farAtLast_75 (by decide) h (fun h => ?_) (fun h => ?_)
              · refine X_iload dX1_farAtLast_88 rfl ?_
                refine X_iload dX1_farAtLast_90 rfl ?_
                refine X_mmax lk_X1_106 dX1_farAtLast_92 (by omega) (Nat.le_of_ble_eq_true rfl) ?_
                refine X_drop (L' := [some (.ref (16 + 2 * a0)), some (.int b0), some (.int c0), some (.int d0), some (.int e0), some (.int x1), none, some (.int x6), none]) ⟨rfl, ⟨rfl, ⟨rfl, ⟨rfl, ⟨rfl, ⟨rfl, ⟨rfl, trivial⟩⟩⟩⟩⟩⟩⟩ ?_
                exact j95 _ _  h
              · refine X_iload dX1_farAtLast_78 rfl ?_
                refine X_iload dX1_farAtLast_80 rfl ?_
                refine X_mmin lk_X1_73 dX1_farAtLast_82 (by omega) (Nat.le_of_ble_eq_true rfl) ?_
                refine X_goto (tgt := 95) dX1_farAtLast_85 (by decide) ?_
                refine X_drop (L' := [some (.ref (16 + 2 * a0)), some (.int b0), some (.int c0), some (.int d0), some (.int e0), some (.int x1), none, some (.int x6), none]) ⟨rfl, ⟨rfl, ⟨rfl, ⟨rfl, ⟨rfl, ⟨rfl, ⟨rfl, trivial⟩⟩⟩⟩⟩⟩⟩ ?_
                exact j95 _ _  h
        exact key43 _ _ _ _  h
      refine X_if_eq (tgt := 37) dX1_farAtLast_29 (by decide) h (fun h => ?_) (fun h => ?_)
      · refine X_iconst (v := -1) dX1_farAtLast_37 iconst_m1 ?_
        exact j38 _ _  h
      · refine X_ldc (v := 2147483647) dX1_farAtLast_32 k_X1_42 ?_
        refine X_goto (tgt := 38) dX1_farAtLast_34 (by decide) ?_
        exact j38 _ _  h
    refine X_if_ne (tgt := 24) dX1_farAtLast_17 (by decide) h (fun h => ?_) (fun h => ?_)
    · refine X_iconst (v := 0) dX1_farAtLast_24 iconst_0 ?_
      exact j25 _ _  h
    · refine X_iconst (v := 1) dX1_farAtLast_20 iconst_1 ?_
      refine X_goto (tgt := 25) dX1_farAtLast_21 (by decide) ?_
      exact j25 _ _  h
  · refine X_iload_n dX1_farAtLast_5 rfl rfl ?_
    refine X_iconst (v := 3) dX1_farAtLast_6 iconst_3 ?_
    refine X_ishr dX1_farAtLast_7 ?_
    refine X_iload dX1_farAtLast_8 rfl ?_
    refine X_callSi [.int (b0 >>> ((3 : Int32) &&& 31)), .int e0] [] c_X7_apart t_X7_apart lk_X1_86 dX1_farAtLast_10 rfl (by omega) (Nat.le_of_ble_eq_true rfl) rfl (s_X7_apart sx (b0 >>> ((3 : Int32) &&& 31)) e0  σ _ h) (fun r15 σ14 h => ?_)
    exact X_reti rfl dX1_farAtLast_13 h
def w_X1_farAtLast : Nat → Nat → Int32 → Int32 → Int32 → Int32 → Sg → (Int32 → Sg → Prop) → Prop
  | 0 => fun _ _ _ _ _ _ _ => False
  | n + 1 => w_X1_farAtLast_b (w_X1_farAtLast n)
theorem s_X1_farAtLast (sx : Nat × (Nat → Int32)) (n : Nat) : ∀ (a0 : Nat) (b0 : Int32) (c0 : Int32) (d0 : Int32) (e0 : Int32) (ha0 : a0 < 6) (σ : Sg) (Q : Int32 → Sg → Prop), w_X1_farAtLast n a0 b0 c0 d0 e0 σ Q → Ct mX1_farAtLast (n * 5) false (0, 0) sx G0 [.ref (16 + 2 * a0), .int b0, .int c0, .int d0, .int e0] σ (qI Q) := by
  induction n with
  | zero => intro a0 b0 c0 d0 e0 ha0 σ Q h; exact h.elim
  | succ n ih =>
    intro a0 b0 c0 d0 e0 ha0 σ Q h
    rw [show (n + 1) * 5 = n * 5 + 5 by omega]
    exact s_X1_farAtLast_b sx (w_X1_farAtLast n) (n * 5) ih a0 b0 c0 d0 e0 ha0 σ Q h
def w_X12_endsBy (F : Int32 → Int32 → Int32 → Int32 → Int32 → Int32 → Sg → (Int32 → Sg → Prop) → Prop) (a0 : Int32) (b0 : Int32) (c0 : Int32) (d0 : Int32) (e0 : Int32) (f0 : Int32) (g0 : Int32) (σ : Sg) (Q : Int32 → Sg → Prop) : Prop := bd (sI σ 60 30 d0) fun σ1 => bd (sI σ1 60 31 e0) fun σ2 => w_X12_goHour a0 b0 g0 σ2 (fun  σ3 => F a0 (b0 + (1 : Int32)) c0 (σ3.1 60 30) (σ3.1 60 31) f0 σ3 (fun r5 σ4 => Q r5 σ4))
set_option maxRecDepth 100000 in
set_option maxHeartbeats 4000000 in
theorem s_X12_endsBy (sx : Nat × (Nat → Int32)) (F : Int32 → Int32 → Int32 → Int32 → Int32 → Int32 → Sg → (Int32 → Sg → Prop) → Prop) (dF : Nat) (hF : ∀ (a0 : Int32) (b0 : Int32) (c0 : Int32) (d0 : Int32) (e0 : Int32) (f0 : Int32) (σ : Sg) (Q : Int32 → Sg → Prop), F a0 b0 c0 d0 e0 f0 σ Q → Ct mX12_endsAt dF false (0, 0) sx G0 [.ref 60, .int a0, .int b0, .int c0, .int d0, .int e0, .int f0] σ (qI Q)) (a0 : Int32) (b0 : Int32) (c0 : Int32) (d0 : Int32) (e0 : Int32) (f0 : Int32) (g0 : Int32) (σ : Sg) (Q : Int32 → Sg → Prop) (h : w_X12_endsBy F a0 b0 c0 d0 e0 f0 g0 σ Q) : Ct mX12_endsBy (dF + 5) false (0, 0) sx G0 [.ref 60, .int a0, .int b0, .int c0, .int d0, .int e0, .int f0, .int g0] σ (qI Q) := by
  refine Ct.of (L := [some (.ref 60), some (.int a0), some (.int b0), some (.int c0), some (.int d0), some (.int e0), some (.int f0), some (.int g0)]) (by decide) (Nat.le_of_ble_eq_true rfl) rfl ?_
  unfold w_X12_endsBy at h
  refine X_aload_n dX12_endsBy_0 rfl rfl ?_
  refine X_iload dX12_endsBy_1 rfl ?_
  refine X_putI ck_X12 f_X12_262 rfl g_60 rfl rfl rfl dX12_endsBy_3 h (fun σ1 h => ?_)
  refine X_aload_n dX12_endsBy_6 rfl rfl ?_
  refine X_iload dX12_endsBy_7 rfl ?_
  refine X_putI ck_X12 f_X12_265 rfl g_60 rfl rfl rfl dX12_endsBy_9 h (fun σ2 h => ?_)
  refine X_aload_n dX12_endsBy_12 rfl rfl ?_
  refine X_iload_n dX12_endsBy_13 rfl rfl ?_
  refine X_iload_n dX12_endsBy_14 rfl rfl ?_
  refine X_iload dX12_endsBy_15 rfl ?_
  refine X_callVv [.int a0, .int b0, .int g0] [] c_X12_goHour v_X12_goHour lk_X12_287 dX12_endsBy_17 g_60 rfl rfl rfl (by omega) (Nat.le_of_ble_eq_true rfl) rfl (s_X12_goHour sx a0 b0 g0  σ2 _ h) (fun  σ3 h => ?_)
  refine X_aload_n dX12_endsBy_20 rfl rfl ?_
  refine X_iload_n dX12_endsBy_21 rfl rfl ?_
  refine X_iload_n dX12_endsBy_22 rfl rfl ?_
  refine X_iconst (v := 1) dX12_endsBy_23 iconst_1 ?_
  refine X_iadd dX12_endsBy_24 ?_
  refine X_iload_n dX12_endsBy_25 rfl rfl ?_
  refine X_aload_n dX12_endsBy_26 rfl rfl ?_
  refine X_get (v := .int (σ3.1 60 30)) ck_X12 f_X12_262 g_60 rfl (fun _ => rfl) dX12_endsBy_27 ?_
  refine X_aload_n dX12_endsBy_30 rfl rfl ?_
  refine X_get (v := .int (σ3.1 60 31)) ck_X12 f_X12_265 g_60 rfl (fun _ => rfl) dX12_endsBy_31 ?_
  refine X_iload dX12_endsBy_34 rfl ?_
  refine X_callVi [.int a0, .int (b0 + (1 : Int32)), .int c0, .int (σ3.1 60 30), .int (σ3.1 60 31), .int f0] [] c_X12_endsAt v_X12_endsAt lk_X12_394 dX12_endsBy_36 g_60 rfl rfl rfl (by omega) (Nat.le_of_ble_eq_true rfl) rfl (hF a0 (b0 + (1 : Int32)) c0 (σ3.1 60 30) (σ3.1 60 31) f0  σ3 _ h) (fun r5 σ4 h => ?_)
  exact X_reti rfl dX12_endsBy_39 h
def w_X12_endsAt_l32 (a0 : Int32) (b0 : Int32) (c0 : Int32) (d0 : Int32) (e0 : Int32) (f0 : Int32) (Q : Int32 → Sg → Prop) (F : Int32 → Int32 → Int32 → Int32 → Int32 → Int32 → Sg → (Int32 → Sg → Prop) → Prop) : Nat → Int32 → Int32 → Sg → Prop
  | 0, _, _, _ => False
  | n32 + 1, x3, x4, σ5 => if (2 : Int32) ≤ x4 then (Q x3 σ5) else (w_X12_endsBy F a0 b0 c0 d0 e0 f0 x4 σ5 (fun r7 σ6 => bd (fun (x8 : Int32) (σ9 : Sg) => w_X12_endsAt_l32 a0 b0 c0 d0 e0 f0 Q F n32 x8 (x4 + 2) σ9) fun J82 => bd (fun (σ10 : Sg) => J82 r7 σ10) fun J78 => if (b0 - b0 / (2 : Int32) * (2 : Int32)) = 0 then (if x3 ≤ r7 then (J82 x3 σ6) else (J78 σ6)) else (if r7 ≤ x3 then (J82 x3 σ6) else (J78 σ6))))
def w_X12_endsAt_b (F : Int32 → Int32 → Int32 → Int32 → Int32 → Int32 → Sg → (Int32 → Sg → Prop) → Prop) (a0 : Int32) (b0 : Int32) (c0 : Int32) (d0 : Int32) (e0 : Int32) (f0 : Int32) (σ : Sg) (Q : Int32 → Sg → Prop) : Prop := if b0 = c0 then (w_X12_apart d0 f0 σ (fun r12 σ11 => Q r12 σ11)) else (w_X12_endsBy F a0 b0 c0 d0 e0 f0 (0 : Int32) σ (fun r2 σ1 => ∃ n, w_X12_endsAt_l32 a0 b0 c0 d0 e0 f0 Q F n r2 (-1 : Int32) σ1))
set_option maxRecDepth 100000 in
set_option maxHeartbeats 4000000 in
theorem s_X12_endsAt_b (sx : Nat × (Nat → Int32)) (F : Int32 → Int32 → Int32 → Int32 → Int32 → Int32 → Sg → (Int32 → Sg → Prop) → Prop) (dF : Nat) (hF : ∀ (a0 : Int32) (b0 : Int32) (c0 : Int32) (d0 : Int32) (e0 : Int32) (f0 : Int32) (σ : Sg) (Q : Int32 → Sg → Prop), F a0 b0 c0 d0 e0 f0 σ Q → Ct mX12_endsAt dF false (0, 0) sx G0 [.ref 60, .int a0, .int b0, .int c0, .int d0, .int e0, .int f0] σ (qI Q)) (a0 : Int32) (b0 : Int32) (c0 : Int32) (d0 : Int32) (e0 : Int32) (f0 : Int32) (σ : Sg) (Q : Int32 → Sg → Prop) (h : w_X12_endsAt_b F a0 b0 c0 d0 e0 f0 σ Q) : Ct mX12_endsAt (dF + 6) false (0, 0) sx G0 [.ref 60, .int a0, .int b0, .int c0, .int d0, .int e0, .int f0] σ (qI Q) := by
  refine Ct.of (L := [some (.ref 60), some (.int a0), some (.int b0), some (.int c0), some (.int d0), some (.int e0), some (.int f0), none, none, none]) (by decide) (Nat.le_of_ble_eq_true rfl) rfl ?_
  unfold w_X12_endsAt_b at h
  refine X_iload_n dX12_endsAt_0 rfl rfl ?_
  refine X_iload_n dX12_endsAt_1 rfl rfl ?_
  refine X_icmp_ne (tgt := 13) dX12_endsAt_2 (by decide) h (fun h => ?_) (fun h => ?_)
  · refine X_aload_n dX12_endsAt_13 rfl rfl ?_
    refine X_iload_n dX12_endsAt_14 rfl rfl ?_
    refine X_iload_n dX12_endsAt_15 rfl rfl ?_
    refine X_iload_n dX12_endsAt_16 rfl rfl ?_
    refine X_iload dX12_endsAt_17 rfl ?_
    refine X_iload dX12_endsAt_19 rfl ?_
    refine X_iload dX12_endsAt_21 rfl ?_
    refine X_iconst (v := 0) dX12_endsAt_23 iconst_0 ?_
    refine X_callVi [.int a0, .int b0, .int c0, .int d0, .int e0, .int f0, .int (0 : Int32)] [] c_X12_endsBy v_X12_endsBy lk_X12_397 dX12_endsAt_24 g_60 rfl rfl rfl (by omega) (Nat.le_of_ble_eq_true rfl) rfl (s_X12_endsBy sx F dF hF a0 b0 c0 d0 e0 f0 (0 : Int32)  σ _ h) (fun r2 σ1 h => ?_)
    refine X_istore (L' := [some (.ref 60), some (.int a0), some (.int b0), some (.int c0), some (.int d0), some (.int e0), some (.int f0), some (.int r2), none, none]) dX12_endsAt_27 (by decide) rfl ?_
    refine X_iconst (v := -1) dX12_endsAt_29 iconst_m1 ?_
    refine X_istore (L' := [some (.ref 60), some (.int a0), some (.int b0), some (.int c0), some (.int d0), some (.int e0), some (.int f0), some (.int r2), some (.int (-1 : Int32)), none]) dX12_endsAt_30 (by decide) rfl ?_
    obtain ⟨n32, h⟩ := h
    have key32 : ∀ (n : Nat) (x3 : Int32) (x4 : Int32) (σ5 : Sg) , w_X12_endsAt_l32 a0 b0 c0 d0 e0 f0 Q F n x3 x4 σ5 → Ex mX12_endsAt (dF + 6) false (0, 0) sx G0 32 [some (.ref 60), some (.int a0), some (.int b0), some (.int c0), some (.int d0), some (.int e0), some (.int f0), some (.int x3), some (.int x4), none] [] σ5 (qI Q) := by
      intro n32
      induction n32 with
      | zero => intro _ _ _  h; exact h.elim
      | succ n32 ih32 =>
        intro x3 x4 σ5  h
        unfold w_X12_endsAt_l32 at h
        refine X_iload dX12_endsAt_32 rfl ?_
        refine X_iconst (v := 2) dX12_endsAt_34 iconst_2 ?_
        refine X_icmp_ge (tgt := 88) dX12_endsAt_35 (by decide) h (fun h => ?_) (fun h => ?_)
        · refine X_iload dX12_endsAt_88 rfl ?_
          exact X_reti rfl dX12_endsAt_90 h
        · refine X_aload_n dX12_endsAt_38 rfl rfl ?_
          refine X_iload_n dX12_endsAt_39 rfl rfl ?_
          refine X_iload_n dX12_endsAt_40 rfl rfl ?_
          refine X_iload_n dX12_endsAt_41 rfl rfl ?_
          refine X_iload dX12_endsAt_42 rfl ?_
          refine X_iload dX12_endsAt_44 rfl ?_
          refine X_iload dX12_endsAt_46 rfl ?_
          refine X_iload dX12_endsAt_48 rfl ?_
          refine X_callVi [.int a0, .int b0, .int c0, .int d0, .int e0, .int f0, .int x4] [] c_X12_endsBy v_X12_endsBy lk_X12_397 dX12_endsAt_50 g_60 rfl rfl rfl (by omega) (Nat.le_of_ble_eq_true rfl) rfl (s_X12_endsBy sx F dF hF a0 b0 c0 d0 e0 f0 x4  σ5 _ h) (fun r7 σ6 h => ?_)
          refine X_istore (L' := [some (.ref 60), some (.int a0), some (.int b0), some (.int c0), some (.int d0), some (.int e0), some (.int f0), some (.int x3), some (.int x4), some (.int r7)]) dX12_endsAt_53 (by decide) rfl ?_
          refine X_iload_n dX12_endsAt_55 rfl rfl ?_
          refine X_iconst (v := 2) dX12_endsAt_56 iconst_2 ?_
          refine X_irem dX12_endsAt_57 (by decide) ?_
          refine bd_j h (fun J82 e82 h => ?_)
          have j82 : ∀ (x8 : Int32) (σ9 : Sg) , J82 x8 σ9 → Ex mX12_endsAt (dF + 6) false (0, 0) sx G0 82 [some (.ref 60), some (.int a0), some (.int b0), some (.int c0), some (.int d0), some (.int e0), some (.int f0), some (.int x8), some (.int x4), none] [] σ9 (qI Q) := by
            intro x8 σ9  h
            subst e82
            replace h := h
            refine X_iinc (v := (x4 + 2)) (L' := [some (.ref 60), some (.int a0), some (.int b0), some (.int c0), some (.int d0), some (.int e0), some (.int f0), some (.int x8), some (.int (x4 + 2)), none]) dX12_endsAt_82 rfl rfl (by decide) rfl ?_
            refine X_goto (tgt := 32) dX12_endsAt_85 (by decide) ?_
            exact ih32 _ _ _  h
          refine bd_j h (fun J78 e78 h => ?_)
          have j78 : ∀ (σ10 : Sg) , J78  σ10 → Ex mX12_endsAt (dF + 6) false (0, 0) sx G0 78 [some (.ref 60), some (.int a0), some (.int b0), some (.int c0), some (.int d0), some (.int e0), some (.int f0), none, some (.int x4), some (.int r7)] [] σ10 (qI Q) := by
            intro  σ10  h
            subst e78
            replace h := h
            refine X_iload dX12_endsAt_78 rfl ?_
            refine X_istore (L' := [some (.ref 60), some (.int a0), some (.int b0), some (.int c0), some (.int d0), some (.int e0), some (.int f0), some (.int r7), some (.int x4), some (.int r7)]) dX12_endsAt_80 (by decide) rfl ?_
            refine X_drop (L' := [some (.ref 60), some (.int a0), some (.int b0), some (.int c0), some (.int d0), some (.int e0), some (.int f0), some (.int r7), some (.int x4), none]) ⟨rfl, ⟨rfl, ⟨rfl, ⟨rfl, ⟨rfl, ⟨rfl, ⟨rfl, ⟨rfl, ⟨rfl, trivial⟩⟩⟩⟩⟩⟩⟩⟩⟩ ?_
            exact j82 _ _  h
          refine X_if_ne (tgt := 71) dX12_endsAt_58 (by decide) h (fun h => ?_) (fun h => ?_)
          · refine X_iload dX12_endsAt_71 rfl ?_
            refine X_iload dX12_endsAt_73 rfl ?_
            refine X_icmp_le (tgt := 82) dX12_endsAt_75 (by decide) h (fun h => ?_) (fun h => ?_)
            · refine X_drop (L' := [some (.ref 60), some (.int a0), some (.int b0), some (.int c0), some (.int d0), some (.int e0), some (.int f0), some (.int x3), some (.int x4), none]) ⟨rfl, ⟨rfl, ⟨rfl, ⟨rfl, ⟨rfl, ⟨rfl, ⟨rfl, ⟨rfl, ⟨rfl, trivial⟩⟩⟩⟩⟩⟩⟩⟩⟩ ?_
              exact j82 _ _  h
            · refine X_drop (L' := [some (.ref 60), some (.int a0), some (.int b0), some (.int c0), some (.int d0), some (.int e0), some (.int f0), none, some (.int x4), some (.int r7)]) ⟨rfl, ⟨rfl, ⟨rfl, ⟨rfl, ⟨rfl, ⟨rfl, ⟨rfl, ⟨rfl, ⟨rfl, trivial⟩⟩⟩⟩⟩⟩⟩⟩⟩ ?_
              exact j78 _  h
          · refine X_iload dX12_endsAt_61 rfl ?_
            refine X_iload dX12_endsAt_63 rfl ?_
            refine X_icmp_ge (tgt := 82) dX12_endsAt_65 (by decide) h (fun h => ?_) (fun h => ?_)
            · refine X_drop (L' := [some (.ref 60), some (.int a0), some (.int b0), some (.int c0), some (.int d0), some (.int e0), some (.int f0), some (.int x3), some (.int x4), none]) ⟨rfl, ⟨rfl, ⟨rfl, ⟨rfl, ⟨rfl, ⟨rfl, ⟨rfl, ⟨rfl, ⟨rfl, trivial⟩⟩⟩⟩⟩⟩⟩⟩⟩ ?_
              exact j82 _ _  h
            · refine X_goto (tgt := 78) dX12_endsAt_68 (by decide) ?_
              refine X_drop (L' := [some (.ref 60), some (.int a0), some (.int b0), some (.int c0), some (.int d0), some (.int e0), some (.int f0), none, some (.int x4), some (.int r7)]) ⟨rfl, ⟨rfl, ⟨rfl, ⟨rfl, ⟨rfl, ⟨rfl, ⟨rfl, ⟨rfl, ⟨rfl, trivial⟩⟩⟩⟩⟩⟩⟩⟩⟩ ?_
              exact j78 _  h
    exact key32 _ _ _ _  h
  · refine X_iload dX12_endsAt_5 rfl ?_
    refine X_iload dX12_endsAt_7 rfl ?_
    refine X_callSi [.int d0, .int f0] [] c_X12_apart t_X12_apart lk_X12_296 dX12_endsAt_9 rfl (by omega) (Nat.le_of_ble_eq_true rfl) rfl (s_X12_apart sx d0 f0  σ _ h) (fun r12 σ11 h => ?_)
    exact X_reti rfl dX12_endsAt_12 h
def w_X12_endsAt : Nat → Int32 → Int32 → Int32 → Int32 → Int32 → Int32 → Sg → (Int32 → Sg → Prop) → Prop
  | 0 => fun _ _ _ _ _ _ _ _ => False
  | n + 1 => w_X12_endsAt_b (w_X12_endsAt n)
theorem s_X12_endsAt (sx : Nat × (Nat → Int32)) (n : Nat) : ∀ (a0 : Int32) (b0 : Int32) (c0 : Int32) (d0 : Int32) (e0 : Int32) (f0 : Int32) (σ : Sg) (Q : Int32 → Sg → Prop), w_X12_endsAt n a0 b0 c0 d0 e0 f0 σ Q → Ct mX12_endsAt (n * 6) false (0, 0) sx G0 [.ref 60, .int a0, .int b0, .int c0, .int d0, .int e0, .int f0] σ (qI Q) := by
  induction n with
  | zero => intro a0 b0 c0 d0 e0 f0  σ Q h; exact h.elim
  | succ n ih =>
    intro a0 b0 c0 d0 e0 f0  σ Q h
    rw [show (n + 1) * 6 = n * 6 + 6 by omega]
    exact s_X12_endsAt_b sx (w_X12_endsAt n) (n * 6) ih a0 b0 c0 d0 e0 f0  σ Q h
def w_X0_start (a0 : Int32) (b0 : Int32) (c0 : Int32) (σ : Sg) (Q : Int32 → Sg → Prop) : Prop := bd (sI σ 57 4 a0) fun σ1 => w_X0_own (w_X0_run 12) b0 c0 (0 : Int32) σ1 (fun r3 σ2 => Q r3 σ2)
set_option maxRecDepth 100000 in
set_option maxHeartbeats 4000000 in
theorem s_X0_start (sx : Nat × (Nat → Int32)) (a0 : Int32) (b0 : Int32) (c0 : Int32) (σ : Sg) (Q : Int32 → Sg → Prop) (h : w_X0_start a0 b0 c0 σ Q) : Ct mX0_start 51 false (0, 0) sx G0 [.ref 57, .int a0, .int b0, .int c0] σ (qI Q) := by
  refine Ct.of (L := [some (.ref 57), some (.int a0), some (.int b0), some (.int c0)]) (by decide) (Nat.le_of_ble_eq_true rfl) rfl ?_
  unfold w_X0_start at h
  refine X_aload_n dX0_start_0 rfl rfl ?_
  refine X_iload_n dX0_start_1 rfl rfl ?_
  refine X_putI ck_X0 f_X0_36 rfl g_57 rfl rfl rfl dX0_start_2 h (fun σ1 h => ?_)
  refine X_aload_n dX0_start_5 rfl rfl ?_
  refine X_iload_n dX0_start_6 rfl rfl ?_
  refine X_iload_n dX0_start_7 rfl rfl ?_
  refine X_iconst (v := 0) dX0_start_8 iconst_0 ?_
  refine X_callVi [.int b0, .int c0, .int (0 : Int32)] [] c_X0_own v_X0_own lk_X0_39 dX0_start_9 g_57 rfl rfl rfl (by decide) (Nat.le_of_ble_eq_true rfl) rfl (s_X0_own sx (w_X0_run 12) _ (s_X0_run sx 12) b0 c0 (0 : Int32)  σ1 _ h) (fun r3 σ2 h => ?_)
  exact X_reti rfl dX0_start_12 h
def w_X1_herBest_l32 (a0 : Int32) (b0 : Int32) (c0 : Int32) (J86 : Int32 → Int32 → Sg → Prop) : Nat → Int32 → Int32 → Int32 → Sg → Prop
  | 0, _, _, _, _ => False
  | n32 + 1, x6, x7, x8, σ9 => if (3 : Int32) ≤ x8 then (J86 x6 x7 σ9) else (w_X3_standNow (Int32.toNatClampNeg a0) σ9 (fun r11 σ10 => vp_in x8 3 ∧ w_X3_next (Int32.toNatClampNeg a0) r11 (0 : Int32) ((exC 5) (Int32.toNatClampNeg x8)) σ10 (fun r13 σ12 => w_X1_farAtLast 8 (Int32.toNatClampNeg a0) r13 (1 : Int32) c0 b0 σ12 (fun r15 σ14 => bd (fun (x16 : Int32) (x17 : Int32) (σ18 : Sg) => w_X1_herBest_l32 a0 b0 c0 J86 n32 x16 x17 (x8 + 1) σ18) fun J80 => if x6 ≤ r15 then (J80 x6 x7 σ14) else (J80 r15 x8 σ14)))))
def w_X1_herBest (a0 : Int32) (b0 : Int32) (c0 : Int32) (d0 : Int32) (σ : Sg) (Q : Int32 → Sg → Prop) : Prop := vp_in a0 6 ∧ vp_in a0 6 ∧ w_X3_start (Int32.toNatClampNeg a0) (σ.1 4 (Int32.toNatClampNeg a0)) σ (fun  σ2 => bd (fun (x3 : Int32) (x4 : Int32) (σ5 : Sg) => if d0 = 0 then (Q x3 σ5) else (vp_in x4 3 ∧ Q ((1 : Int32) + ((exC 5) (Int32.toNatClampNeg x4))) σ5)) fun J86 => ∃ n, w_X1_herBest_l32 a0 b0 c0 J86 n (2147483647 : Int32) (0 : Int32) (0 : Int32) σ2)
set_option maxRecDepth 100000 in
set_option maxHeartbeats 4000000 in
theorem s_X1_herBest (sx : Nat × (Nat → Int32)) (a0 : Int32) (b0 : Int32) (c0 : Int32) (d0 : Int32) (σ : Sg) (Q : Int32 → Sg → Prop) (h : w_X1_herBest a0 b0 c0 d0 σ Q) : Ct mX1_herBest 41 false (0, 0) sx G0 [.ref 32, .int a0, .int b0, .int c0, .int d0] σ (qI Q) := by
  refine Ct.of (L := [some (.ref 32), some (.int a0), some (.int b0), some (.int c0), some (.int d0), none, none, none, none, none]) (by decide) (Nat.le_of_ble_eq_true rfl) rfl ?_
  unfold w_X1_herBest at h
  refine X_aload_n dX1_herBest_0 rfl rfl ?_
  refine X_get (v := .ref 15) ck_X1 f_X1_27 g_32 rfl (fun _ => rfl) dX1_herBest_1 ?_
  refine X_iload_n dX1_herBest_4 rfl rfl ?_
  have hk1 := vp_lt h.1
  refine X_aald g_15 (Or.inl rfl) dX1_herBest_5 h (fun q => g_coaches (vp_lt q)) (fun h => ?_)
  refine X_astore (L' := [some (.ref 32), some (.int a0), some (.int b0), some (.int c0), some (.int d0), some (.ref (16 + 2 * (Int32.toNatClampNeg a0))), none, none, none, none]) dX1_herBest_6 (by decide) rfl ?_
  refine X_aload dX1_herBest_8 rfl ?_
  refine X_aload_n dX1_herBest_10 rfl rfl ?_
  refine X_get (v := .ref 1) ck_X1 f_X1_23 g_32 rfl (fun _ => rfl) dX1_herBest_11 ?_
  refine X_get (v := .ref 4) ck_X7 f_X1_31 g_1 rfl (fun _ => rfl) dX1_herBest_14 ?_
  refine X_iload_n dX1_herBest_17 rfl rfl ?_
  refine X_iald g_4 dX1_herBest_18 h (fun h => ?_)
  refine X_callVv [.int (σ.1 4 (Int32.toNatClampNeg a0))] [] c_X3_start v_X3_start lk_X1_36 dX1_herBest_19 (g_coach hk1) rfl rfl rfl (by decide) (Nat.le_of_ble_eq_true rfl) rfl (s_X3_start sx (Int32.toNatClampNeg a0) (σ.1 4 (Int32.toNatClampNeg a0)) hk1 σ _ h) (fun  σ2 h => ?_)
  refine X_ldc (v := 2147483647) dX1_herBest_22 k_X1_42 ?_
  refine X_istore (L' := [some (.ref 32), some (.int a0), some (.int b0), some (.int c0), some (.int d0), some (.ref (16 + 2 * (Int32.toNatClampNeg a0))), some (.int (2147483647 : Int32)), none, none, none]) dX1_herBest_24 (by decide) rfl ?_
  refine X_iconst (v := 0) dX1_herBest_26 iconst_0 ?_
  refine X_istore (L' := [some (.ref 32), some (.int a0), some (.int b0), some (.int c0), some (.int d0), some (.ref (16 + 2 * (Int32.toNatClampNeg a0))), some (.int (2147483647 : Int32)), some (.int (0 : Int32)), none, none]) dX1_herBest_27 (by decide) rfl ?_
  refine X_iconst (v := 0) dX1_herBest_29 iconst_0 ?_
  refine X_istore (L' := [some (.ref 32), some (.int a0), some (.int b0), some (.int c0), some (.int d0), some (.ref (16 + 2 * (Int32.toNatClampNeg a0))), some (.int (2147483647 : Int32)), some (.int (0 : Int32)), some (.int (0 : Int32)), none]) dX1_herBest_30 (by decide) rfl ?_
  refine bd_j h (fun J86 e86 h => ?_)
  have j86 : ∀ (x3 : Int32) (x4 : Int32) (σ5 : Sg) , J86 x3 x4 σ5 → Ex mX1_herBest 41 false (0, 0) sx G0 86 [none, none, none, none, some (.int d0), none, some (.int x3), some (.int x4), none, none] [] σ5 (qI Q) := by
    intro x3 x4 σ5  h
    subst e86
    replace h := h
    refine X_iload dX1_herBest_86 rfl ?_
    refine X_if_eq (tgt := 102) dX1_herBest_88 (by decide) h (fun h => ?_) (fun h => ?_)
    · refine X_iload dX1_herBest_102 rfl ?_
      exact X_reti rfl dX1_herBest_104 h
    · refine X_iconst (v := 1) dX1_herBest_91 iconst_1 ?_
      refine X_gets (j := 4) (v := 5) rfl rfl f_X1_66 dX1_herBest_92 ?_
      refine X_iload dX1_herBest_95 rfl ?_
      refine X_ialdX (v := 5) (f := (exC 5)) (n := 3) (by decide) rfl rfl dX1_herBest_97 h (fun h => ?_)
      refine X_iadd dX1_herBest_98 ?_
      refine X_goto (tgt := 104) dX1_herBest_99 (by decide) ?_
      exact X_reti rfl dX1_herBest_104 h
  obtain ⟨n32, h⟩ := h
  have key32 : ∀ (n : Nat) (x6 : Int32) (x7 : Int32) (x8 : Int32) (σ9 : Sg) , w_X1_herBest_l32 a0 b0 c0 J86 n x6 x7 x8 σ9 → Ex mX1_herBest 41 false (0, 0) sx G0 32 [none, none, some (.int b0), some (.int c0), some (.int d0), some (.ref (16 + 2 * (Int32.toNatClampNeg a0))), some (.int x6), some (.int x7), some (.int x8), none] [] σ9 (qI Q) := by
    intro n32
    induction n32 with
    | zero => intro _ _ _ _  h; exact h.elim
    | succ n32 ih32 =>
      intro x6 x7 x8 σ9  h
      unfold w_X1_herBest_l32 at h
      refine X_iload dX1_herBest_32 rfl ?_
      refine X_iconst (v := 3) dX1_herBest_34 iconst_3 ?_
      refine X_icmp_ge (tgt := 86) dX1_herBest_35 (by decide) h (fun h => ?_) (fun h => ?_)
      · refine X_drop (L' := [none, none, none, none, some (.int d0), none, some (.int x6), some (.int x7), none, none]) ⟨rfl, ⟨rfl, ⟨rfl, trivial⟩⟩⟩ ?_
        exact j86 _ _ _  h
      · refine X_aload dX1_herBest_38 rfl ?_
        refine X_aload dX1_herBest_40 rfl ?_
        refine X_aload dX1_herBest_42 rfl ?_
        refine X_callVi [] [.ref (16 + 2 * (Int32.toNatClampNeg a0)), .ref (16 + 2 * (Int32.toNatClampNeg a0))] c_X3_standNow v_X3_standNow lk_X1_49 dX1_herBest_44 (g_coach hk1) rfl rfl rfl (by decide) (Nat.le_of_ble_eq_true rfl) rfl (s_X3_standNow sx (Int32.toNatClampNeg a0) hk1 σ9 _ h) (fun r11 σ10 h => ?_)
        refine X_iconst (v := 0) dX1_herBest_47 iconst_0 ?_
        refine X_gets (j := 4) (v := 5) rfl rfl f_X1_66 dX1_herBest_48 ?_
        refine X_iload dX1_herBest_51 rfl ?_
        refine X_ialdX (v := 5) (f := (exC 5)) (n := 3) (by decide) rfl rfl dX1_herBest_53 h (fun h => ?_)
        refine X_callVi [.int r11, .int (0 : Int32), .int ((exC 5) (Int32.toNatClampNeg x8))] [.ref (16 + 2 * (Int32.toNatClampNeg a0))] c_X3_next v_X3_next lk_X1_69 dX1_herBest_54 (g_coach hk1) rfl rfl rfl (by decide) (Nat.le_of_ble_eq_true rfl) rfl (s_X3_next sx (Int32.toNatClampNeg a0) r11 (0 : Int32) ((exC 5) (Int32.toNatClampNeg x8)) hk1 σ10 _ h) (fun r13 σ12 h => ?_)
        refine X_iconst (v := 1) dX1_herBest_57 iconst_1 ?_
        refine X_iload_n dX1_herBest_58 rfl rfl ?_
        refine X_iload_n dX1_herBest_59 rfl rfl ?_
        refine X_callSi [.ref (16 + 2 * (Int32.toNatClampNeg a0)), .int r13, .int (1 : Int32), .int c0, .int b0] [] c_X1_farAtLast t_X1_farAtLast lk_X1_102 dX1_herBest_60 rfl (by decide) (Nat.le_of_ble_eq_true rfl) rfl (s_X1_farAtLast sx 8 (Int32.toNatClampNeg a0) r13 (1 : Int32) c0 b0 hk1 σ12 _ h) (fun r15 σ14 h => ?_)
        refine X_istore (L' := [none, none, some (.int b0), some (.int c0), some (.int d0), some (.ref (16 + 2 * (Int32.toNatClampNeg a0))), some (.int x6), some (.int x7), some (.int x8), some (.int r15)]) dX1_herBest_63 (by decide) rfl ?_
        refine X_iload dX1_herBest_65 rfl ?_
        refine X_iload dX1_herBest_67 rfl ?_
        refine bd_j h (fun J80 e80 h => ?_)
        have j80 : ∀ (x16 : Int32) (x17 : Int32) (σ18 : Sg) , J80 x16 x17 σ18 → Ex mX1_herBest 41 false (0, 0) sx G0 80 [none, none, some (.int b0), some (.int c0), some (.int d0), some (.ref (16 + 2 * (Int32.toNatClampNeg a0))), some (.int x16), some (.int x17), some (.int x8), none] [] σ18 (qI Q) := by
          intro x16 x17 σ18  h
          subst e80
          replace h := h
          refine X_iinc (v := (x8 + 1)) (L' := [none, none, some (.int b0), some (.int c0), some (.int d0), some (.ref (16 + 2 * (Int32.toNatClampNeg a0))), some (.int x16), some (.int x17), some (.int (x8 + 1)), none]) dX1_herBest_80 rfl rfl (by decide) rfl ?_
          refine X_goto (tgt := 32) dX1_herBest_83 (by decide) ?_
          exact ih32 _ _ _ _  h
        refine X_icmp_ge (tgt := 80) dX1_herBest_69 (by decide) h (fun h => ?_) (fun h => ?_)
        · refine X_drop (L' := [none, none, some (.int b0), some (.int c0), some (.int d0), some (.ref (16 + 2 * (Int32.toNatClampNeg a0))), some (.int x6), some (.int x7), some (.int x8), none]) ⟨rfl, ⟨rfl, ⟨rfl, ⟨rfl, ⟨rfl, ⟨rfl, ⟨rfl, trivial⟩⟩⟩⟩⟩⟩⟩ ?_
          exact j80 _ _ _  h
        · refine X_iload dX1_herBest_72 rfl ?_
          refine X_istore (L' := [none, none, some (.int b0), some (.int c0), some (.int d0), some (.ref (16 + 2 * (Int32.toNatClampNeg a0))), some (.int r15), some (.int x7), some (.int x8), some (.int r15)]) dX1_herBest_74 (by decide) rfl ?_
          refine X_iload dX1_herBest_76 rfl ?_
          refine X_istore (L' := [none, none, some (.int b0), some (.int c0), some (.int d0), some (.ref (16 + 2 * (Int32.toNatClampNeg a0))), some (.int r15), some (.int x8), some (.int x8), some (.int r15)]) dX1_herBest_78 (by decide) rfl ?_
          refine X_drop (L' := [none, none, some (.int b0), some (.int c0), some (.int d0), some (.ref (16 + 2 * (Int32.toNatClampNeg a0))), some (.int r15), some (.int x8), some (.int x8), none]) ⟨rfl, ⟨rfl, ⟨rfl, ⟨rfl, ⟨rfl, ⟨rfl, ⟨rfl, trivial⟩⟩⟩⟩⟩⟩⟩ ?_
          exact j80 _ _ _  h
  refine X_drop (L' := [none, none, some (.int b0), some (.int c0), some (.int d0), some (.ref (16 + 2 * (Int32.toNatClampNeg a0))), some (.int (2147483647 : Int32)), some (.int (0 : Int32)), some (.int (0 : Int32)), none]) ⟨rfl, ⟨rfl, ⟨rfl, ⟨rfl, ⟨rfl, ⟨rfl, ⟨rfl, trivial⟩⟩⟩⟩⟩⟩⟩ ?_
  exact key32 _ _ _ _ _  h
def w_X11_byTurns (a0 : Int32) (b0 : Int32) (c0 : Int32) (σ : Sg) (Q : Int32 → Sg → Prop) : Prop := w_X11_isPair a0 σ (fun r2 σ1 => if r2 = 0 then (Q (-1 : Int32) σ1) else (w_X11_within b0 (1 : Int32) (6 : Int32) σ1 (fun r4 σ3 => if r4 = 0 then (Q (-1 : Int32) σ3) else (w_X11_within c0 (0 : Int32) (1 : Int32) σ3 (fun r6 σ5 => if r6 = 0 then (Q (-1 : Int32) σ5) else (vp_in (a0 - a0 / (10 : Int32) * (10 : Int32)) 8 ∧ bd (fun (x7 : Int32) (x8 : Int32) (x9 : Int32) (x10 : Int32) (σ11 : Sg) => w_X1_herBest x7 x8 x9 x10 σ11 (fun r13 σ12 => Q r13 σ12)) fun J60 => if c0 = (1 : Int32) then (J60 (a0 / (10 : Int32)) (σ5.1 6 (Int32.toNatClampNeg (a0 - a0 / (10 : Int32) * (10 : Int32)))) b0 (1 : Int32) σ5) else (J60 (a0 / (10 : Int32)) (σ5.1 6 (Int32.toNatClampNeg (a0 - a0 / (10 : Int32) * (10 : Int32)))) b0 (0 : Int32) σ5)))))))
set_option maxRecDepth 100000 in
set_option maxHeartbeats 4000000 in
theorem s_X11_byTurns (sx : Nat × (Nat → Int32)) (a0 : Int32) (b0 : Int32) (c0 : Int32) (σ : Sg) (Q : Int32 → Sg → Prop) (h : w_X11_byTurns a0 b0 c0 σ Q) : Ct mX11_byTurns 42 false (0, 0) sx G0 [.ref 0, .int a0, .int b0, .int c0] σ (qI Q) := by
  refine Ct.of (L := [some (.ref 0), some (.int a0), some (.int b0), some (.int c0)]) (by decide) (Nat.le_of_ble_eq_true rfl) rfl ?_
  unfold w_X11_byTurns at h
  refine X_aload_n dX11_byTurns_0 rfl rfl ?_
  refine X_iload_n dX11_byTurns_1 rfl rfl ?_
  refine X_callVi [.int a0] [] c_X11_isPair v_X11_isPair lk_X11_190 dX11_byTurns_2 g_0 rfl rfl rfl (by decide) (Nat.le_of_ble_eq_true rfl) rfl (s_X11_isPair sx a0  σ _ h) (fun r2 σ1 h => ?_)
  refine X_if_eq (tgt := 27) dX11_byTurns_5 (by decide) h (fun h => ?_) (fun h => ?_)
  · refine X_iconst (v := -1) dX11_byTurns_27 iconst_m1 ?_
    exact X_reti rfl dX11_byTurns_28 h
  · refine X_iload_n dX11_byTurns_8 rfl rfl ?_
    refine X_iconst (v := 1) dX11_byTurns_9 iconst_1 ?_
    refine X_bipush (v := 6) dX11_byTurns_10 bipush_6 ?_
    refine X_callSi [.int b0, .int (1 : Int32), .int (6 : Int32)] [] c_X11_within t_X11_within lk_X11_110 dX11_byTurns_12 rfl (by decide) (Nat.le_of_ble_eq_true rfl) rfl (s_X11_within sx b0 (1 : Int32) (6 : Int32)  σ1 _ h) (fun r4 σ3 h => ?_)
    refine X_if_eq (tgt := 27) dX11_byTurns_15 (by decide) h (fun h => ?_) (fun h => ?_)
    · refine X_iconst (v := -1) dX11_byTurns_27 iconst_m1 ?_
      exact X_reti rfl dX11_byTurns_28 h
    · refine X_iload_n dX11_byTurns_18 rfl rfl ?_
      refine X_iconst (v := 0) dX11_byTurns_19 iconst_0 ?_
      refine X_iconst (v := 1) dX11_byTurns_20 iconst_1 ?_
      refine X_callSi [.int c0, .int (0 : Int32), .int (1 : Int32)] [] c_X11_within t_X11_within lk_X11_110 dX11_byTurns_21 rfl (by decide) (Nat.le_of_ble_eq_true rfl) rfl (s_X11_within sx c0 (0 : Int32) (1 : Int32)  σ3 _ h) (fun r6 σ5 h => ?_)
      refine X_if_ne (tgt := 29) dX11_byTurns_24 (by decide) h (fun h => ?_) (fun h => ?_)
      · refine X_aload_n dX11_byTurns_29 rfl rfl ?_
        refine X_get (v := .ref 32) ck_X11 f_X11_64 g_0 rfl (fun _ => rfl) dX11_byTurns_30 ?_
        refine X_iload_n dX11_byTurns_33 rfl rfl ?_
        refine X_bipush (v := 10) dX11_byTurns_34 bipush_10 ?_
        refine X_idiv dX11_byTurns_36 (by decide) ?_
        refine X_aload_n dX11_byTurns_37 rfl rfl ?_
        refine X_get (v := .ref 1) ck_X11 f_X11_10 g_0 rfl (fun _ => rfl) dX11_byTurns_38 ?_
        refine X_get (v := .ref 6) ck_X7 f_X11_193 g_1 rfl (fun _ => rfl) dX11_byTurns_41 ?_
        refine X_iload_n dX11_byTurns_44 rfl rfl ?_
        refine X_bipush (v := 10) dX11_byTurns_45 bipush_10 ?_
        refine X_irem dX11_byTurns_47 (by decide) ?_
        refine X_iald g_6 dX11_byTurns_48 h (fun h => ?_)
        refine X_iload_n dX11_byTurns_49 rfl rfl ?_
        refine X_iload_n dX11_byTurns_50 rfl rfl ?_
        refine X_iconst (v := 1) dX11_byTurns_51 iconst_1 ?_
        refine bd_j h (fun J60 e60 h => ?_)
        have j60 : ∀ (x7 : Int32) (x8 : Int32) (x9 : Int32) (x10 : Int32) (σ11 : Sg) , J60 x7 x8 x9 x10 σ11 → Ex mX11_byTurns 42 false (0, 0) sx G0 60 [none, none, none, none] [.int x10, .int x9, .int x8, .int x7, .ref 32] σ11 (qI Q) := by
          intro x7 x8 x9 x10 σ11  h
          subst e60
          replace h := h
          refine X_callVi [.int x7, .int x8, .int x9, .int x10] [] c_X1_herBest v_X1_herBest lk_X11_281 dX11_byTurns_60 g_32 rfl rfl rfl (by decide) (Nat.le_of_ble_eq_true rfl) rfl (s_X1_herBest sx x7 x8 x9 x10  σ11 _ h) (fun r13 σ12 h => ?_)
          exact X_reti rfl dX11_byTurns_63 h
        refine X_icmp_ne (tgt := 59) dX11_byTurns_52 (by decide) h (fun h => ?_) (fun h => ?_)
        · refine X_iconst (v := 0) dX11_byTurns_59 iconst_0 ?_
          refine X_drop (L' := [none, none, none, none]) trivial ?_
          exact j60 _ _ _ _ _  h
        · refine X_iconst (v := 1) dX11_byTurns_55 iconst_1 ?_
          refine X_goto (tgt := 60) dX11_byTurns_56 (by decide) ?_
          refine X_drop (L' := [none, none, none, none]) trivial ?_
          exact j60 _ _ _ _ _  h
      · refine X_iconst (v := -1) dX11_byTurns_27 iconst_m1 ?_
        exact X_reti rfl dX11_byTurns_28 h
def w_X11_act (a0 : Int32) (b0 : Int32) (c0 : Int32) (σ : Sg) (Q : Int32 → Sg → Prop) : Prop := w_X0_forgetTrace  σ (fun  σ1 => w_X0_has a0 σ1 (fun r3 σ2 => if r3 = 0 then (Q (0 : Int32) σ2) else (w_X11_within b0 (0 : Int32) (3 : Int32) σ2 (fun r5 σ4 => if r5 = 0 then (Q (0 : Int32) σ4) else (w_X0_start a0 b0 c0 σ4 (fun r7 σ6 => Q r7 σ6))))))
set_option maxRecDepth 100000 in
set_option maxHeartbeats 4000000 in
theorem s_X11_act (sx : Nat × (Nat → Int32)) (a0 : Int32) (b0 : Int32) (c0 : Int32) (σ : Sg) (Q : Int32 → Sg → Prop) (h : w_X11_act a0 b0 c0 σ Q) : Ct mX11_act 52 false (0, 0) sx G0 [.ref 0, .int a0, .int b0, .int c0] σ (qI Q) := by
  refine Ct.of (L := [some (.ref 0), some (.int a0), some (.int b0), some (.int c0)]) (by decide) (Nat.le_of_ble_eq_true rfl) rfl ?_
  unfold w_X11_act at h
  refine X_aload_n dX11_act_0 rfl rfl ?_
  refine X_get (v := .ref 57) ck_X11 f_X11_94 g_0 rfl (fun _ => rfl) dX11_act_1 ?_
  refine X_callVv [] [] c_X0_forgetTrace v_X0_forgetTrace lk_X11_325 dX11_act_4 g_57 rfl rfl rfl (by decide) (Nat.le_of_ble_eq_true rfl) rfl (s_X0_forgetTrace sx   σ _ h) (fun  σ1 h => ?_)
  refine X_aload_n dX11_act_7 rfl rfl ?_
  refine X_get (v := .ref 57) ck_X11 f_X11_94 g_0 rfl (fun _ => rfl) dX11_act_8 ?_
  refine X_iload_n dX11_act_11 rfl rfl ?_
  refine X_callVi [.int a0] [] c_X0_has v_X0_has lk_X11_328 dX11_act_12 g_57 rfl rfl rfl (by decide) (Nat.le_of_ble_eq_true rfl) rfl (s_X0_has sx a0  σ1 _ h) (fun r3 σ2 h => ?_)
  refine X_if_eq (tgt := 27) dX11_act_15 (by decide) h (fun h => ?_) (fun h => ?_)
  · refine X_iconst (v := 0) dX11_act_27 iconst_0 ?_
    exact X_reti rfl dX11_act_28 h
  · refine X_iload_n dX11_act_18 rfl rfl ?_
    refine X_iconst (v := 0) dX11_act_19 iconst_0 ?_
    refine X_iconst (v := 3) dX11_act_20 iconst_3 ?_
    refine X_callSi [.int b0, .int (0 : Int32), .int (3 : Int32)] [] c_X11_within t_X11_within lk_X11_110 dX11_act_21 rfl (by decide) (Nat.le_of_ble_eq_true rfl) rfl (s_X11_within sx b0 (0 : Int32) (3 : Int32)  σ2 _ h) (fun r5 σ4 h => ?_)
    refine X_if_ne (tgt := 29) dX11_act_24 (by decide) h (fun h => ?_) (fun h => ?_)
    · refine X_aload_n dX11_act_29 rfl rfl ?_
      refine X_get (v := .ref 57) ck_X11 f_X11_94 g_0 rfl (fun _ => rfl) dX11_act_30 ?_
      refine X_iload_n dX11_act_33 rfl rfl ?_
      refine X_iload_n dX11_act_34 rfl rfl ?_
      refine X_iload_n dX11_act_35 rfl rfl ?_
      refine X_callVi [.int a0, .int b0, .int c0] [] c_X0_start v_X0_start lk_X11_330 dX11_act_36 g_57 rfl rfl rfl (by decide) (Nat.le_of_ble_eq_true rfl) rfl (s_X0_start sx a0 b0 c0  σ4 _ h) (fun r7 σ6 h => ?_)
      exact X_reti rfl dX11_act_39 h
    · refine X_iconst (v := 0) dX11_act_27 iconst_0 ?_
      exact X_reti rfl dX11_act_28 h
def w_X12_line (σ : Sg) (Q : Sg → Prop) : Prop := bd ((61 : Int32) + (σ.1 75 (Int32.toNatClampNeg (1 : Int32)))) fun x1 => vp_in x1 122 ∧ bd (sI σ 76 (Int32.toNatClampNeg x1) (vp_nar .short (Int16.toInt32 (Int32.toInt16 (σ.1 60 21))))) fun σ2 => w_X12_either (w_X12_operand 8)  σ2 (fun  σ3 => bd (fun (σ4 : Sg) => vp_in x1 122 ∧ bd (sI σ4 77 (Int32.toNatClampNeg x1) (vp_nar .short (Int16.toInt32 (Int32.toInt16 (σ4.1 60 21))))) fun σ5 => bd (sI σ5 75 (Int32.toNatClampNeg (1 : Int32)) ((σ5.1 75 (Int32.toNatClampNeg (1 : Int32))) + (1 : Int32))) fun σ6 => Q σ6) fun J66 => if 0 ≤ (σ3.1 60 19) then (J66 σ3) else (w_X12_look  σ3 (fun r8 σ7 => if r8 = (63 : Int32) then (bd (sI σ7 60 18 ((σ7.1 60 18) + (1 : Int32))) fun σ9 => vp_in x1 122 ∧ bd (sI σ9 76 (Int32.toNatClampNeg x1) (vp_nar .short (Int16.toInt32 (Int32.toInt16 (σ9.1 60 21))))) fun σ10 => w_X12_either (w_X12_operand 8)  σ10 (fun  σ11 => J66 σ11)) else (J66 σ7))))
set_option maxRecDepth 100000 in
set_option maxHeartbeats 4000000 in
theorem s_X12_line (sx : Nat × (Nat → Int32)) (σ : Sg) (Q : Sg → Prop) (h : w_X12_line σ Q) : Ct mX12_line 54 false (0, 0) sx G0 [.ref 60] σ (qV Q) := by
  refine Ct.of (L := [some (.ref 60), none]) (by decide) (Nat.le_of_ble_eq_true rfl) rfl ?_
  unfold w_X12_line at h
  refine X_bipush (v := 61) dX12_line_0 bipush_61 ?_
  refine X_aload_n dX12_line_2 rfl rfl ?_
  refine X_get (v := .ref 75) ck_X12 f_X12_55 g_60 rfl (fun _ => rfl) dX12_line_3 ?_
  refine X_iconst (v := 1) dX12_line_6 iconst_1 ?_
  refine X_iald g_75 dX12_line_7 ⟨(by unfold vp_in; decide), h⟩ (fun h => ?_)
  refine X_iadd dX12_line_8 ?_
  refine X_topI h (fun x1 h => ?_)
  refine X_istore_n (L' := [some (.ref 60), some (.int x1)]) dX12_line_9 rfl (by decide) rfl ?_
  refine X_aload_n dX12_line_10 rfl rfl ?_
  refine X_get (v := .ref 76) ck_X12 f_X12_58 g_60 rfl (fun _ => rfl) dX12_line_11 ?_
  refine X_iload_n dX12_line_14 rfl rfl ?_
  refine X_aload_n dX12_line_15 rfl rfl ?_
  refine X_get (v := .int (σ.1 60 21)) ck_X12 f_X12_187 g_60 rfl (fun _ => rfl) dX12_line_16 ?_
  refine X_i2s dX12_line_19 ?_
  refine X_sast g_76 dX12_line_20 h (fun σ2 h => ?_)
  refine X_aload_n dX12_line_21 rfl rfl ?_
  refine X_callVv [] [] c_X12_either v_X12_either lk_X12_215 dX12_line_22 g_60 rfl rfl rfl (by decide) (Nat.le_of_ble_eq_true rfl) rfl (s_X12_either sx (w_X12_operand 8) _ (s_X12_operand sx 8)   σ2 _ h) (fun  σ3 h => ?_)
  refine X_aload_n dX12_line_25 rfl rfl ?_
  refine X_get (v := .int (σ3.1 60 19)) ck_X12 f_X12_184 g_60 rfl (fun _ => rfl) dX12_line_26 ?_
  refine bd_j h (fun J66 e66 h => ?_)
  have j66 : ∀ (σ4 : Sg) , J66  σ4 → Ex mX12_line 54 false (0, 0) sx G0 66 [some (.ref 60), some (.int x1)] [] σ4 (qV Q) := by
    intro  σ4  h
    subst e66
    replace h := h
    refine X_aload_n dX12_line_66 rfl rfl ?_
    refine X_get (v := .ref 77) ck_X12 f_X12_62 g_60 rfl (fun _ => rfl) dX12_line_67 ?_
    refine X_iload_n dX12_line_70 rfl rfl ?_
    refine X_aload_n dX12_line_71 rfl rfl ?_
    refine X_get (v := .int (σ4.1 60 21)) ck_X12 f_X12_187 g_60 rfl (fun _ => rfl) dX12_line_72 ?_
    refine X_i2s dX12_line_75 ?_
    refine X_sast g_77 dX12_line_76 h (fun σ5 h => ?_)
    refine X_aload_n dX12_line_77 rfl rfl ?_
    refine X_get (v := .ref 75) ck_X12 f_X12_55 g_60 rfl (fun _ => rfl) dX12_line_78 ?_
    refine X_iconst (v := 1) dX12_line_81 iconst_1 ?_
    refine X_dup2 dX12_line_82 rfl rfl ?_
    refine X_iald g_75 dX12_line_83 ⟨(by unfold vp_in; decide), h⟩ (fun h => ?_)
    refine X_iconst (v := 1) dX12_line_84 iconst_1 ?_
    refine X_iadd dX12_line_85 ?_
    refine X_iast g_75 dX12_line_86 ⟨(by unfold vp_in; decide), h⟩ (fun σ6 h => ?_)
    exact X_retv rfl dX12_line_87 h
  refine X_if_ge (tgt := 66) dX12_line_29 (by decide) h (fun h => ?_) (fun h => ?_)
  · exact j66 _  h
  · refine X_aload_n dX12_line_32 rfl rfl ?_
    refine X_callVi [] [] c_X12_look v_X12_look lk_X12_196 dX12_line_33 g_60 rfl rfl rfl (by decide) (Nat.le_of_ble_eq_true rfl) rfl (s_X12_look sx   σ3 _ h) (fun r8 σ7 h => ?_)
    refine X_bipush (v := 63) dX12_line_36 bipush_63 ?_
    refine X_icmp_ne (tgt := 66) dX12_line_38 (by decide) h (fun h => ?_) (fun h => ?_)
    · exact j66 _  h
    · refine X_aload_n dX12_line_41 rfl rfl ?_
      refine X_dup dX12_line_42 rfl ?_
      refine X_get (v := .int (σ7.1 60 18)) ck_X12 f_X12_181 g_60 rfl (fun _ => rfl) dX12_line_43 ?_
      refine X_iconst (v := 1) dX12_line_46 iconst_1 ?_
      refine X_iadd dX12_line_47 ?_
      refine X_putI ck_X12 f_X12_181 rfl g_60 rfl rfl rfl dX12_line_48 h (fun σ9 h => ?_)
      refine X_aload_n dX12_line_51 rfl rfl ?_
      refine X_get (v := .ref 76) ck_X12 f_X12_58 g_60 rfl (fun _ => rfl) dX12_line_52 ?_
      refine X_iload_n dX12_line_55 rfl rfl ?_
      refine X_aload_n dX12_line_56 rfl rfl ?_
      refine X_get (v := .int (σ9.1 60 21)) ck_X12 f_X12_187 g_60 rfl (fun _ => rfl) dX12_line_57 ?_
      refine X_i2s dX12_line_60 ?_
      refine X_sast g_76 dX12_line_61 h (fun σ10 h => ?_)
      refine X_aload_n dX12_line_62 rfl rfl ?_
      refine X_callVv [] [] c_X12_either v_X12_either lk_X12_215 dX12_line_63 g_60 rfl rfl rfl (by decide) (Nat.le_of_ble_eq_true rfl) rfl (s_X12_either sx (w_X12_operand 8) _ (s_X12_operand sx 8)   σ10 _ h) (fun  σ11 h => ?_)
      exact j66 _  h
def w_X12_readText_l177 (a0 : Int32) (Q : Int32 → Sg → Prop) : Nat → Int32 → Sg → Prop
  | 0, _, _ => False
  | n177 + 1, x12, σ13 => vp_in a0 2 ∧ if (σ13.1 75 (Int32.toNatClampNeg a0)) ≤ x12 then (Q (-1 : Int32) σ13) else (vp_in ((61 : Int32) + x12) 122 ∧ vp_in (((61 : Int32) * a0) + x12) 122 ∧ bd (sI σ13 76 (Int32.toNatClampNeg (((61 : Int32) * a0) + x12)) (vp_nar .short (σ13.1 76 (Int32.toNatClampNeg ((61 : Int32) + x12))))) fun σ14 => vp_in ((61 : Int32) + x12) 122 ∧ vp_in (((61 : Int32) * a0) + x12) 122 ∧ bd (sI σ14 77 (Int32.toNatClampNeg (((61 : Int32) * a0) + x12)) (vp_nar .short (σ14.1 77 (Int32.toNatClampNeg ((61 : Int32) + x12))))) fun σ15 => w_X12_readText_l177 a0 Q n177 (x12 + 1) σ15)
def w_X12_readText_l105 (a0 : Int32) (J163 : Sg → Prop) : Nat → Int32 → Sg → Prop
  | 0, _, _ => False
  | n105 + 1, x16, σ17 => if (σ17.1 60 21) ≤ x16 then (J163 σ17) else (vp_in ((130 : Int32) + x16) 260 ∧ vp_in (((130 : Int32) * a0) + x16) 260 ∧ bd (sI σ17 73 (Int32.toNatClampNeg (((130 : Int32) * a0) + x16)) (vp_nar .byte (σ17.1 73 (Int32.toNatClampNeg ((130 : Int32) + x16))))) fun σ18 => vp_in ((130 : Int32) + x16) 260 ∧ vp_in (((130 : Int32) * a0) + x16) 260 ∧ bd (sI σ18 74 (Int32.toNatClampNeg (((130 : Int32) * a0) + x16)) (σ18.1 74 (Int32.toNatClampNeg ((130 : Int32) + x16)))) fun σ19 => w_X12_readText_l105 a0 J163 n105 (x16 + 1) σ19)
def w_X12_readText_l31 (J64 : Sg → Prop) : Nat → Sg → Prop
  | 0, _ => False
  | n31 + 1, σ21 => if 0 ≤ (σ21.1 60 19) then (J64 σ21) else (w_X12_look  σ21 (fun r23 σ22 => if r23 = (59 : Int32) then (bd (sI σ22 60 18 ((σ22.1 60 18) + (1 : Int32))) fun σ24 => w_X12_line  σ24 (fun  σ25 => w_X12_readText_l31 J64 n31 σ25)) else (J64 σ22)))
def w_X12_readText (a0 : Int32) (σ : Sg) (Q : Int32 → Sg → Prop) : Prop := bd (sI σ 60 18 (0 : Int32)) fun σ1 => bd (sI σ1 60 19 (-1 : Int32)) fun σ2 => bd (sI σ2 60 20 (0 : Int32)) fun σ3 => bd (sI σ3 60 21 (0 : Int32)) fun σ4 => bd (sI σ4 75 (Int32.toNatClampNeg (1 : Int32)) (0 : Int32)) fun σ5 => w_X12_line  σ5 (fun  σ6 => bd (fun (σ7 : Sg) => bd (fun (σ8 : Sg) => bd (sI σ8 60 17 (0 : Int32)) fun σ9 => if (σ9.1 60 19) < 0 then (bd (fun (σ10 : Sg) => vp_in a0 2 ∧ bd (sI σ10 75 (Int32.toNatClampNeg a0) (σ10.1 75 (Int32.toNatClampNeg (1 : Int32)))) fun σ11 => ∃ n, w_X12_readText_l177 a0 Q n (0 : Int32) σ11) fun J163 => ∃ n, w_X12_readText_l105 a0 J163 n (0 : Int32) σ9) else (Q (σ9.1 60 19) σ9)) fun J86 => if 0 ≤ (σ7.1 60 19) then (J86 σ7) else (if (σ7.1 60 17) ≤ (σ7.1 60 18) then (J86 σ7) else (w_X12_wrong  σ7 (fun  σ20 => J86 σ20)))) fun J64 => ∃ n, w_X12_readText_l31 J64 n σ6)
set_option maxRecDepth 100000 in
set_option maxHeartbeats 4000000 in
theorem s_X12_readText (sx : Nat × (Nat → Int32)) (a0 : Int32) (σ : Sg) (Q : Int32 → Sg → Prop) (h : w_X12_readText a0 σ Q) : Ct mX12_readText 55 false (0, 0) sx G0 [.ref 60, .int a0] σ (qI Q) := by
  refine Ct.of (L := [some (.ref 60), some (.int a0), none]) (by decide) (Nat.le_of_ble_eq_true rfl) rfl ?_
  unfold w_X12_readText at h
  refine X_aload_n dX12_readText_0 rfl rfl ?_
  refine X_iconst (v := 0) dX12_readText_1 iconst_0 ?_
  refine X_putI ck_X12 f_X12_181 rfl g_60 rfl rfl rfl dX12_readText_2 h (fun σ1 h => ?_)
  refine X_aload_n dX12_readText_5 rfl rfl ?_
  refine X_iconst (v := -1) dX12_readText_6 iconst_m1 ?_
  refine X_putI ck_X12 f_X12_184 rfl g_60 rfl rfl rfl dX12_readText_7 h (fun σ2 h => ?_)
  refine X_aload_n dX12_readText_10 rfl rfl ?_
  refine X_iconst (v := 0) dX12_readText_11 iconst_0 ?_
  refine X_putI ck_X12 f_X12_190 rfl g_60 rfl rfl rfl dX12_readText_12 h (fun σ3 h => ?_)
  refine X_aload_n dX12_readText_15 rfl rfl ?_
  refine X_iconst (v := 0) dX12_readText_16 iconst_0 ?_
  refine X_putI ck_X12 f_X12_187 rfl g_60 rfl rfl rfl dX12_readText_17 h (fun σ4 h => ?_)
  refine X_aload_n dX12_readText_20 rfl rfl ?_
  refine X_get (v := .ref 75) ck_X12 f_X12_55 g_60 rfl (fun _ => rfl) dX12_readText_21 ?_
  refine X_iconst (v := 1) dX12_readText_24 iconst_1 ?_
  refine X_iconst (v := 0) dX12_readText_25 iconst_0 ?_
  refine X_iast g_75 dX12_readText_26 ⟨(by unfold vp_in; decide), h⟩ (fun σ5 h => ?_)
  refine X_aload_n dX12_readText_27 rfl rfl ?_
  refine X_callVv [] [] c_X12_line v_X12_line lk_X12_233 dX12_readText_28 g_60 rfl rfl rfl (by decide) (Nat.le_of_ble_eq_true rfl) rfl (s_X12_line sx   σ5 _ h) (fun  σ6 h => ?_)
  refine bd_j h (fun J64 e64 h => ?_)
  have j64 : ∀ (σ7 : Sg) , J64  σ7 → Ex mX12_readText 55 false (0, 0) sx G0 64 [some (.ref 60), some (.int a0), none] [] σ7 (qI Q) := by
    intro  σ7  h
    subst e64
    replace h := h
    refine X_aload_n dX12_readText_64 rfl rfl ?_
    refine X_get (v := .int (σ7.1 60 19)) ck_X12 f_X12_184 g_60 rfl (fun _ => rfl) dX12_readText_65 ?_
    refine bd_j h (fun J86 e86 h => ?_)
    have j86 : ∀ (σ8 : Sg) , J86  σ8 → Ex mX12_readText 55 false (0, 0) sx G0 86 [some (.ref 60), some (.int a0), none] [] σ8 (qI Q) := by
      intro  σ8  h
      subst e86
      replace h := h
      refine X_aload_n dX12_readText_86 rfl rfl ?_
      refine X_iconst (v := 0) dX12_readText_87 iconst_0 ?_
      refine X_putI ck_X12 f_X12_178 rfl g_60 rfl rfl rfl dX12_readText_88 h (fun σ9 h => ?_)
      refine X_aload_n dX12_readText_91 rfl rfl ?_
      refine X_get (v := .int (σ9.1 60 19)) ck_X12 f_X12_184 g_60 rfl (fun _ => rfl) dX12_readText_92 ?_
      refine X_if_lt (tgt := 103) dX12_readText_95 (by decide) h (fun h => ?_) (fun h => ?_)
      · refine X_iconst (v := 0) dX12_readText_103 iconst_0 ?_
        refine X_istore_n (L' := [some (.ref 60), some (.int a0), some (.int (0 : Int32))]) dX12_readText_104 rfl (by decide) rfl ?_
        refine bd_j h (fun J163 e163 h => ?_)
        have j163 : ∀ (σ10 : Sg) , J163  σ10 → Ex mX12_readText 55 false (0, 0) sx G0 163 [some (.ref 60), some (.int a0), none] [] σ10 (qI Q) := by
          intro  σ10  h
          subst e163
          replace h := h
          refine X_aload_n dX12_readText_163 rfl rfl ?_
          refine X_get (v := .ref 75) ck_X12 f_X12_55 g_60 rfl (fun _ => rfl) dX12_readText_164 ?_
          refine X_iload_n dX12_readText_167 rfl rfl ?_
          refine X_aload_n dX12_readText_168 rfl rfl ?_
          refine X_get (v := .ref 75) ck_X12 f_X12_55 g_60 rfl (fun _ => rfl) dX12_readText_169 ?_
          refine X_iconst (v := 1) dX12_readText_172 iconst_1 ?_
          refine X_iald g_75 dX12_readText_173 ⟨(by unfold vp_in; decide), h⟩ (fun h => ?_)
          refine X_iast g_75 dX12_readText_174 h (fun σ11 h => ?_)
          refine X_iconst (v := 0) dX12_readText_175 iconst_0 ?_
          refine X_istore_n (L' := [some (.ref 60), some (.int a0), some (.int (0 : Int32))]) dX12_readText_176 rfl (by decide) rfl ?_
          obtain ⟨n177, h⟩ := h
          have key177 : ∀ (n : Nat) (x12 : Int32) (σ13 : Sg) , w_X12_readText_l177 a0 Q n x12 σ13 → Ex mX12_readText 55 false (0, 0) sx G0 177 [some (.ref 60), some (.int a0), some (.int x12)] [] σ13 (qI Q) := by
            intro n177
            induction n177 with
            | zero => intro _ _  h; exact h.elim
            | succ n177 ih177 =>
              intro x12 σ13  h
              unfold w_X12_readText_l177 at h
              refine X_iload_n dX12_readText_177 rfl rfl ?_
              refine X_aload_n dX12_readText_178 rfl rfl ?_
              refine X_get (v := .ref 75) ck_X12 f_X12_55 g_60 rfl (fun _ => rfl) dX12_readText_179 ?_
              refine X_iload_n dX12_readText_182 rfl rfl ?_
              refine X_iald g_75 dX12_readText_183 h (fun h => ?_)
              refine X_icmp_ge (tgt := 233) dX12_readText_184 (by decide) h (fun h => ?_) (fun h => ?_)
              · refine X_iconst (v := -1) dX12_readText_233 iconst_m1 ?_
                exact X_reti rfl dX12_readText_234 h
              · refine X_aload_n dX12_readText_187 rfl rfl ?_
                refine X_get (v := .ref 76) ck_X12 f_X12_58 g_60 rfl (fun _ => rfl) dX12_readText_188 ?_
                refine X_bipush (v := 61) dX12_readText_191 bipush_61 ?_
                refine X_iload_n dX12_readText_193 rfl rfl ?_
                refine X_imul dX12_readText_194 ?_
                refine X_iload_n dX12_readText_195 rfl rfl ?_
                refine X_iadd dX12_readText_196 ?_
                refine X_aload_n dX12_readText_197 rfl rfl ?_
                refine X_get (v := .ref 76) ck_X12 f_X12_58 g_60 rfl (fun _ => rfl) dX12_readText_198 ?_
                refine X_bipush (v := 61) dX12_readText_201 bipush_61 ?_
                refine X_iload_n dX12_readText_203 rfl rfl ?_
                refine X_iadd dX12_readText_204 ?_
                refine X_sald g_76 dX12_readText_205 h (fun h => ?_)
                refine X_sast g_76 dX12_readText_206 h (fun σ14 h => ?_)
                refine X_aload_n dX12_readText_207 rfl rfl ?_
                refine X_get (v := .ref 77) ck_X12 f_X12_62 g_60 rfl (fun _ => rfl) dX12_readText_208 ?_
                refine X_bipush (v := 61) dX12_readText_211 bipush_61 ?_
                refine X_iload_n dX12_readText_213 rfl rfl ?_
                refine X_imul dX12_readText_214 ?_
                refine X_iload_n dX12_readText_215 rfl rfl ?_
                refine X_iadd dX12_readText_216 ?_
                refine X_aload_n dX12_readText_217 rfl rfl ?_
                refine X_get (v := .ref 77) ck_X12 f_X12_62 g_60 rfl (fun _ => rfl) dX12_readText_218 ?_
                refine X_bipush (v := 61) dX12_readText_221 bipush_61 ?_
                refine X_iload_n dX12_readText_223 rfl rfl ?_
                refine X_iadd dX12_readText_224 ?_
                refine X_sald g_77 dX12_readText_225 h (fun h => ?_)
                refine X_sast g_77 dX12_readText_226 h (fun σ15 h => ?_)
                refine X_iinc (v := (x12 + 1)) (L' := [some (.ref 60), some (.int a0), some (.int (x12 + 1))]) dX12_readText_227 rfl rfl (by decide) rfl ?_
                refine X_goto (tgt := 177) dX12_readText_230 (by decide) ?_
                exact ih177 _ _  h
          exact key177 _ _ _  h
        obtain ⟨n105, h⟩ := h
        have key105 : ∀ (n : Nat) (x16 : Int32) (σ17 : Sg) , w_X12_readText_l105 a0 J163 n x16 σ17 → Ex mX12_readText 55 false (0, 0) sx G0 105 [some (.ref 60), some (.int a0), some (.int x16)] [] σ17 (qI Q) := by
          intro n105
          induction n105 with
          | zero => intro _ _  h; exact h.elim
          | succ n105 ih105 =>
            intro x16 σ17  h
            unfold w_X12_readText_l105 at h
            refine X_iload_n dX12_readText_105 rfl rfl ?_
            refine X_aload_n dX12_readText_106 rfl rfl ?_
            refine X_get (v := .int (σ17.1 60 21)) ck_X12 f_X12_187 g_60 rfl (fun _ => rfl) dX12_readText_107 ?_
            refine X_icmp_ge (tgt := 163) dX12_readText_110 (by decide) h (fun h => ?_) (fun h => ?_)
            · refine X_drop (L' := [some (.ref 60), some (.int a0), none]) ⟨rfl, ⟨rfl, trivial⟩⟩ ?_
              exact j163 _  h
            · refine X_aload_n dX12_readText_113 rfl rfl ?_
              refine X_get (v := .ref 73) ck_X12 f_X12_49 g_60 rfl (fun _ => rfl) dX12_readText_114 ?_
              refine X_sipush (v := 130) dX12_readText_117 sipush_130 ?_
              refine X_iload_n dX12_readText_120 rfl rfl ?_
              refine X_imul dX12_readText_121 ?_
              refine X_iload_n dX12_readText_122 rfl rfl ?_
              refine X_iadd dX12_readText_123 ?_
              refine X_aload_n dX12_readText_124 rfl rfl ?_
              refine X_get (v := .ref 73) ck_X12 f_X12_49 g_60 rfl (fun _ => rfl) dX12_readText_125 ?_
              refine X_sipush (v := 130) dX12_readText_128 sipush_130 ?_
              refine X_iload_n dX12_readText_131 rfl rfl ?_
              refine X_iadd dX12_readText_132 ?_
              refine X_bald g_73 dX12_readText_133 h (fun h => ?_)
              refine X_bast g_73 dX12_readText_134 h (fun σ18 h => ?_)
              refine X_aload_n dX12_readText_135 rfl rfl ?_
              refine X_get (v := .ref 74) ck_X12 f_X12_52 g_60 rfl (fun _ => rfl) dX12_readText_136 ?_
              refine X_sipush (v := 130) dX12_readText_139 sipush_130 ?_
              refine X_iload_n dX12_readText_142 rfl rfl ?_
              refine X_imul dX12_readText_143 ?_
              refine X_iload_n dX12_readText_144 rfl rfl ?_
              refine X_iadd dX12_readText_145 ?_
              refine X_aload_n dX12_readText_146 rfl rfl ?_
              refine X_get (v := .ref 74) ck_X12 f_X12_52 g_60 rfl (fun _ => rfl) dX12_readText_147 ?_
              refine X_sipush (v := 130) dX12_readText_150 sipush_130 ?_
              refine X_iload_n dX12_readText_153 rfl rfl ?_
              refine X_iadd dX12_readText_154 ?_
              refine X_iald g_74 dX12_readText_155 h (fun h => ?_)
              refine X_iast g_74 dX12_readText_156 h (fun σ19 h => ?_)
              refine X_iinc (v := (x16 + 1)) (L' := [some (.ref 60), some (.int a0), some (.int (x16 + 1))]) dX12_readText_157 rfl rfl (by decide) rfl ?_
              refine X_goto (tgt := 105) dX12_readText_160 (by decide) ?_
              exact ih105 _ _  h
        exact key105 _ _ _  h
      · refine X_aload_n dX12_readText_98 rfl rfl ?_
        refine X_get (v := .int (σ9.1 60 19)) ck_X12 f_X12_184 g_60 rfl (fun _ => rfl) dX12_readText_99 ?_
        exact X_reti rfl dX12_readText_102 h
    refine X_if_ge (tgt := 86) dX12_readText_68 (by decide) h (fun h => ?_) (fun h => ?_)
    · exact j86 _  h
    · refine X_aload_n dX12_readText_71 rfl rfl ?_
      refine X_get (v := .int (σ7.1 60 18)) ck_X12 f_X12_181 g_60 rfl (fun _ => rfl) dX12_readText_72 ?_
      refine X_aload_n dX12_readText_75 rfl rfl ?_
      refine X_get (v := .int (σ7.1 60 17)) ck_X12 f_X12_178 g_60 rfl (fun _ => rfl) dX12_readText_76 ?_
      refine X_icmp_ge (tgt := 86) dX12_readText_79 (by decide) h (fun h => ?_) (fun h => ?_)
      · exact j86 _  h
      · refine X_aload_n dX12_readText_82 rfl rfl ?_
        refine X_callVv [] [] c_X12_wrong v_X12_wrong lk_X12_193 dX12_readText_83 g_60 rfl rfl rfl (by decide) (Nat.le_of_ble_eq_true rfl) rfl (s_X12_wrong sx   σ7 _ h) (fun  σ20 h => ?_)
        exact j86 _  h
  obtain ⟨n31, h⟩ := h
  have key31 : ∀ (n : Nat) (σ21 : Sg) , w_X12_readText_l31 J64 n  σ21 → Ex mX12_readText 55 false (0, 0) sx G0 31 [some (.ref 60), some (.int a0), none] [] σ21 (qI Q) := by
    intro n31
    induction n31 with
    | zero => intro _  h; exact h.elim
    | succ n31 ih31 =>
      intro  σ21  h
      unfold w_X12_readText_l31 at h
      refine X_aload_n dX12_readText_31 rfl rfl ?_
      refine X_get (v := .int (σ21.1 60 19)) ck_X12 f_X12_184 g_60 rfl (fun _ => rfl) dX12_readText_32 ?_
      refine X_if_ge (tgt := 64) dX12_readText_35 (by decide) h (fun h => ?_) (fun h => ?_)
      · exact j64 _  h
      · refine X_aload_n dX12_readText_38 rfl rfl ?_
        refine X_callVi [] [] c_X12_look v_X12_look lk_X12_196 dX12_readText_39 g_60 rfl rfl rfl (by decide) (Nat.le_of_ble_eq_true rfl) rfl (s_X12_look sx   σ21 _ h) (fun r23 σ22 h => ?_)
        refine X_bipush (v := 59) dX12_readText_42 bipush_59 ?_
        refine X_icmp_ne (tgt := 64) dX12_readText_44 (by decide) h (fun h => ?_) (fun h => ?_)
        · exact j64 _  h
        · refine X_aload_n dX12_readText_47 rfl rfl ?_
          refine X_dup dX12_readText_48 rfl ?_
          refine X_get (v := .int (σ22.1 60 18)) ck_X12 f_X12_181 g_60 rfl (fun _ => rfl) dX12_readText_49 ?_
          refine X_iconst (v := 1) dX12_readText_52 iconst_1 ?_
          refine X_iadd dX12_readText_53 ?_
          refine X_putI ck_X12 f_X12_181 rfl g_60 rfl rfl rfl dX12_readText_54 h (fun σ24 h => ?_)
          refine X_aload_n dX12_readText_57 rfl rfl ?_
          refine X_callVv [] [] c_X12_line v_X12_line lk_X12_233 dX12_readText_58 g_60 rfl rfl rfl (by decide) (Nat.le_of_ble_eq_true rfl) rfl (s_X12_line sx   σ24 _ h) (fun  σ25 h => ?_)
          refine X_goto (tgt := 31) dX12_readText_61 (by decide) ?_
          exact ih31 _  h
  exact key31 _ _  h
def w_X12_law (σ : Sg) (Q : Int32 → Sg → Prop) : Prop := w_X12_readText (0 : Int32) σ (fun r2 σ1 => if r2 < 0 then (bd (sI σ1 60 29 (1 : Int32)) fun σ3 => Q (1 : Int32) σ3) else (Q ((-100 : Int32) - r2) σ1))
set_option maxRecDepth 100000 in
set_option maxHeartbeats 4000000 in
theorem s_X12_law (sx : Nat × (Nat → Int32)) (σ : Sg) (Q : Int32 → Sg → Prop) (h : w_X12_law σ Q) : Ct mX12_law 56 false (0, 0) sx G0 [.ref 60] σ (qI Q) := by
  refine Ct.of (L := [some (.ref 60), none]) (by decide) (Nat.le_of_ble_eq_true rfl) rfl ?_
  unfold w_X12_law at h
  refine X_aload_n dX12_law_0 rfl rfl ?_
  refine X_iconst (v := 0) dX12_law_1 iconst_0 ?_
  refine X_callVi [.int (0 : Int32)] [] c_X12_readText v_X12_readText lk_X12_242 dX12_law_2 g_60 rfl rfl rfl (by decide) (Nat.le_of_ble_eq_true rfl) rfl (s_X12_readText sx (0 : Int32)  σ _ h) (fun r2 σ1 h => ?_)
  refine X_istore_n (L' := [some (.ref 60), some (.int r2)]) dX12_law_5 rfl (by decide) rfl ?_
  refine X_iload_n dX12_law_6 rfl rfl ?_
  refine X_if_lt (tgt := 15) dX12_law_7 (by decide) h (fun h => ?_) (fun h => ?_)
  · refine X_aload_n dX12_law_15 rfl rfl ?_
    refine X_iconst (v := 1) dX12_law_16 iconst_1 ?_
    refine X_putI ck_X12 f_X12_245 rfl g_60 rfl rfl rfl dX12_law_17 h (fun σ3 h => ?_)
    refine X_iconst (v := 1) dX12_law_20 iconst_1 ?_
    exact X_reti rfl dX12_law_21 h
  · refine X_bipush (v := -100) dX12_law_10 bipush_m100 ?_
    refine X_iload_n dX12_law_12 rfl rfl ?_
    refine X_isub dX12_law_13 ?_
    exact X_reti rfl dX12_law_14 h
def w_X12_findChance_l55 (b0 : Int32) (Q : Int64 → Sg → Prop) : Nat → Int64 → Int32 → Sg → Prop
  | 0, _, _, _ => False
  | n55 + 1, x4, x5, σ6 => if b0 ≤ x5 then (Q x4 σ6) else (bd (x4 * (12 : Int64)) fun x7 => w_X12_findChance_l55 b0 Q n55 x7 (x5 + 1) σ6)
def w_X12_findChance (a0 : Int32) (b0 : Int32) (c0 : Int32) (σ : Sg) (Q : Int64 → Sg → Prop) : Prop := bd (sJ σ 60 35 (0 : Int64)) fun σ1 => bd (sJ σ1 60 36 (0 : Int64)) fun σ2 => vp_in (a0 / (10 : Int32)) 6 ∧ vp_in (a0 / (10 : Int32)) 6 ∧ vp_in (a0 - a0 / (10 : Int32) * (10 : Int32)) 8 ∧ w_X12_goChance 10 (a0 / (10 : Int32)) (0 : Int32) b0 c0 (σ2.1 61 (Int32.toNatClampNeg (a0 / (10 : Int32)))) (σ2.1 62 (Int32.toNatClampNeg (a0 / (10 : Int32)))) (1 : Int64) (σ2.1 65 (Int32.toNatClampNeg (a0 - a0 / (10 : Int32) * (10 : Int32)))) σ2 (fun  σ3 => ∃ n, w_X12_findChance_l55 b0 Q n (1 : Int64) (0 : Int32) σ3)
set_option maxRecDepth 100000 in
set_option maxHeartbeats 4000000 in
theorem s_X12_findChance (sx : Nat × (Nat → Int32)) (a0 : Int32) (b0 : Int32) (c0 : Int32) (σ : Sg) (Q : Int64 → Sg → Prop) (h : w_X12_findChance a0 b0 c0 σ Q) : Ct mX12_findChance 51 false (0, 0) sx G0 [.ref 60, .int a0, .int b0, .int c0] σ (qJ Q) := by
  refine Ct.of (L := [some (.ref 60), some (.int a0), some (.int b0), some (.int c0), none, none, none]) (by decide) (Nat.le_of_ble_eq_true rfl) rfl ?_
  unfold w_X12_findChance at h
  refine X_aload_n dX12_findChance_0 rfl rfl ?_
  refine X_lconst (v := 0) dX12_findChance_1 rfl ?_
  refine X_putJ ck_X12 f_X12_367 rfl g_60 rfl rfl rfl dX12_findChance_2 h (fun σ1 h => ?_)
  refine X_aload_n dX12_findChance_5 rfl rfl ?_
  refine X_lconst (v := 0) dX12_findChance_6 rfl ?_
  refine X_putJ ck_X12 f_X12_371 rfl g_60 rfl rfl rfl dX12_findChance_7 h (fun σ2 h => ?_)
  refine X_aload_n dX12_findChance_10 rfl rfl ?_
  refine X_iload_n dX12_findChance_11 rfl rfl ?_
  refine X_bipush (v := 10) dX12_findChance_12 bipush_10 ?_
  refine X_idiv dX12_findChance_14 (by decide) ?_
  refine X_iconst (v := 0) dX12_findChance_15 iconst_0 ?_
  refine X_iload_n dX12_findChance_16 rfl rfl ?_
  refine X_iload_n dX12_findChance_17 rfl rfl ?_
  refine X_aload_n dX12_findChance_18 rfl rfl ?_
  refine X_get (v := .ref 61) ck_X12 f_X12_9 g_60 rfl (fun _ => rfl) dX12_findChance_19 ?_
  refine X_iload_n dX12_findChance_22 rfl rfl ?_
  refine X_bipush (v := 10) dX12_findChance_23 bipush_10 ?_
  refine X_idiv dX12_findChance_25 (by decide) ?_
  refine X_iald g_61 dX12_findChance_26 h (fun h => ?_)
  refine X_aload_n dX12_findChance_27 rfl rfl ?_
  refine X_get (v := .ref 62) ck_X12 f_X12_15 g_60 rfl (fun _ => rfl) dX12_findChance_28 ?_
  refine X_iload_n dX12_findChance_31 rfl rfl ?_
  refine X_bipush (v := 10) dX12_findChance_32 bipush_10 ?_
  refine X_idiv dX12_findChance_34 (by decide) ?_
  refine X_iald g_62 dX12_findChance_35 h (fun h => ?_)
  refine X_lconst (v := 1) dX12_findChance_36 rfl ?_
  refine X_aload_n dX12_findChance_37 rfl rfl ?_
  refine X_get (v := .ref 65) ck_X12 f_X12_24 g_60 rfl (fun _ => rfl) dX12_findChance_38 ?_
  refine X_iload_n dX12_findChance_41 rfl rfl ?_
  refine X_bipush (v := 10) dX12_findChance_42 bipush_10 ?_
  refine X_irem dX12_findChance_44 (by decide) ?_
  refine X_iald g_65 dX12_findChance_45 h (fun h => ?_)
  refine X_callVv [.int (a0 / (10 : Int32)), .int (0 : Int32), .int b0, .int c0, .int (σ2.1 61 (Int32.toNatClampNeg (a0 / (10 : Int32)))), .int (σ2.1 62 (Int32.toNatClampNeg (a0 / (10 : Int32)))), .long (1 : Int64), .int (σ2.1 65 (Int32.toNatClampNeg (a0 - a0 / (10 : Int32) * (10 : Int32))))] [] c_X12_goChance v_X12_goChance lk_X12_374 dX12_findChance_46 g_60 rfl rfl rfl (by decide) (Nat.le_of_ble_eq_true rfl) rfl (s_X12_goChance sx 10 (a0 / (10 : Int32)) (0 : Int32) b0 c0 (σ2.1 61 (Int32.toNatClampNeg (a0 / (10 : Int32)))) (σ2.1 62 (Int32.toNatClampNeg (a0 / (10 : Int32)))) (1 : Int64) (σ2.1 65 (Int32.toNatClampNeg (a0 - a0 / (10 : Int32) * (10 : Int32))))  σ2 _ h) (fun  σ3 h => ?_)
  refine X_lconst (v := 1) dX12_findChance_49 rfl ?_
  refine X_lstore (L' := [some (.ref 60), some (.int a0), some (.int b0), some (.int c0), some (.long (1 : Int64)), none, none]) dX12_findChance_50 (by decide) rfl ?_
  refine X_iconst (v := 0) dX12_findChance_52 iconst_0 ?_
  refine X_istore (L' := [some (.ref 60), some (.int a0), some (.int b0), some (.int c0), some (.long (1 : Int64)), none, some (.int (0 : Int32))]) dX12_findChance_53 (by decide) rfl ?_
  obtain ⟨n55, h⟩ := h
  have key55 : ∀ (n : Nat) (x4 : Int64) (x5 : Int32) (σ6 : Sg) , w_X12_findChance_l55 b0 Q n x4 x5 σ6 → Ex mX12_findChance 51 false (0, 0) sx G0 55 [none, none, some (.int b0), none, some (.long x4), none, some (.int x5)] [] σ6 (qJ Q) := by
    intro n55
    induction n55 with
    | zero => intro _ _ _  h; exact h.elim
    | succ n55 ih55 =>
      intro x4 x5 σ6  h
      unfold w_X12_findChance_l55 at h
      refine X_iload dX12_findChance_55 rfl ?_
      refine X_iload_n dX12_findChance_57 rfl rfl ?_
      refine X_icmp_ge (tgt := 75) dX12_findChance_58 (by decide) h (fun h => ?_) (fun h => ?_)
      · refine X_lload dX12_findChance_75 rfl ?_
        exact X_retl rfl dX12_findChance_77 h
      · refine X_lload dX12_findChance_61 rfl ?_
        refine X_ldc2 (v := 12) dX12_findChance_63 k_X12_378 ?_
        refine X_lmul dX12_findChance_66 ?_
        refine X_topJ h (fun x7 h => ?_)
        refine X_lstore (L' := [none, none, some (.int b0), none, some (.long x7), none, some (.int x5)]) dX12_findChance_67 (by decide) rfl ?_
        refine X_iinc (v := (x5 + 1)) (L' := [none, none, some (.int b0), none, some (.long x7), none, some (.int (x5 + 1))]) dX12_findChance_69 rfl rfl (by decide) rfl ?_
        refine X_goto (tgt := 55) dX12_findChance_72 (by decide) ?_
        exact ih55 _ _ _  h
  refine X_drop (L' := [none, none, some (.int b0), none, some (.long (1 : Int64)), none, some (.int (0 : Int32))]) ⟨rfl, ⟨rfl, ⟨rfl, trivial⟩⟩⟩ ?_
  exact key55 _ _ _ _  h
def w_X12_chance (a0 : Int32) (b0 : Int32) (c0 : Int32) (d0 : Int32) (σ : Sg) (Q : Int64 → Sg → Prop) : Prop := w_X12_areChance a0 b0 c0 d0 σ (fun r2 σ1 => if r2 = 0 then (Q (-9223372036854775808 : Int64) σ1) else (w_X12_findChance a0 b0 c0 σ1 (fun r4 σ3 => w_X12_lowest (σ3.2 60 35) r4 d0 σ3 (fun r6 σ5 => Q r6 σ5))))
set_option maxRecDepth 100000 in
set_option maxHeartbeats 4000000 in
theorem s_X12_chance (sx : Nat × (Nat → Int32)) (a0 : Int32) (b0 : Int32) (c0 : Int32) (d0 : Int32) (σ : Sg) (Q : Int64 → Sg → Prop) (h : w_X12_chance a0 b0 c0 d0 σ Q) : Ct mX12_chance 52 false (0, 0) sx G0 [.ref 60, .int a0, .int b0, .int c0, .int d0] σ (qJ Q) := by
  refine Ct.of (L := [some (.ref 60), some (.int a0), some (.int b0), some (.int c0), some (.int d0), none, none]) (by decide) (Nat.le_of_ble_eq_true rfl) rfl ?_
  unfold w_X12_chance at h
  refine X_aload_n dX12_chance_0 rfl rfl ?_
  refine X_iload_n dX12_chance_1 rfl rfl ?_
  refine X_iload_n dX12_chance_2 rfl rfl ?_
  refine X_iload_n dX12_chance_3 rfl rfl ?_
  refine X_iload dX12_chance_4 rfl ?_
  refine X_callVi [.int a0, .int b0, .int c0, .int d0] [] c_X12_areChance v_X12_areChance lk_X12_380 dX12_chance_6 g_60 rfl rfl rfl (by decide) (Nat.le_of_ble_eq_true rfl) rfl (s_X12_areChance sx a0 b0 c0 d0  σ _ h) (fun r2 σ1 h => ?_)
  refine X_if_ne (tgt := 16) dX12_chance_9 (by decide) h (fun h => ?_) (fun h => ?_)
  · refine X_aload_n dX12_chance_16 rfl rfl ?_
    refine X_iload_n dX12_chance_17 rfl rfl ?_
    refine X_iload_n dX12_chance_18 rfl rfl ?_
    refine X_iload_n dX12_chance_19 rfl rfl ?_
    refine X_callVl [.int a0, .int b0, .int c0] [] c_X12_findChance v_X12_findChance lk_X12_386 dX12_chance_20 g_60 rfl rfl rfl (by decide) (Nat.le_of_ble_eq_true rfl) rfl (s_X12_findChance sx a0 b0 c0  σ1 _ h) (fun r4 σ3 h => ?_)
    refine X_lstore (L' := [some (.ref 60), some (.int a0), some (.int b0), some (.int c0), some (.int d0), some (.long r4), none]) dX12_chance_23 (by decide) rfl ?_
    refine X_aload_n dX12_chance_25 rfl rfl ?_
    refine X_get (v := .long (σ3.2 60 35)) ck_X12 f_X12_367 g_60 rfl (fun _ => rfl) dX12_chance_26 ?_
    refine X_lload dX12_chance_29 rfl ?_
    refine X_iload dX12_chance_31 rfl ?_
    refine X_callSl [.long (σ3.2 60 35), .long r4, .int d0] [] c_X12_lowest t_X12_lowest lk_X12_390 dX12_chance_33 rfl (by decide) (Nat.le_of_ble_eq_true rfl) rfl (s_X12_lowest sx (σ3.2 60 35) r4 d0  σ3 _ h) (fun r6 σ5 h => ?_)
    exact X_retl rfl dX12_chance_36 h
  · refine X_ldc2 (v := -9223372036854775808) dX12_chance_12 k_X12_384 ?_
    exact X_retl rfl dX12_chance_15 h
def w_X12_mean (a0 : Int32) (b0 : Int32) (c0 : Int32) (d0 : Int32) (σ : Sg) (Q : Int64 → Sg → Prop) : Prop := w_X12_areChance a0 b0 c0 d0 σ (fun r2 σ1 => if r2 = 0 then (Q (-9223372036854775808 : Int64) σ1) else (w_X12_findChance a0 b0 c0 σ1 (fun r4 σ3 => w_X12_lowest (σ3.2 60 36) r4 d0 σ3 (fun r6 σ5 => Q r6 σ5))))
set_option maxRecDepth 100000 in
set_option maxHeartbeats 4000000 in
theorem s_X12_mean (sx : Nat × (Nat → Int32)) (a0 : Int32) (b0 : Int32) (c0 : Int32) (d0 : Int32) (σ : Sg) (Q : Int64 → Sg → Prop) (h : w_X12_mean a0 b0 c0 d0 σ Q) : Ct mX12_mean 52 false (0, 0) sx G0 [.ref 60, .int a0, .int b0, .int c0, .int d0] σ (qJ Q) := by
  refine Ct.of (L := [some (.ref 60), some (.int a0), some (.int b0), some (.int c0), some (.int d0), none, none]) (by decide) (Nat.le_of_ble_eq_true rfl) rfl ?_
  unfold w_X12_mean at h
  refine X_aload_n dX12_mean_0 rfl rfl ?_
  refine X_iload_n dX12_mean_1 rfl rfl ?_
  refine X_iload_n dX12_mean_2 rfl rfl ?_
  refine X_iload_n dX12_mean_3 rfl rfl ?_
  refine X_iload dX12_mean_4 rfl ?_
  refine X_callVi [.int a0, .int b0, .int c0, .int d0] [] c_X12_areChance v_X12_areChance lk_X12_380 dX12_mean_6 g_60 rfl rfl rfl (by decide) (Nat.le_of_ble_eq_true rfl) rfl (s_X12_areChance sx a0 b0 c0 d0  σ _ h) (fun r2 σ1 h => ?_)
  refine X_if_ne (tgt := 16) dX12_mean_9 (by decide) h (fun h => ?_) (fun h => ?_)
  · refine X_aload_n dX12_mean_16 rfl rfl ?_
    refine X_iload_n dX12_mean_17 rfl rfl ?_
    refine X_iload_n dX12_mean_18 rfl rfl ?_
    refine X_iload_n dX12_mean_19 rfl rfl ?_
    refine X_callVl [.int a0, .int b0, .int c0] [] c_X12_findChance v_X12_findChance lk_X12_386 dX12_mean_20 g_60 rfl rfl rfl (by decide) (Nat.le_of_ble_eq_true rfl) rfl (s_X12_findChance sx a0 b0 c0  σ1 _ h) (fun r4 σ3 h => ?_)
    refine X_lstore (L' := [some (.ref 60), some (.int a0), some (.int b0), some (.int c0), some (.int d0), some (.long r4), none]) dX12_mean_23 (by decide) rfl ?_
    refine X_aload_n dX12_mean_25 rfl rfl ?_
    refine X_get (v := .long (σ3.2 60 36)) ck_X12 f_X12_371 g_60 rfl (fun _ => rfl) dX12_mean_26 ?_
    refine X_lload dX12_mean_29 rfl ?_
    refine X_iload dX12_mean_31 rfl ?_
    refine X_callSl [.long (σ3.2 60 36), .long r4, .int d0] [] c_X12_lowest t_X12_lowest lk_X12_390 dX12_mean_33 rfl (by decide) (Nat.le_of_ble_eq_true rfl) rfl (s_X12_lowest sx (σ3.2 60 36) r4 d0  σ3 _ h) (fun r6 σ5 h => ?_)
    exact X_retl rfl dX12_mean_36 h
  · refine X_ldc2 (v := -9223372036854775808) dX12_mean_12 k_X12_384 ?_
    exact X_retl rfl dX12_mean_15 h
def w_X12_byTurns_l82 (b0 : Int32) (x7 : Int32) (x8 : Int32) (r10 : Int32) (J123 : Int32 → Sg → Prop) : Nat → Int32 → Sg → Prop
  | 0, _, _ => False
  | n82 + 1, x13, σ14 => vp_in x7 6 ∧ vp_in x7 6 ∧ vp_in x13 3 ∧ w_X12_endsBy (w_X12_endsAt 8) x7 (0 : Int32) b0 (σ14.1 61 (Int32.toNatClampNeg x7)) (σ14.1 62 (Int32.toNatClampNeg x7)) x8 ((exC 8) (Int32.toNatClampNeg x13)) σ14 (fun r16 σ15 => if r16 = r10 then (J123 x13 σ15) else (w_X12_byTurns_l82 b0 x7 x8 r10 J123 n82 (x13 + 1) σ15))
def w_X12_byTurns (a0 : Int32) (b0 : Int32) (c0 : Int32) (σ : Sg) (Q : Int32 → Sg → Prop) : Prop := w_X12_areNear a0 σ (fun r2 σ1 => if r2 = 0 then (Q (-1 : Int32) σ1) else (w_X12_in b0 (1 : Int32) (6 : Int32) σ1 (fun r4 σ3 => if r4 = 0 then (Q (-1 : Int32) σ3) else (w_X12_in c0 (0 : Int32) (1 : Int32) σ3 (fun r6 σ5 => if r6 = 0 then (Q (-1 : Int32) σ5) else (bd (a0 / (10 : Int32)) fun x7 => vp_in (a0 - a0 / (10 : Int32) * (10 : Int32)) 8 ∧ bd (σ5.1 65 (Int32.toNatClampNeg (a0 - a0 / (10 : Int32) * (10 : Int32)))) fun x8 => vp_in x7 6 ∧ vp_in x7 6 ∧ w_X12_endsAt 8 x7 (0 : Int32) b0 (σ5.1 61 (Int32.toNatClampNeg x7)) (σ5.1 62 (Int32.toNatClampNeg x7)) x8 σ5 (fun r10 σ9 => if c0 = 0 then (Q r10 σ9) else (bd (fun (x11 : Int32) (σ12 : Sg) => vp_in x11 3 ∧ Q ((1 : Int32) + ((exC 8) (Int32.toNatClampNeg x11))) σ12) fun J123 => ∃ n, w_X12_byTurns_l82 b0 x7 x8 r10 J123 n (0 : Int32) σ9))))))))
set_option maxRecDepth 100000 in
set_option maxHeartbeats 4000000 in
theorem s_X12_byTurns (sx : Nat × (Nat → Int32)) (a0 : Int32) (b0 : Int32) (c0 : Int32) (σ : Sg) (Q : Int32 → Sg → Prop) (h : w_X12_byTurns a0 b0 c0 σ Q) : Ct mX12_byTurns 54 false (0, 0) sx G0 [.ref 60, .int a0, .int b0, .int c0] σ (qI Q) := by
  refine Ct.of (L := [some (.ref 60), some (.int a0), some (.int b0), some (.int c0), none, none, none, none]) (by decide) (Nat.le_of_ble_eq_true rfl) rfl ?_
  unfold w_X12_byTurns at h
  refine X_aload_n dX12_byTurns_0 rfl rfl ?_
  refine X_iload_n dX12_byTurns_1 rfl rfl ?_
  refine X_callVi [.int a0] [] c_X12_areNear v_X12_areNear lk_X12_299 dX12_byTurns_2 g_60 rfl rfl rfl (by decide) (Nat.le_of_ble_eq_true rfl) rfl (s_X12_areNear sx a0  σ _ h) (fun r2 σ1 h => ?_)
  refine X_if_eq (tgt := 27) dX12_byTurns_5 (by decide) h (fun h => ?_) (fun h => ?_)
  · refine X_iconst (v := -1) dX12_byTurns_27 iconst_m1 ?_
    exact X_reti rfl dX12_byTurns_28 h
  · refine X_iload_n dX12_byTurns_8 rfl rfl ?_
    refine X_iconst (v := 1) dX12_byTurns_9 iconst_1 ?_
    refine X_bipush (v := 6) dX12_byTurns_10 bipush_6 ?_
    refine X_callSi [.int b0, .int (1 : Int32), .int (6 : Int32)] [] c_X12_in t_X12_in lk_X12_128 dX12_byTurns_12 rfl (by decide) (Nat.le_of_ble_eq_true rfl) rfl (s_X12_in sx b0 (1 : Int32) (6 : Int32)  σ1 _ h) (fun r4 σ3 h => ?_)
    refine X_if_eq (tgt := 27) dX12_byTurns_15 (by decide) h (fun h => ?_) (fun h => ?_)
    · refine X_iconst (v := -1) dX12_byTurns_27 iconst_m1 ?_
      exact X_reti rfl dX12_byTurns_28 h
    · refine X_iload_n dX12_byTurns_18 rfl rfl ?_
      refine X_iconst (v := 0) dX12_byTurns_19 iconst_0 ?_
      refine X_iconst (v := 1) dX12_byTurns_20 iconst_1 ?_
      refine X_callSi [.int c0, .int (0 : Int32), .int (1 : Int32)] [] c_X12_in t_X12_in lk_X12_128 dX12_byTurns_21 rfl (by decide) (Nat.le_of_ble_eq_true rfl) rfl (s_X12_in sx c0 (0 : Int32) (1 : Int32)  σ3 _ h) (fun r6 σ5 h => ?_)
      refine X_if_ne (tgt := 29) dX12_byTurns_24 (by decide) h (fun h => ?_) (fun h => ?_)
      · refine X_iload_n dX12_byTurns_29 rfl rfl ?_
        refine X_bipush (v := 10) dX12_byTurns_30 bipush_10 ?_
        refine X_idiv dX12_byTurns_32 (by decide) ?_
        refine X_topI h (fun x7 h => ?_)
        refine X_istore (L' := [some (.ref 60), some (.int a0), some (.int b0), some (.int c0), some (.int x7), none, none, none]) dX12_byTurns_33 (by decide) rfl ?_
        refine X_aload_n dX12_byTurns_35 rfl rfl ?_
        refine X_get (v := .ref 65) ck_X12 f_X12_24 g_60 rfl (fun _ => rfl) dX12_byTurns_36 ?_
        refine X_iload_n dX12_byTurns_39 rfl rfl ?_
        refine X_bipush (v := 10) dX12_byTurns_40 bipush_10 ?_
        refine X_irem dX12_byTurns_42 (by decide) ?_
        refine X_iald g_65 dX12_byTurns_43 h (fun h => ?_)
        refine X_topI h (fun x8 h => ?_)
        refine X_istore (L' := [some (.ref 60), some (.int a0), some (.int b0), some (.int c0), some (.int x7), some (.int x8), none, none]) dX12_byTurns_44 (by decide) rfl ?_
        refine X_aload_n dX12_byTurns_46 rfl rfl ?_
        refine X_iload dX12_byTurns_47 rfl ?_
        refine X_iconst (v := 0) dX12_byTurns_49 iconst_0 ?_
        refine X_iload_n dX12_byTurns_50 rfl rfl ?_
        refine X_aload_n dX12_byTurns_51 rfl rfl ?_
        refine X_get (v := .ref 61) ck_X12 f_X12_9 g_60 rfl (fun _ => rfl) dX12_byTurns_52 ?_
        refine X_iload dX12_byTurns_55 rfl ?_
        refine X_iald g_61 dX12_byTurns_57 h (fun h => ?_)
        refine X_aload_n dX12_byTurns_58 rfl rfl ?_
        refine X_get (v := .ref 62) ck_X12 f_X12_15 g_60 rfl (fun _ => rfl) dX12_byTurns_59 ?_
        refine X_iload dX12_byTurns_62 rfl ?_
        refine X_iald g_62 dX12_byTurns_64 h (fun h => ?_)
        refine X_iload dX12_byTurns_65 rfl ?_
        refine X_callVi [.int x7, .int (0 : Int32), .int b0, .int (σ5.1 61 (Int32.toNatClampNeg x7)), .int (σ5.1 62 (Int32.toNatClampNeg x7)), .int x8] [] c_X12_endsAt v_X12_endsAt lk_X12_394 dX12_byTurns_67 g_60 rfl rfl rfl (by decide) (Nat.le_of_ble_eq_true rfl) rfl (s_X12_endsAt sx 8 x7 (0 : Int32) b0 (σ5.1 61 (Int32.toNatClampNeg x7)) (σ5.1 62 (Int32.toNatClampNeg x7)) x8  σ5 _ h) (fun r10 σ9 h => ?_)
        refine X_istore (L' := [some (.ref 60), some (.int a0), some (.int b0), some (.int c0), some (.int x7), some (.int x8), some (.int r10), none]) dX12_byTurns_70 (by decide) rfl ?_
        refine X_iload_n dX12_byTurns_72 rfl rfl ?_
        refine X_if_ne (tgt := 79) dX12_byTurns_73 (by decide) h (fun h => ?_) (fun h => ?_)
        · refine X_iconst (v := 0) dX12_byTurns_79 iconst_0 ?_
          refine X_istore (L' := [some (.ref 60), some (.int a0), some (.int b0), some (.int c0), some (.int x7), some (.int x8), some (.int r10), some (.int (0 : Int32))]) dX12_byTurns_80 (by decide) rfl ?_
          refine bd_j h (fun J123 e123 h => ?_)
          have j123 : ∀ (x11 : Int32) (σ12 : Sg) , J123 x11 σ12 → Ex mX12_byTurns 54 false (0, 0) sx G0 123 [none, none, none, none, none, none, none, some (.int x11)] [] σ12 (qI Q) := by
            intro x11 σ12  h
            subst e123
            replace h := h
            refine X_iconst (v := 1) dX12_byTurns_123 iconst_1 ?_
            refine X_gets (j := 7) (v := 8) rfl rfl f_X12_357 dX12_byTurns_124 ?_
            refine X_iload dX12_byTurns_127 rfl ?_
            refine X_ialdX (v := 8) (f := (exC 8)) (n := 3) (by decide) rfl rfl dX12_byTurns_129 h (fun h => ?_)
            refine X_iadd dX12_byTurns_130 ?_
            exact X_reti rfl dX12_byTurns_131 h
          obtain ⟨n82, h⟩ := h
          have key82 : ∀ (n : Nat) (x13 : Int32) (σ14 : Sg) , w_X12_byTurns_l82 b0 x7 x8 r10 J123 n x13 σ14 → Ex mX12_byTurns 54 false (0, 0) sx G0 82 [some (.ref 60), none, some (.int b0), none, some (.int x7), some (.int x8), some (.int r10), some (.int x13)] [] σ14 (qI Q) := by
            intro n82
            induction n82 with
            | zero => intro _ _  h; exact h.elim
            | succ n82 ih82 =>
              intro x13 σ14  h
              unfold w_X12_byTurns_l82 at h
              refine X_aload_n dX12_byTurns_82 rfl rfl ?_
              refine X_iload dX12_byTurns_83 rfl ?_
              refine X_iconst (v := 0) dX12_byTurns_85 iconst_0 ?_
              refine X_iload_n dX12_byTurns_86 rfl rfl ?_
              refine X_aload_n dX12_byTurns_87 rfl rfl ?_
              refine X_get (v := .ref 61) ck_X12 f_X12_9 g_60 rfl (fun _ => rfl) dX12_byTurns_88 ?_
              refine X_iload dX12_byTurns_91 rfl ?_
              refine X_iald g_61 dX12_byTurns_93 h (fun h => ?_)
              refine X_aload_n dX12_byTurns_94 rfl rfl ?_
              refine X_get (v := .ref 62) ck_X12 f_X12_15 g_60 rfl (fun _ => rfl) dX12_byTurns_95 ?_
              refine X_iload dX12_byTurns_98 rfl ?_
              refine X_iald g_62 dX12_byTurns_100 h (fun h => ?_)
              refine X_iload dX12_byTurns_101 rfl ?_
              refine X_gets (j := 7) (v := 8) rfl rfl f_X12_357 dX12_byTurns_103 ?_
              refine X_iload dX12_byTurns_106 rfl ?_
              refine X_ialdX (v := 8) (f := (exC 8)) (n := 3) (by decide) rfl rfl dX12_byTurns_108 h (fun h => ?_)
              refine X_callVi [.int x7, .int (0 : Int32), .int b0, .int (σ14.1 61 (Int32.toNatClampNeg x7)), .int (σ14.1 62 (Int32.toNatClampNeg x7)), .int x8, .int ((exC 8) (Int32.toNatClampNeg x13))] [] c_X12_endsBy v_X12_endsBy lk_X12_397 dX12_byTurns_109 g_60 rfl rfl rfl (by decide) (Nat.le_of_ble_eq_true rfl) rfl (s_X12_endsBy sx (w_X12_endsAt 8) _ (s_X12_endsAt sx 8) x7 (0 : Int32) b0 (σ14.1 61 (Int32.toNatClampNeg x7)) (σ14.1 62 (Int32.toNatClampNeg x7)) x8 ((exC 8) (Int32.toNatClampNeg x13))  σ14 _ h) (fun r16 σ15 h => ?_)
              refine X_iload dX12_byTurns_112 rfl ?_
              refine X_icmp_eq (tgt := 123) dX12_byTurns_114 (by decide) h (fun h => ?_) (fun h => ?_)
              · refine X_drop (L' := [none, none, none, none, none, none, none, some (.int x13)]) ⟨rfl, trivial⟩ ?_
                exact j123 _ _  h
              · refine X_iinc (v := (x13 + 1)) (L' := [some (.ref 60), none, some (.int b0), none, some (.int x7), some (.int x8), some (.int r10), some (.int (x13 + 1))]) dX12_byTurns_117 rfl rfl (by decide) rfl ?_
                refine X_goto (tgt := 82) dX12_byTurns_120 (by decide) ?_
                exact ih82 _ _  h
          refine X_drop (L' := [some (.ref 60), none, some (.int b0), none, some (.int x7), some (.int x8), some (.int r10), some (.int (0 : Int32))]) ⟨rfl, ⟨rfl, ⟨rfl, ⟨rfl, ⟨rfl, ⟨rfl, trivial⟩⟩⟩⟩⟩⟩ ?_
          exact key82 _ _ _  h
        · refine X_iload dX12_byTurns_76 rfl ?_
          exact X_reti rfl dX12_byTurns_78 h
      · refine X_iconst (v := -1) dX12_byTurns_27 iconst_m1 ?_
        exact X_reti rfl dX12_byTurns_28 h
