def w_X12_dinedFrom_l18 (a0 : Int32) (b0 : Int32) (J64 : Int32 → Int32 → Sg → Prop) : Nat → Int32 → Int32 → Int32 → Sg → Prop
  | 0, _, _, _, _ => False
  | n18 + 1, x6, x7, x8, σ9 => if (256 : Int32) ≤ x8 then (J64 x6 x7 σ9) else (vp_in b0 6 ∧ bd (sI σ9 61 (Int32.toNatClampNeg b0) x8) fun σ10 => w_X12_wrongTwo a0 b0 σ10 (fun r12 σ11 => bd (fun (x13 : Int32) (x14 : Int32) (σ15 : Sg) => w_X12_dinedFrom_l18 a0 b0 J64 n18 x13 x14 (x8 + 1) σ15) fun J58 => if r12 < 0 then (bd (fun (x16 : Int32) (σ17 : Sg) => J58 (x6 + 1) x16 σ17) fun J55 => if x6 = 0 then (J55 x8 σ11) else (J55 x7 σ11)) else (J58 x6 x7 σ11)))
def w_X12_dinedFrom (a0 : Int32) (b0 : Int32) (c0 : Int32) (σ : Sg) (Q : Int32 → Sg → Prop) : Prop := vp_in b0 6 ∧ bd (σ.1 61 (Int32.toNatClampNeg b0)) fun x1 => bd (fun (x2 : Int32) (x3 : Int32) (σ4 : Sg) => vp_in b0 6 ∧ bd (sI σ4 61 (Int32.toNatClampNeg b0) x1) fun σ5 => if c0 = 0 then (Q x2 σ5) else (Q x3 σ5)) fun J64 => ∃ n, w_X12_dinedFrom_l18 a0 b0 J64 n (0 : Int32) (-2 : Int32) (0 : Int32) σ
set_option maxRecDepth 100000 in
set_option maxHeartbeats 4000000 in
theorem s_X12_dinedFrom (sx : Nat × (Nat → Int32)) (a0 : Int32) (b0 : Int32) (c0 : Int32) (σ : Sg) (Q : Int32 → Sg → Prop) (h : w_X12_dinedFrom a0 b0 c0 σ Q) : Ct mX12_dinedFrom 6 false (0, 0) sx G0 [.ref 60, .int a0, .int b0, .int c0] σ (qI Q) := by
  refine Ct.of (L := [some (.ref 60), some (.int a0), some (.int b0), some (.int c0), none, none, none, none]) (by decide) (Nat.le_of_ble_eq_true rfl) rfl ?_
  unfold w_X12_dinedFrom at h
  refine X_aload_n dX12_dinedFrom_0 rfl rfl ?_
  refine X_get (v := .ref 61) ck_X12 f_X12_9 g_60 rfl (fun _ => rfl) dX12_dinedFrom_1 ?_
  refine X_iload_n dX12_dinedFrom_4 rfl rfl ?_
  refine X_iald g_61 dX12_dinedFrom_5 h (fun h => ?_)
  refine X_topI h (fun x1 h => ?_)
  refine X_istore (L' := [some (.ref 60), some (.int a0), some (.int b0), some (.int c0), some (.int x1), none, none, none]) dX12_dinedFrom_6 (by decide) rfl ?_
  refine X_iconst (v := 0) dX12_dinedFrom_8 iconst_0 ?_
  refine X_istore (L' := [some (.ref 60), some (.int a0), some (.int b0), some (.int c0), some (.int x1), some (.int (0 : Int32)), none, none]) dX12_dinedFrom_9 (by decide) rfl ?_
  refine X_bipush (v := -2) dX12_dinedFrom_11 bipush_m2 ?_
  refine X_istore (L' := [some (.ref 60), some (.int a0), some (.int b0), some (.int c0), some (.int x1), some (.int (0 : Int32)), some (.int (-2 : Int32)), none]) dX12_dinedFrom_13 (by decide) rfl ?_
  refine X_iconst (v := 0) dX12_dinedFrom_15 iconst_0 ?_
  refine X_istore (L' := [some (.ref 60), some (.int a0), some (.int b0), some (.int c0), some (.int x1), some (.int (0 : Int32)), some (.int (-2 : Int32)), some (.int (0 : Int32))]) dX12_dinedFrom_16 (by decide) rfl ?_
  refine bd_j h (fun J64 e64 h => ?_)
  have j64 : ∀ (x2 : Int32) (x3 : Int32) (σ4 : Sg) , J64 x2 x3 σ4 → Ex mX12_dinedFrom 6 false (0, 0) sx G0 64 [some (.ref 60), none, some (.int b0), some (.int c0), some (.int x1), some (.int x2), some (.int x3), none] [] σ4 (qI Q) := by
    intro x2 x3 σ4  h
    subst e64
    replace h := h
    refine X_aload_n dX12_dinedFrom_64 rfl rfl ?_
    refine X_get (v := .ref 61) ck_X12 f_X12_9 g_60 rfl (fun _ => rfl) dX12_dinedFrom_65 ?_
    refine X_iload_n dX12_dinedFrom_68 rfl rfl ?_
    refine X_iload dX12_dinedFrom_69 rfl ?_
    refine X_iast g_61 dX12_dinedFrom_71 h (fun σ5 h => ?_)
    refine X_iload_n dX12_dinedFrom_72 rfl rfl ?_
    refine X_if_eq (tgt := 81) dX12_dinedFrom_73 (by decide) h (fun h => ?_) (fun h => ?_)
    · refine X_iload dX12_dinedFrom_81 rfl ?_
      exact X_reti rfl dX12_dinedFrom_83 h
    · refine X_iload dX12_dinedFrom_76 rfl ?_
      refine X_goto (tgt := 83) dX12_dinedFrom_78 (by decide) ?_
      exact X_reti rfl dX12_dinedFrom_83 h
  obtain ⟨n18, h⟩ := h
  have key18 : ∀ (n : Nat) (x6 : Int32) (x7 : Int32) (x8 : Int32) (σ9 : Sg) , w_X12_dinedFrom_l18 a0 b0 J64 n x6 x7 x8 σ9 → Ex mX12_dinedFrom 6 false (0, 0) sx G0 18 [some (.ref 60), some (.int a0), some (.int b0), some (.int c0), some (.int x1), some (.int x6), some (.int x7), some (.int x8)] [] σ9 (qI Q) := by
    intro n18
    induction n18 with
    | zero => intro _ _ _ _  h; exact h.elim
    | succ n18 ih18 =>
      intro x6 x7 x8 σ9  h
      unfold w_X12_dinedFrom_l18 at h
      refine X_iload dX12_dinedFrom_18 rfl ?_
      refine X_sipush (v := 256) dX12_dinedFrom_20 sipush_256 ?_
      refine X_icmp_ge (tgt := 64) dX12_dinedFrom_23 (by decide) h (fun h => ?_) (fun h => ?_)
      · refine X_drop (L' := [some (.ref 60), none, some (.int b0), some (.int c0), some (.int x1), some (.int x6), some (.int x7), none]) ⟨rfl, ⟨rfl, ⟨rfl, ⟨rfl, ⟨rfl, ⟨rfl, trivial⟩⟩⟩⟩⟩⟩ ?_
        exact j64 _ _ _  h
      · refine X_aload_n dX12_dinedFrom_26 rfl rfl ?_
        refine X_get (v := .ref 61) ck_X12 f_X12_9 g_60 rfl (fun _ => rfl) dX12_dinedFrom_27 ?_
        refine X_iload_n dX12_dinedFrom_30 rfl rfl ?_
        refine X_iload dX12_dinedFrom_31 rfl ?_
        refine X_iast g_61 dX12_dinedFrom_33 h (fun σ10 h => ?_)
        refine X_aload_n dX12_dinedFrom_34 rfl rfl ?_
        refine X_iload_n dX12_dinedFrom_35 rfl rfl ?_
        refine X_iload_n dX12_dinedFrom_36 rfl rfl ?_
        refine X_callVi [.int a0, .int b0] [] c_X12_wrongTwo v_X12_wrongTwo lk_X12_335 dX12_dinedFrom_37 g_60 rfl rfl rfl (by decide) (Nat.le_of_ble_eq_true rfl) rfl (s_X12_wrongTwo sx a0 b0  σ10 _ h) (fun r12 σ11 h => ?_)
        refine bd_j h (fun J58 e58 h => ?_)
        have j58 : ∀ (x13 : Int32) (x14 : Int32) (σ15 : Sg) , J58 x13 x14 σ15 → Ex mX12_dinedFrom 6 false (0, 0) sx G0 58 [some (.ref 60), some (.int a0), some (.int b0), some (.int c0), some (.int x1), some (.int x13), some (.int x14), some (.int x8)] [] σ15 (qI Q) := by
          intro x13 x14 σ15  h
          subst e58
          replace h := h
          refine X_iinc (v := (x8 + 1)) (L' := [some (.ref 60), some (.int a0), some (.int b0), some (.int c0), some (.int x1), some (.int x13), some (.int x14), some (.int (x8 + 1))]) dX12_dinedFrom_58 rfl rfl (by decide) rfl ?_
          refine X_goto (tgt := 18) dX12_dinedFrom_61 (by decide) ?_
          exact ih18 _ _ _ _  h
        refine X_if_lt (tgt := 46) dX12_dinedFrom_40 (by decide) h (fun h => ?_) (fun h => ?_)
        · refine X_iload dX12_dinedFrom_46 rfl ?_
          refine bd_j h (fun J55 e55 h => ?_)
          have j55 : ∀ (x16 : Int32) (σ17 : Sg) , J55 x16 σ17 → Ex mX12_dinedFrom 6 false (0, 0) sx G0 55 [some (.ref 60), some (.int a0), some (.int b0), some (.int c0), some (.int x1), some (.int x6), some (.int x16), some (.int x8)] [] σ17 (qI Q) := by
            intro x16 σ17  h
            subst e55
            replace h := h
            refine X_iinc (v := (x6 + 1)) (L' := [some (.ref 60), some (.int a0), some (.int b0), some (.int c0), some (.int x1), some (.int (x6 + 1)), some (.int x16), some (.int x8)]) dX12_dinedFrom_55 rfl rfl (by decide) rfl ?_
            exact j58 _ _ _  h
          refine X_if_ne (tgt := 55) dX12_dinedFrom_48 (by decide) h (fun h => ?_) (fun h => ?_)
          · exact j55 _ _  h
          · refine X_iload dX12_dinedFrom_51 rfl ?_
            refine X_istore (L' := [some (.ref 60), some (.int a0), some (.int b0), some (.int c0), some (.int x1), some (.int x6), some (.int x8), some (.int x8)]) dX12_dinedFrom_53 (by decide) rfl ?_
            exact j55 _ _  h
        · refine X_goto (tgt := 58) dX12_dinedFrom_43 (by decide) ?_
          exact j58 _ _ _  h
  exact key18 _ _ _ _ _  h
def w_X12_dinedPaces_l13 (a0 : Int32) (b0 : Int32) (J51 : Int32 → Sg → Prop) : Nat → Int32 → Int32 → Sg → Prop
  | 0, _, _, _ => False
  | n13 + 1, x5, x6, σ7 => if (5 : Int32) ≤ x6 then (J51 x5 σ7) else (vp_in b0 6 ∧ bd (sI σ7 63 (Int32.toNatClampNeg b0) x6) fun σ8 => w_X12_wrongTwo a0 b0 σ8 (fun r10 σ9 => bd (fun (x11 : Int32) (σ12 : Sg) => w_X12_dinedPaces_l13 a0 b0 J51 n13 x11 (x6 + 1) σ12) fun J45 => if 0 ≤ r10 then (J45 x5 σ9) else (bd (x5 ||| ((1 : Int32) <<< (x6 &&& 31))) fun x13 => J45 x13 σ9)))
def w_X12_dinedPaces (a0 : Int32) (b0 : Int32) (σ : Sg) (Q : Int32 → Sg → Prop) : Prop := vp_in b0 6 ∧ bd (σ.1 63 (Int32.toNatClampNeg b0)) fun x1 => bd (fun (x2 : Int32) (σ3 : Sg) => vp_in b0 6 ∧ bd (sI σ3 63 (Int32.toNatClampNeg b0) x1) fun σ4 => Q x2 σ4) fun J51 => ∃ n, w_X12_dinedPaces_l13 a0 b0 J51 n (0 : Int32) (1 : Int32) σ
set_option maxRecDepth 100000 in
set_option maxHeartbeats 4000000 in
theorem s_X12_dinedPaces (sx : Nat × (Nat → Int32)) (a0 : Int32) (b0 : Int32) (σ : Sg) (Q : Int32 → Sg → Prop) (h : w_X12_dinedPaces a0 b0 σ Q) : Ct mX12_dinedPaces 6 false (0, 0) sx G0 [.ref 60, .int a0, .int b0] σ (qI Q) := by
  refine Ct.of (L := [some (.ref 60), some (.int a0), some (.int b0), none, none, none]) (by decide) (Nat.le_of_ble_eq_true rfl) rfl ?_
  unfold w_X12_dinedPaces at h
  refine X_aload_n dX12_dinedPaces_0 rfl rfl ?_
  refine X_get (v := .ref 63) ck_X12 f_X12_18 g_60 rfl (fun _ => rfl) dX12_dinedPaces_1 ?_
  refine X_iload_n dX12_dinedPaces_4 rfl rfl ?_
  refine X_iald g_63 dX12_dinedPaces_5 h (fun h => ?_)
  refine X_topI h (fun x1 h => ?_)
  refine X_istore_n (L' := [some (.ref 60), some (.int a0), some (.int b0), some (.int x1), none, none]) dX12_dinedPaces_6 rfl (by decide) rfl ?_
  refine X_iconst (v := 0) dX12_dinedPaces_7 iconst_0 ?_
  refine X_istore (L' := [some (.ref 60), some (.int a0), some (.int b0), some (.int x1), some (.int (0 : Int32)), none]) dX12_dinedPaces_8 (by decide) rfl ?_
  refine X_iconst (v := 1) dX12_dinedPaces_10 iconst_1 ?_
  refine X_istore (L' := [some (.ref 60), some (.int a0), some (.int b0), some (.int x1), some (.int (0 : Int32)), some (.int (1 : Int32))]) dX12_dinedPaces_11 (by decide) rfl ?_
  refine bd_j h (fun J51 e51 h => ?_)
  have j51 : ∀ (x2 : Int32) (σ3 : Sg) , J51 x2 σ3 → Ex mX12_dinedPaces 6 false (0, 0) sx G0 51 [some (.ref 60), none, some (.int b0), some (.int x1), some (.int x2), none] [] σ3 (qI Q) := by
    intro x2 σ3  h
    subst e51
    replace h := h
    refine X_aload_n dX12_dinedPaces_51 rfl rfl ?_
    refine X_get (v := .ref 63) ck_X12 f_X12_18 g_60 rfl (fun _ => rfl) dX12_dinedPaces_52 ?_
    refine X_iload_n dX12_dinedPaces_55 rfl rfl ?_
    refine X_iload_n dX12_dinedPaces_56 rfl rfl ?_
    refine X_iast g_63 dX12_dinedPaces_57 h (fun σ4 h => ?_)
    refine X_iload dX12_dinedPaces_58 rfl ?_
    exact X_reti rfl dX12_dinedPaces_60 h
  obtain ⟨n13, h⟩ := h
  have key13 : ∀ (n : Nat) (x5 : Int32) (x6 : Int32) (σ7 : Sg) , w_X12_dinedPaces_l13 a0 b0 J51 n x5 x6 σ7 → Ex mX12_dinedPaces 6 false (0, 0) sx G0 13 [some (.ref 60), some (.int a0), some (.int b0), some (.int x1), some (.int x5), some (.int x6)] [] σ7 (qI Q) := by
    intro n13
    induction n13 with
    | zero => intro _ _ _  h; exact h.elim
    | succ n13 ih13 =>
      intro x5 x6 σ7  h
      unfold w_X12_dinedPaces_l13 at h
      refine X_iload dX12_dinedPaces_13 rfl ?_
      refine X_iconst (v := 5) dX12_dinedPaces_15 iconst_5 ?_
      refine X_icmp_ge (tgt := 51) dX12_dinedPaces_16 (by decide) h (fun h => ?_) (fun h => ?_)
      · refine X_drop (L' := [some (.ref 60), none, some (.int b0), some (.int x1), some (.int x5), none]) ⟨rfl, ⟨rfl, ⟨rfl, ⟨rfl, trivial⟩⟩⟩⟩ ?_
        exact j51 _ _  h
      · refine X_aload_n dX12_dinedPaces_19 rfl rfl ?_
        refine X_get (v := .ref 63) ck_X12 f_X12_18 g_60 rfl (fun _ => rfl) dX12_dinedPaces_20 ?_
        refine X_iload_n dX12_dinedPaces_23 rfl rfl ?_
        refine X_iload dX12_dinedPaces_24 rfl ?_
        refine X_iast g_63 dX12_dinedPaces_26 h (fun σ8 h => ?_)
        refine X_aload_n dX12_dinedPaces_27 rfl rfl ?_
        refine X_iload_n dX12_dinedPaces_28 rfl rfl ?_
        refine X_iload_n dX12_dinedPaces_29 rfl rfl ?_
        refine X_callVi [.int a0, .int b0] [] c_X12_wrongTwo v_X12_wrongTwo lk_X12_335 dX12_dinedPaces_30 g_60 rfl rfl rfl (by decide) (Nat.le_of_ble_eq_true rfl) rfl (s_X12_wrongTwo sx a0 b0  σ8 _ h) (fun r10 σ9 h => ?_)
        refine bd_j h (fun J45 e45 h => ?_)
        have j45 : ∀ (x11 : Int32) (σ12 : Sg) , J45 x11 σ12 → Ex mX12_dinedPaces 6 false (0, 0) sx G0 45 [some (.ref 60), some (.int a0), some (.int b0), some (.int x1), some (.int x11), some (.int x6)] [] σ12 (qI Q) := by
          intro x11 σ12  h
          subst e45
          replace h := h
          refine X_iinc (v := (x6 + 1)) (L' := [some (.ref 60), some (.int a0), some (.int b0), some (.int x1), some (.int x11), some (.int (x6 + 1))]) dX12_dinedPaces_45 rfl rfl (by decide) rfl ?_
          refine X_goto (tgt := 13) dX12_dinedPaces_48 (by decide) ?_
          exact ih13 _ _ _  h
        refine X_if_ge (tgt := 45) dX12_dinedPaces_33 (by decide) h (fun h => ?_) (fun h => ?_)
        · exact j45 _ _  h
        · refine X_iload dX12_dinedPaces_36 rfl ?_
          refine X_iconst (v := 1) dX12_dinedPaces_38 iconst_1 ?_
          refine X_iload dX12_dinedPaces_39 rfl ?_
          refine X_ishl dX12_dinedPaces_41 ?_
          refine X_ior dX12_dinedPaces_42 ?_
          refine X_topI h (fun x13 h => ?_)
          refine X_istore (L' := [some (.ref 60), some (.int a0), some (.int b0), some (.int x1), some (.int x13), some (.int x6)]) dX12_dinedPaces_43 (by decide) rfl ?_
          exact j45 _ _  h
  exact key13 _ _ _ _  h
def w_X12_dined (a0 : Int32) (b0 : Int32) (c0 : Int32) (σ : Sg) (Q : Int32 → Sg → Prop) : Prop := w_X12_isShelf a0 σ (fun r2 σ1 => if r2 = 0 then (Q (-1 : Int32) σ1) else (w_X12_isCarriage b0 σ1 (fun r4 σ3 => if r4 = 0 then (Q (-1 : Int32) σ3) else (w_X12_in c0 (0 : Int32) (3 : Int32) σ3 (fun r6 σ5 => if r6 = 0 then (Q (-1 : Int32) σ5) else (w_X12_rowFault a0 σ5 (fun r8 σ7 => if 0 ≤ r8 then (if c0 = (0 : Int32) then (w_X12_dinedWays a0 b0 σ7 (fun r10 σ9 => Q r10 σ9)) else (if c0 = (1 : Int32) then (w_X12_dinedFrom a0 b0 (0 : Int32) σ7 (fun r12 σ11 => Q r12 σ11)) else (if c0 = (2 : Int32) then (w_X12_dinedFrom a0 b0 (1 : Int32) σ7 (fun r14 σ13 => Q r14 σ13)) else (w_X12_dinedPaces a0 b0 σ7 (fun r16 σ15 => Q r16 σ15))))) else (w_X12_rowFault a0 σ7 (fun r18 σ17 => Q r18 σ17)))))))))
set_option maxRecDepth 100000 in
set_option maxHeartbeats 4000000 in
theorem s_X12_dined (sx : Nat × (Nat → Int32)) (a0 : Int32) (b0 : Int32) (c0 : Int32) (σ : Sg) (Q : Int32 → Sg → Prop) (h : w_X12_dined a0 b0 c0 σ Q) : Ct mX12_dined 7 false (0, 0) sx G0 [.ref 60, .int a0, .int b0, .int c0] σ (qI Q) := by
  refine Ct.of (L := [some (.ref 60), some (.int a0), some (.int b0), some (.int c0)]) (by decide) (Nat.le_of_ble_eq_true rfl) rfl ?_
  unfold w_X12_dined at h
  refine X_iload_n dX12_dined_0 rfl rfl ?_
  refine X_callSi [.int a0] [] c_X12_isShelf t_X12_isShelf lk_X12_149 dX12_dined_1 rfl (by decide) (Nat.le_of_ble_eq_true rfl) rfl (s_X12_isShelf sx a0  σ _ h) (fun r2 σ1 h => ?_)
  refine X_if_eq (tgt := 24) dX12_dined_4 (by decide) h (fun h => ?_) (fun h => ?_)
  · refine X_iconst (v := -1) dX12_dined_24 iconst_m1 ?_
    exact X_reti rfl dX12_dined_25 h
  · refine X_aload_n dX12_dined_7 rfl rfl ?_
    refine X_iload_n dX12_dined_8 rfl rfl ?_
    refine X_callVi [.int b0] [] c_X12_isCarriage v_X12_isCarriage lk_X12_135 dX12_dined_9 g_60 rfl rfl rfl (by decide) (Nat.le_of_ble_eq_true rfl) rfl (s_X12_isCarriage sx b0  σ1 _ h) (fun r4 σ3 h => ?_)
    refine X_if_eq (tgt := 24) dX12_dined_12 (by decide) h (fun h => ?_) (fun h => ?_)
    · refine X_iconst (v := -1) dX12_dined_24 iconst_m1 ?_
      exact X_reti rfl dX12_dined_25 h
    · refine X_iload_n dX12_dined_15 rfl rfl ?_
      refine X_iconst (v := 0) dX12_dined_16 iconst_0 ?_
      refine X_iconst (v := 3) dX12_dined_17 iconst_3 ?_
      refine X_callSi [.int c0, .int (0 : Int32), .int (3 : Int32)] [] c_X12_in t_X12_in lk_X12_128 dX12_dined_18 rfl (by decide) (Nat.le_of_ble_eq_true rfl) rfl (s_X12_in sx c0 (0 : Int32) (3 : Int32)  σ3 _ h) (fun r6 σ5 h => ?_)
      refine X_if_ne (tgt := 26) dX12_dined_21 (by decide) h (fun h => ?_) (fun h => ?_)
      · refine X_aload_n dX12_dined_26 rfl rfl ?_
        refine X_iload_n dX12_dined_27 rfl rfl ?_
        refine X_callVi [.int a0] [] c_X12_rowFault v_X12_rowFault lk_X12_332 dX12_dined_28 g_60 rfl rfl rfl (by decide) (Nat.le_of_ble_eq_true rfl) rfl (s_X12_rowFault sx a0  σ5 _ h) (fun r8 σ7 h => ?_)
        refine X_if_ge (tgt := 40) dX12_dined_31 (by decide) h (fun h => ?_) (fun h => ?_)
        · refine X_iload_n dX12_dined_40 rfl rfl ?_
          by_cases hc41_0 : c0 = (0 : Int32)
          · replace h := if_t h hc41_0
            refine X_tableIn (tgt := 68) dX12_dined_41 (by rw [hc41_0] <;> decide) (by rw [hc41_0] <;> decide) (by rw [hc41_0] <;> rfl) (by decide) ?_
            refine X_aload_n dX12_dined_68 rfl rfl ?_
            refine X_iload_n dX12_dined_69 rfl rfl ?_
            refine X_iload_n dX12_dined_70 rfl rfl ?_
            refine X_callVi [.int a0, .int b0] [] c_X12_dinedWays v_X12_dinedWays lk_X12_338 dX12_dined_71 g_60 rfl rfl rfl (by decide) (Nat.le_of_ble_eq_true rfl) rfl (s_X12_dinedWays sx a0 b0  σ7 _ h) (fun r10 σ9 h => ?_)
            exact X_reti rfl dX12_dined_74 h
          replace h := if_f h hc41_0
          by_cases hc41_1 : c0 = (1 : Int32)
          · replace h := if_t h hc41_1
            refine X_tableIn (tgt := 75) dX12_dined_41 (by rw [hc41_1] <;> decide) (by rw [hc41_1] <;> decide) (by rw [hc41_1] <;> rfl) (by decide) ?_
            refine X_aload_n dX12_dined_75 rfl rfl ?_
            refine X_iload_n dX12_dined_76 rfl rfl ?_
            refine X_iload_n dX12_dined_77 rfl rfl ?_
            refine X_iconst (v := 0) dX12_dined_78 iconst_0 ?_
            refine X_callVi [.int a0, .int b0, .int (0 : Int32)] [] c_X12_dinedFrom v_X12_dinedFrom lk_X12_341 dX12_dined_79 g_60 rfl rfl rfl (by decide) (Nat.le_of_ble_eq_true rfl) rfl (s_X12_dinedFrom sx a0 b0 (0 : Int32)  σ7 _ h) (fun r12 σ11 h => ?_)
            exact X_reti rfl dX12_dined_82 h
          replace h := if_f h hc41_1
          by_cases hc41_2 : c0 = (2 : Int32)
          · replace h := if_t h hc41_2
            refine X_tableIn (tgt := 83) dX12_dined_41 (by rw [hc41_2] <;> decide) (by rw [hc41_2] <;> decide) (by rw [hc41_2] <;> rfl) (by decide) ?_
            refine X_aload_n dX12_dined_83 rfl rfl ?_
            refine X_iload_n dX12_dined_84 rfl rfl ?_
            refine X_iload_n dX12_dined_85 rfl rfl ?_
            refine X_iconst (v := 1) dX12_dined_86 iconst_1 ?_
            refine X_callVi [.int a0, .int b0, .int (1 : Int32)] [] c_X12_dinedFrom v_X12_dinedFrom lk_X12_341 dX12_dined_87 g_60 rfl rfl rfl (by decide) (Nat.le_of_ble_eq_true rfl) rfl (s_X12_dinedFrom sx a0 b0 (1 : Int32)  σ7 _ h) (fun r14 σ13 h => ?_)
            exact X_reti rfl dX12_dined_90 h
          replace h := if_f h hc41_2
          refine X_tableOut (tgt := 91) dX12_dined_41 (tbl_out (fun j h1 h2 e => ?_)) (by decide) ?_
          · rcases (show j = 0 ∨ j = 1 ∨ j = 2 by omega) with rfl | rfl | rfl
            · exact ne_toInt hc41_0 e
            · exact ne_toInt hc41_1 e
            · exact ne_toInt hc41_2 e
          refine X_aload_n dX12_dined_91 rfl rfl ?_
          refine X_iload_n dX12_dined_92 rfl rfl ?_
          refine X_iload_n dX12_dined_93 rfl rfl ?_
          refine X_callVi [.int a0, .int b0] [] c_X12_dinedPaces v_X12_dinedPaces lk_X12_345 dX12_dined_94 g_60 rfl rfl rfl (by decide) (Nat.le_of_ble_eq_true rfl) rfl (s_X12_dinedPaces sx a0 b0  σ7 _ h) (fun r16 σ15 h => ?_)
          exact X_reti rfl dX12_dined_97 h
        · refine X_aload_n dX12_dined_34 rfl rfl ?_
          refine X_iload_n dX12_dined_35 rfl rfl ?_
          refine X_callVi [.int a0] [] c_X12_rowFault v_X12_rowFault lk_X12_332 dX12_dined_36 g_60 rfl rfl rfl (by decide) (Nat.le_of_ble_eq_true rfl) rfl (s_X12_rowFault sx a0  σ7 _ h) (fun r18 σ17 h => ?_)
          exact X_reti rfl dX12_dined_39 h
      · refine X_iconst (v := -1) dX12_dined_24 iconst_m1 ?_
        exact X_reti rfl dX12_dined_25 h
def w_X12_stateOf (a0 : Int32) (b0 : Int32) (σ : Sg) (Q : Int32 → Sg → Prop) : Prop := Q (((8 : Int32) * a0) + b0) σ
set_option maxRecDepth 100000 in
set_option maxHeartbeats 4000000 in
theorem s_X12_stateOf (sx : Nat × (Nat → Int32)) (a0 : Int32) (b0 : Int32) (σ : Sg) (Q : Int32 → Sg → Prop) (h : w_X12_stateOf a0 b0 σ Q) : Ct mX12_stateOf 0 false (0, 0) sx G0 [.int a0, .int b0] σ (qI Q) := by
  refine Ct.of (L := [some (.int a0), some (.int b0)]) (by decide) (Nat.le_of_ble_eq_true rfl) rfl ?_
  unfold w_X12_stateOf at h
  refine X_bipush (v := 8) dX12_stateOf_0 bipush_8 ?_
  refine X_iload_n dX12_stateOf_2 rfl rfl ?_
  refine X_imul dX12_stateOf_3 ?_
  refine X_iload_n dX12_stateOf_4 rfl rfl ?_
  refine X_iadd dX12_stateOf_5 ?_
  exact X_reti rfl dX12_stateOf_6 h
def w_X12_fewAt (a0 : Int32) (b0 : Int32) (σ : Sg) (Q : Int32 → Sg → Prop) : Prop := vp_in ((((2048 : Int32) * a0) + b0) / (8 : Int32)) 3328 ∧ Q ((((σ.1 81 (Int32.toNatClampNeg ((((2048 : Int32) * a0) + b0) / (8 : Int32)))).toUInt32 >>> (Int32.toUInt32 ((4 : Int32) * (b0 - b0 / (8 : Int32) * (8 : Int32))) &&& Int32.toUInt32 31)).toInt32) &&& (15 : Int32)) σ
set_option maxRecDepth 100000 in
set_option maxHeartbeats 4000000 in
theorem s_X12_fewAt (sx : Nat × (Nat → Int32)) (a0 : Int32) (b0 : Int32) (σ : Sg) (Q : Int32 → Sg → Prop) (h : w_X12_fewAt a0 b0 σ Q) : Ct mX12_fewAt 0 false (0, 0) sx G0 [.ref 60, .int a0, .int b0] σ (qI Q) := by
  refine Ct.of (L := [some (.ref 60), some (.int a0), some (.int b0)]) (by decide) (Nat.le_of_ble_eq_true rfl) rfl ?_
  unfold w_X12_fewAt at h
  refine X_aload_n dX12_fewAt_0 rfl rfl ?_
  refine X_get (v := .ref 81) ck_X12 f_X12_74 g_60 rfl (fun _ => rfl) dX12_fewAt_1 ?_
  refine X_sipush (v := 2048) dX12_fewAt_4 sipush_2048 ?_
  refine X_iload_n dX12_fewAt_7 rfl rfl ?_
  refine X_imul dX12_fewAt_8 ?_
  refine X_iload_n dX12_fewAt_9 rfl rfl ?_
  refine X_iadd dX12_fewAt_10 ?_
  refine X_bipush (v := 8) dX12_fewAt_11 bipush_8 ?_
  refine X_idiv dX12_fewAt_13 (by decide) ?_
  refine X_iald g_81 dX12_fewAt_14 h (fun h => ?_)
  refine X_iconst (v := 4) dX12_fewAt_15 iconst_4 ?_
  refine X_iload_n dX12_fewAt_16 rfl rfl ?_
  refine X_bipush (v := 8) dX12_fewAt_17 bipush_8 ?_
  refine X_irem dX12_fewAt_19 (by decide) ?_
  refine X_imul dX12_fewAt_20 ?_
  refine X_iushr dX12_fewAt_21 ?_
  refine X_bipush (v := 15) dX12_fewAt_22 bipush_15 ?_
  refine X_iand dX12_fewAt_24 ?_
  exact X_reti rfl dX12_fewAt_25 h
def w_X12_layFew (a0 : Int32) (b0 : Int32) (c0 : Int32) (σ : Sg) (Q : Sg → Prop) : Prop := bd ((((2048 : Int32) * a0) + b0) / (8 : Int32)) fun x1 => bd ((4 : Int32) * (b0 - b0 / (8 : Int32) * (8 : Int32))) fun x2 => vp_in x1 3328 ∧ vp_in x1 3328 ∧ bd (sI σ 81 (Int32.toNatClampNeg x1) (((σ.1 81 (Int32.toNatClampNeg x1)) &&& (((15 : Int32) <<< (x2 &&& 31)) ^^^ (-1 : Int32))) ||| (c0 <<< (x2 &&& 31)))) fun σ3 => Q σ3
set_option maxRecDepth 100000 in
set_option maxHeartbeats 4000000 in
theorem s_X12_layFew (sx : Nat × (Nat → Int32)) (a0 : Int32) (b0 : Int32) (c0 : Int32) (σ : Sg) (Q : Sg → Prop) (h : w_X12_layFew a0 b0 c0 σ Q) : Ct mX12_layFew 0 false (0, 0) sx G0 [.ref 60, .int a0, .int b0, .int c0] σ (qV Q) := by
  refine Ct.of (L := [some (.ref 60), some (.int a0), some (.int b0), some (.int c0), none, none]) (by decide) (Nat.le_of_ble_eq_true rfl) rfl ?_
  unfold w_X12_layFew at h
  refine X_sipush (v := 2048) dX12_layFew_0 sipush_2048 ?_
  refine X_iload_n dX12_layFew_3 rfl rfl ?_
  refine X_imul dX12_layFew_4 ?_
  refine X_iload_n dX12_layFew_5 rfl rfl ?_
  refine X_iadd dX12_layFew_6 ?_
  refine X_bipush (v := 8) dX12_layFew_7 bipush_8 ?_
  refine X_idiv dX12_layFew_9 (by decide) ?_
  refine X_topI h (fun x1 h => ?_)
  refine X_istore (L' := [some (.ref 60), some (.int a0), some (.int b0), some (.int c0), some (.int x1), none]) dX12_layFew_10 (by decide) rfl ?_
  refine X_iconst (v := 4) dX12_layFew_12 iconst_4 ?_
  refine X_iload_n dX12_layFew_13 rfl rfl ?_
  refine X_bipush (v := 8) dX12_layFew_14 bipush_8 ?_
  refine X_irem dX12_layFew_16 (by decide) ?_
  refine X_imul dX12_layFew_17 ?_
  refine X_topI h (fun x2 h => ?_)
  refine X_istore (L' := [some (.ref 60), some (.int a0), some (.int b0), some (.int c0), some (.int x1), some (.int x2)]) dX12_layFew_18 (by decide) rfl ?_
  refine X_aload_n dX12_layFew_20 rfl rfl ?_
  refine X_get (v := .ref 81) ck_X12 f_X12_74 g_60 rfl (fun _ => rfl) dX12_layFew_21 ?_
  refine X_iload dX12_layFew_24 rfl ?_
  refine X_aload_n dX12_layFew_26 rfl rfl ?_
  refine X_get (v := .ref 81) ck_X12 f_X12_74 g_60 rfl (fun _ => rfl) dX12_layFew_27 ?_
  refine X_iload dX12_layFew_30 rfl ?_
  refine X_iald g_81 dX12_layFew_32 h (fun h => ?_)
  refine X_bipush (v := 15) dX12_layFew_33 bipush_15 ?_
  refine X_iload dX12_layFew_35 rfl ?_
  refine X_ishl dX12_layFew_37 ?_
  refine X_iconst (v := -1) dX12_layFew_38 iconst_m1 ?_
  refine X_ixor dX12_layFew_39 ?_
  refine X_iand dX12_layFew_40 ?_
  refine X_iload_n dX12_layFew_41 rfl rfl ?_
  refine X_iload dX12_layFew_42 rfl ?_
  refine X_ishl dX12_layFew_44 ?_
  refine X_ior dX12_layFew_45 ?_
  refine X_iast g_81 dX12_layFew_46 h (fun σ3 h => ?_)
  exact X_retv rfl dX12_layFew_47 h
def w_X12_fewBy (a0 : Int32) (b0 : Int32) (c0 : Int32) (d0 : Int32) (e0 : Int32) (f0 : Int32) (σ : Sg) (Q : Int32 → Sg → Prop) : Prop := bd (sI σ 60 30 d0) fun σ1 => bd (sI σ1 60 31 e0) fun σ2 => w_X12_goHour a0 (b0 - c0) f0 σ2 (fun  σ3 => w_X12_stateOf (σ3.1 60 30) (σ3.1 60 31) σ3 (fun r5 σ4 => w_X12_fewAt (c0 - (1 : Int32)) r5 σ4 (fun r7 σ6 => if r7 = (15 : Int32) then (Q (15 : Int32) σ6) else (if f0 = 0 then (Q r7 σ6) else (Q (r7 + (1 : Int32)) σ6)))))
set_option maxRecDepth 100000 in
set_option maxHeartbeats 4000000 in
theorem s_X12_fewBy (sx : Nat × (Nat → Int32)) (a0 : Int32) (b0 : Int32) (c0 : Int32) (d0 : Int32) (e0 : Int32) (f0 : Int32) (σ : Sg) (Q : Int32 → Sg → Prop) (h : w_X12_fewBy a0 b0 c0 d0 e0 f0 σ Q) : Ct mX12_fewBy 5 false (0, 0) sx G0 [.ref 60, .int a0, .int b0, .int c0, .int d0, .int e0, .int f0] σ (qI Q) := by
  refine Ct.of (L := [some (.ref 60), some (.int a0), some (.int b0), some (.int c0), some (.int d0), some (.int e0), some (.int f0), none]) (by decide) (Nat.le_of_ble_eq_true rfl) rfl ?_
  unfold w_X12_fewBy at h
  refine X_aload_n dX12_fewBy_0 rfl rfl ?_
  refine X_iload dX12_fewBy_1 rfl ?_
  refine X_putI ck_X12 f_X12_262 rfl g_60 rfl rfl rfl dX12_fewBy_3 h (fun σ1 h => ?_)
  refine X_aload_n dX12_fewBy_6 rfl rfl ?_
  refine X_iload dX12_fewBy_7 rfl ?_
  refine X_putI ck_X12 f_X12_265 rfl g_60 rfl rfl rfl dX12_fewBy_9 h (fun σ2 h => ?_)
  refine X_aload_n dX12_fewBy_12 rfl rfl ?_
  refine X_iload_n dX12_fewBy_13 rfl rfl ?_
  refine X_iload_n dX12_fewBy_14 rfl rfl ?_
  refine X_iload_n dX12_fewBy_15 rfl rfl ?_
  refine X_isub dX12_fewBy_16 ?_
  refine X_iload dX12_fewBy_17 rfl ?_
  refine X_callVv [.int a0, .int (b0 - c0), .int f0] [] c_X12_goHour v_X12_goHour lk_X12_287 dX12_fewBy_19 g_60 rfl rfl rfl (by decide) (Nat.le_of_ble_eq_true rfl) rfl (s_X12_goHour sx a0 (b0 - c0) f0  σ2 _ h) (fun  σ3 h => ?_)
  refine X_aload_n dX12_fewBy_22 rfl rfl ?_
  refine X_iload_n dX12_fewBy_23 rfl rfl ?_
  refine X_iconst (v := 1) dX12_fewBy_24 iconst_1 ?_
  refine X_isub dX12_fewBy_25 ?_
  refine X_aload_n dX12_fewBy_26 rfl rfl ?_
  refine X_get (v := .int (σ3.1 60 30)) ck_X12 f_X12_262 g_60 rfl (fun _ => rfl) dX12_fewBy_27 ?_
  refine X_aload_n dX12_fewBy_30 rfl rfl ?_
  refine X_get (v := .int (σ3.1 60 31)) ck_X12 f_X12_265 g_60 rfl (fun _ => rfl) dX12_fewBy_31 ?_
  refine X_callSi [.int (σ3.1 60 30), .int (σ3.1 60 31)] [.int (c0 - (1 : Int32)), .ref 60] c_X12_stateOf t_X12_stateOf lk_X12_348 dX12_fewBy_34 rfl (by decide) (Nat.le_of_ble_eq_true rfl) rfl (s_X12_stateOf sx (σ3.1 60 30) (σ3.1 60 31)  σ3 _ h) (fun r5 σ4 h => ?_)
  refine X_callVi [.int (c0 - (1 : Int32)), .int r5] [] c_X12_fewAt v_X12_fewAt lk_X12_351 dX12_fewBy_37 g_60 rfl rfl rfl (by decide) (Nat.le_of_ble_eq_true rfl) rfl (s_X12_fewAt sx (c0 - (1 : Int32)) r5  σ4 _ h) (fun r7 σ6 h => ?_)
  refine X_istore (L' := [some (.ref 60), some (.int a0), some (.int b0), some (.int c0), some (.int d0), some (.int e0), some (.int f0), some (.int r7)]) dX12_fewBy_40 (by decide) rfl ?_
  refine X_iload dX12_fewBy_42 rfl ?_
  refine X_bipush (v := 15) dX12_fewBy_44 bipush_15 ?_
  refine X_icmp_ne (tgt := 54) dX12_fewBy_46 (by decide) h (fun h => ?_) (fun h => ?_)
  · refine X_iload dX12_fewBy_54 rfl ?_
    refine X_if_ne (tgt := 64) dX12_fewBy_56 (by decide) h (fun h => ?_) (fun h => ?_)
    · refine X_iload dX12_fewBy_64 rfl ?_
      refine X_iconst (v := 1) dX12_fewBy_66 iconst_1 ?_
      refine X_iadd dX12_fewBy_67 ?_
      exact X_reti rfl dX12_fewBy_68 h
    · refine X_iload dX12_fewBy_59 rfl ?_
      refine X_goto (tgt := 68) dX12_fewBy_61 (by decide) ?_
      exact X_reti rfl dX12_fewBy_68 h
  · refine X_bipush (v := 15) dX12_fewBy_49 bipush_15 ?_
    refine X_goto (tgt := 68) dX12_fewBy_51 (by decide) ?_
    exact X_reti rfl dX12_fewBy_68 h
def w_X12_findFew_l98 (a0 : Int32) (b0 : Int32) (x2 : Int32) (x5 : Int32) (x8 : Int32) (J141 : Int32 → Sg → Prop) : Nat → Int32 → Int32 → Sg → Prop
  | 0, _, _, _ => False
  | n98 + 1, x15, x16, σ17 => if (3 : Int32) ≤ x16 then (J141 x15 σ17) else (vp_in x16 3 ∧ w_X12_fewBy a0 b0 x2 x5 x8 ((exC 8) (Int32.toNatClampNeg x16)) σ17 (fun r19 σ18 => bd (fun (x20 : Int32) (σ21 : Sg) => w_X12_findFew_l98 a0 b0 x2 x5 x8 J141 n98 x20 (x16 + 1) σ21) fun J135 => if x15 ≤ r19 then (J135 x15 σ18) else (J135 r19 σ18)))
def w_X12_findFew_l84 (a0 : Int32) (b0 : Int32) (x2 : Int32) (x5 : Int32) (J162 : Sg → Prop) : Nat → Int32 → Sg → Prop
  | 0, _, _ => False
  | n84 + 1, x8, σ9 => if (8 : Int32) ≤ x8 then (J162 σ9) else (bd (fun (x10 : Int32) (σ11 : Sg) => w_X12_stateOf x5 x8 σ11 (fun r13 σ12 => w_X12_layFew x2 r13 x10 σ12 (fun  σ14 => w_X12_findFew_l84 a0 b0 x2 x5 J162 n84 (x8 + 1) σ14))) fun J141 => ∃ n, w_X12_findFew_l98 a0 b0 x2 x5 x8 J141 n (15 : Int32) (0 : Int32) σ9)
def w_X12_findFew_l73 (a0 : Int32) (b0 : Int32) (x2 : Int32) (J168 : Sg → Prop) : Nat → Int32 → Sg → Prop
  | 0, _, _ => False
  | n73 + 1, x5, σ6 => if (256 : Int32) ≤ x5 then (J168 σ6) else (bd (fun (σ7 : Sg) => w_X12_findFew_l73 a0 b0 x2 J168 n73 (x5 + 1) σ7) fun J162 => ∃ n, w_X12_findFew_l84 a0 b0 x2 x5 J162 n (0 : Int32) σ6)
def w_X12_findFew_l64 (a0 : Int32) (b0 : Int32) (Q : Sg → Prop) : Nat → Int32 → Sg → Prop
  | 0, _, _ => False
  | n64 + 1, x2, σ3 => if b0 < x2 then (Q σ3) else (bd (fun (σ4 : Sg) => w_X12_findFew_l64 a0 b0 Q n64 (x2 + 1) σ4) fun J168 => ∃ n, w_X12_findFew_l73 a0 b0 x2 J168 n (0 : Int32) σ3)
def w_X12_findFew_l14 (c0 : Int32) (x22 : Int32) (J55 : Sg → Prop) : Nat → Int32 → Sg → Prop
  | 0, _, _ => False
  | n14 + 1, x25, σ26 => if (8 : Int32) ≤ x25 then (J55 σ26) else (w_X12_stateOf x22 x25 σ26 (fun r28 σ27 => w_X12_nearTo x22 c0 σ27 (fun r30 σ29 => bd (fun (x31 : Int32) (x32 : Int32) (x33 : Int32) (σ34 : Sg) => w_X12_layFew x31 x32 x33 σ34 (fun  σ35 => w_X12_findFew_l14 c0 x22 J55 n14 (x25 + 1) σ35)) fun J46 => if r30 = 0 then (J46 (0 : Int32) r28 (15 : Int32) σ29) else (J46 (0 : Int32) r28 (0 : Int32) σ29))))
def w_X12_findFew_l3 (c0 : Int32) (J61 : Sg → Prop) : Nat → Int32 → Sg → Prop
  | 0, _, _ => False
  | n3 + 1, x22, σ23 => if (256 : Int32) ≤ x22 then (J61 σ23) else (bd (fun (σ24 : Sg) => w_X12_findFew_l3 c0 J61 n3 (x22 + 1) σ24) fun J55 => ∃ n, w_X12_findFew_l14 c0 x22 J55 n (0 : Int32) σ23)
def w_X12_findFew (a0 : Int32) (b0 : Int32) (c0 : Int32) (σ : Sg) (Q : Sg → Prop) : Prop := bd (fun (σ1 : Sg) => ∃ n, w_X12_findFew_l64 a0 b0 Q n (1 : Int32) σ1) fun J61 => ∃ n, w_X12_findFew_l3 c0 J61 n (0 : Int32) σ
set_option maxRecDepth 100000 in
set_option maxHeartbeats 4000000 in
theorem s_X12_findFew (sx : Nat × (Nat → Int32)) (a0 : Int32) (b0 : Int32) (c0 : Int32) (σ : Sg) (Q : Sg → Prop) (h : w_X12_findFew a0 b0 c0 σ Q) : Ct mX12_findFew 6 false (0, 0) sx G0 [.ref 60, .int a0, .int b0, .int c0] σ (qV Q) := by
  refine Ct.of (L := [some (.ref 60), some (.int a0), some (.int b0), some (.int c0), none, none, none, none, none, none]) (by decide) (Nat.le_of_ble_eq_true rfl) rfl ?_
  unfold w_X12_findFew at h
  refine X_iconst (v := 0) dX12_findFew_0 iconst_0 ?_
  refine X_istore (L' := [some (.ref 60), some (.int a0), some (.int b0), some (.int c0), some (.int (0 : Int32)), none, none, none, none, none]) dX12_findFew_1 (by decide) rfl ?_
  refine bd_j h (fun J61 e61 h => ?_)
  have j61 : ∀ (σ1 : Sg) , J61  σ1 → Ex mX12_findFew 6 false (0, 0) sx G0 61 [some (.ref 60), some (.int a0), some (.int b0), none, none, none, none, none, none, none] [] σ1 (qV Q) := by
    intro  σ1  h
    subst e61
    replace h := h
    refine X_iconst (v := 1) dX12_findFew_61 iconst_1 ?_
    refine X_istore (L' := [some (.ref 60), some (.int a0), some (.int b0), none, some (.int (1 : Int32)), none, none, none, none, none]) dX12_findFew_62 (by decide) rfl ?_
    obtain ⟨n64, h⟩ := h
    have key64 : ∀ (n : Nat) (x2 : Int32) (σ3 : Sg) , w_X12_findFew_l64 a0 b0 Q n x2 σ3 → Ex mX12_findFew 6 false (0, 0) sx G0 64 [some (.ref 60), some (.int a0), some (.int b0), none, some (.int x2), none, none, none, none, none] [] σ3 (qV Q) := by
      intro n64
      induction n64 with
      | zero => intro _ _  h; exact h.elim
      | succ n64 ih64 =>
        intro x2 σ3  h
        unfold w_X12_findFew_l64 at h
        refine X_iload dX12_findFew_64 rfl ?_
        refine X_iload_n dX12_findFew_66 rfl rfl ?_
        refine X_icmp_gt (tgt := 174) dX12_findFew_67 (by decide) h (fun h => ?_) (fun h => ?_)
        · exact X_retv rfl dX12_findFew_174 h
        · refine X_iconst (v := 0) dX12_findFew_70 iconst_0 ?_
          refine X_istore (L' := [some (.ref 60), some (.int a0), some (.int b0), none, some (.int x2), some (.int (0 : Int32)), none, none, none, none]) dX12_findFew_71 (by decide) rfl ?_
          refine bd_j h (fun J168 e168 h => ?_)
          have j168 : ∀ (σ4 : Sg) , J168  σ4 → Ex mX12_findFew 6 false (0, 0) sx G0 168 [some (.ref 60), some (.int a0), some (.int b0), none, some (.int x2), none, none, none, none, none] [] σ4 (qV Q) := by
            intro  σ4  h
            subst e168
            replace h := h
            refine X_iinc (v := (x2 + 1)) (L' := [some (.ref 60), some (.int a0), some (.int b0), none, some (.int (x2 + 1)), none, none, none, none, none]) dX12_findFew_168 rfl rfl (by decide) rfl ?_
            refine X_goto (tgt := 64) dX12_findFew_171 (by decide) ?_
            exact ih64 _ _  h
          obtain ⟨n73, h⟩ := h
          have key73 : ∀ (n : Nat) (x5 : Int32) (σ6 : Sg) , w_X12_findFew_l73 a0 b0 x2 J168 n x5 σ6 → Ex mX12_findFew 6 false (0, 0) sx G0 73 [some (.ref 60), some (.int a0), some (.int b0), none, some (.int x2), some (.int x5), none, none, none, none] [] σ6 (qV Q) := by
            intro n73
            induction n73 with
            | zero => intro _ _  h; exact h.elim
            | succ n73 ih73 =>
              intro x5 σ6  h
              unfold w_X12_findFew_l73 at h
              refine X_iload dX12_findFew_73 rfl ?_
              refine X_sipush (v := 256) dX12_findFew_75 sipush_256 ?_
              refine X_icmp_ge (tgt := 168) dX12_findFew_78 (by decide) h (fun h => ?_) (fun h => ?_)
              · refine X_drop (L' := [some (.ref 60), some (.int a0), some (.int b0), none, some (.int x2), none, none, none, none, none]) ⟨rfl, ⟨rfl, ⟨rfl, ⟨rfl, trivial⟩⟩⟩⟩ ?_
                exact j168 _  h
              · refine X_iconst (v := 0) dX12_findFew_81 iconst_0 ?_
                refine X_istore (L' := [some (.ref 60), some (.int a0), some (.int b0), none, some (.int x2), some (.int x5), some (.int (0 : Int32)), none, none, none]) dX12_findFew_82 (by decide) rfl ?_
                refine bd_j h (fun J162 e162 h => ?_)
                have j162 : ∀ (σ7 : Sg) , J162  σ7 → Ex mX12_findFew 6 false (0, 0) sx G0 162 [some (.ref 60), some (.int a0), some (.int b0), none, some (.int x2), some (.int x5), none, none, none, none] [] σ7 (qV Q) := by
                  intro  σ7  h
                  subst e162
                  replace h := h
                  refine X_iinc (v := (x5 + 1)) (L' := [some (.ref 60), some (.int a0), some (.int b0), none, some (.int x2), some (.int (x5 + 1)), none, none, none, none]) dX12_findFew_162 rfl rfl (by decide) rfl ?_
                  refine X_goto (tgt := 73) dX12_findFew_165 (by decide) ?_
                  exact ih73 _ _  h
                obtain ⟨n84, h⟩ := h
                have key84 : ∀ (n : Nat) (x8 : Int32) (σ9 : Sg) , w_X12_findFew_l84 a0 b0 x2 x5 J162 n x8 σ9 → Ex mX12_findFew 6 false (0, 0) sx G0 84 [some (.ref 60), some (.int a0), some (.int b0), none, some (.int x2), some (.int x5), some (.int x8), none, none, none] [] σ9 (qV Q) := by
                  intro n84
                  induction n84 with
                  | zero => intro _ _  h; exact h.elim
                  | succ n84 ih84 =>
                    intro x8 σ9  h
                    unfold w_X12_findFew_l84 at h
                    refine X_iload dX12_findFew_84 rfl ?_
                    refine X_bipush (v := 8) dX12_findFew_86 bipush_8 ?_
                    refine X_icmp_ge (tgt := 162) dX12_findFew_88 (by decide) h (fun h => ?_) (fun h => ?_)
                    · refine X_drop (L' := [some (.ref 60), some (.int a0), some (.int b0), none, some (.int x2), some (.int x5), none, none, none, none]) ⟨rfl, ⟨rfl, ⟨rfl, ⟨rfl, ⟨rfl, trivial⟩⟩⟩⟩⟩ ?_
                      exact j162 _  h
                    · refine X_bipush (v := 15) dX12_findFew_91 bipush_15 ?_
                      refine X_istore (L' := [some (.ref 60), some (.int a0), some (.int b0), none, some (.int x2), some (.int x5), some (.int x8), some (.int (15 : Int32)), none, none]) dX12_findFew_93 (by decide) rfl ?_
                      refine X_iconst (v := 0) dX12_findFew_95 iconst_0 ?_
                      refine X_istore (L' := [some (.ref 60), some (.int a0), some (.int b0), none, some (.int x2), some (.int x5), some (.int x8), some (.int (15 : Int32)), some (.int (0 : Int32)), none]) dX12_findFew_96 (by decide) rfl ?_
                      refine bd_j h (fun J141 e141 h => ?_)
                      have j141 : ∀ (x10 : Int32) (σ11 : Sg) , J141 x10 σ11 → Ex mX12_findFew 6 false (0, 0) sx G0 141 [some (.ref 60), some (.int a0), some (.int b0), none, some (.int x2), some (.int x5), some (.int x8), some (.int x10), none, none] [] σ11 (qV Q) := by
                        intro x10 σ11  h
                        subst e141
                        replace h := h
                        refine X_aload_n dX12_findFew_141 rfl rfl ?_
                        refine X_iload dX12_findFew_142 rfl ?_
                        refine X_iload dX12_findFew_144 rfl ?_
                        refine X_iload dX12_findFew_146 rfl ?_
                        refine X_callSi [.int x5, .int x8] [.int x2, .ref 60] c_X12_stateOf t_X12_stateOf lk_X12_348 dX12_findFew_148 rfl (by decide) (Nat.le_of_ble_eq_true rfl) rfl (s_X12_stateOf sx x5 x8  σ11 _ h) (fun r13 σ12 h => ?_)
                        refine X_iload dX12_findFew_151 rfl ?_
                        refine X_callVv [.int x2, .int r13, .int x10] [] c_X12_layFew v_X12_layFew lk_X12_354 dX12_findFew_153 g_60 rfl rfl rfl (by decide) (Nat.le_of_ble_eq_true rfl) rfl (s_X12_layFew sx x2 r13 x10  σ12 _ h) (fun  σ14 h => ?_)
                        refine X_iinc (v := (x8 + 1)) (L' := [some (.ref 60), some (.int a0), some (.int b0), none, some (.int x2), some (.int x5), some (.int (x8 + 1)), some (.int x10), none, none]) dX12_findFew_156 rfl rfl (by decide) rfl ?_
                        refine X_goto (tgt := 84) dX12_findFew_159 (by decide) ?_
                        refine X_drop (L' := [some (.ref 60), some (.int a0), some (.int b0), none, some (.int x2), some (.int x5), some (.int (x8 + 1)), none, none, none]) ⟨rfl, ⟨rfl, ⟨rfl, ⟨rfl, ⟨rfl, ⟨rfl, trivial⟩⟩⟩⟩⟩⟩ ?_
                        exact ih84 _ _  h
                      obtain ⟨n98, h⟩ := h
                      have key98 : ∀ (n : Nat) (x15 : Int32) (x16 : Int32) (σ17 : Sg) , w_X12_findFew_l98 a0 b0 x2 x5 x8 J141 n x15 x16 σ17 → Ex mX12_findFew 6 false (0, 0) sx G0 98 [some (.ref 60), some (.int a0), some (.int b0), none, some (.int x2), some (.int x5), some (.int x8), some (.int x15), some (.int x16), none] [] σ17 (qV Q) := by
                        intro n98
                        induction n98 with
                        | zero => intro _ _ _  h; exact h.elim
                        | succ n98 ih98 =>
                          intro x15 x16 σ17  h
                          unfold w_X12_findFew_l98 at h
                          refine X_iload dX12_findFew_98 rfl ?_
                          refine X_iconst (v := 3) dX12_findFew_100 iconst_3 ?_
                          refine X_icmp_ge (tgt := 141) dX12_findFew_101 (by decide) h (fun h => ?_) (fun h => ?_)
                          · refine X_drop (L' := [some (.ref 60), some (.int a0), some (.int b0), none, some (.int x2), some (.int x5), some (.int x8), some (.int x15), none, none]) ⟨rfl, ⟨rfl, ⟨rfl, ⟨rfl, ⟨rfl, ⟨rfl, ⟨rfl, trivial⟩⟩⟩⟩⟩⟩⟩ ?_
                            exact j141 _ _  h
                          · refine X_aload_n dX12_findFew_104 rfl rfl ?_
                            refine X_iload_n dX12_findFew_105 rfl rfl ?_
                            refine X_iload_n dX12_findFew_106 rfl rfl ?_
                            refine X_iload dX12_findFew_107 rfl ?_
                            refine X_iload dX12_findFew_109 rfl ?_
                            refine X_iload dX12_findFew_111 rfl ?_
                            refine X_gets (j := 7) (v := 8) rfl rfl f_X12_357 dX12_findFew_113 ?_
                            refine X_iload dX12_findFew_116 rfl ?_
                            refine X_ialdX (v := 8) (f := (exC 8)) (n := 3) (by decide) rfl rfl dX12_findFew_118 h (fun h => ?_)
                            refine X_callVi [.int a0, .int b0, .int x2, .int x5, .int x8, .int ((exC 8) (Int32.toNatClampNeg x16))] [] c_X12_fewBy v_X12_fewBy lk_X12_360 dX12_findFew_119 g_60 rfl rfl rfl (by decide) (Nat.le_of_ble_eq_true rfl) rfl (s_X12_fewBy sx a0 b0 x2 x5 x8 ((exC 8) (Int32.toNatClampNeg x16))  σ17 _ h) (fun r19 σ18 h => ?_)
                            refine X_istore (L' := [some (.ref 60), some (.int a0), some (.int b0), none, some (.int x2), some (.int x5), some (.int x8), some (.int x15), some (.int x16), some (.int r19)]) dX12_findFew_122 (by decide) rfl ?_
                            refine X_iload dX12_findFew_124 rfl ?_
                            refine X_iload dX12_findFew_126 rfl ?_
                            refine bd_j h (fun J135 e135 h => ?_)
                            have j135 : ∀ (x20 : Int32) (σ21 : Sg) , J135 x20 σ21 → Ex mX12_findFew 6 false (0, 0) sx G0 135 [some (.ref 60), some (.int a0), some (.int b0), none, some (.int x2), some (.int x5), some (.int x8), some (.int x20), some (.int x16), none] [] σ21 (qV Q) := by
                              intro x20 σ21  h
                              subst e135
                              replace h := h
                              refine X_iinc (v := (x16 + 1)) (L' := [some (.ref 60), some (.int a0), some (.int b0), none, some (.int x2), some (.int x5), some (.int x8), some (.int x20), some (.int (x16 + 1)), none]) dX12_findFew_135 rfl rfl (by decide) rfl ?_
                              refine X_goto (tgt := 98) dX12_findFew_138 (by decide) ?_
                              exact ih98 _ _ _  h
                            refine X_icmp_ge (tgt := 135) dX12_findFew_128 (by decide) h (fun h => ?_) (fun h => ?_)
                            · refine X_drop (L' := [some (.ref 60), some (.int a0), some (.int b0), none, some (.int x2), some (.int x5), some (.int x8), some (.int x15), some (.int x16), none]) ⟨rfl, ⟨rfl, ⟨rfl, ⟨rfl, ⟨rfl, ⟨rfl, ⟨rfl, ⟨rfl, trivial⟩⟩⟩⟩⟩⟩⟩⟩ ?_
                              exact j135 _ _  h
                            · refine X_iload dX12_findFew_131 rfl ?_
                              refine X_istore (L' := [some (.ref 60), some (.int a0), some (.int b0), none, some (.int x2), some (.int x5), some (.int x8), some (.int r19), some (.int x16), some (.int r19)]) dX12_findFew_133 (by decide) rfl ?_
                              refine X_drop (L' := [some (.ref 60), some (.int a0), some (.int b0), none, some (.int x2), some (.int x5), some (.int x8), some (.int r19), some (.int x16), none]) ⟨rfl, ⟨rfl, ⟨rfl, ⟨rfl, ⟨rfl, ⟨rfl, ⟨rfl, ⟨rfl, trivial⟩⟩⟩⟩⟩⟩⟩⟩ ?_
                              exact j135 _ _  h
                      exact key98 _ _ _ _  h
                exact key84 _ _ _  h
          exact key73 _ _ _  h
    exact key64 _ _ _  h
  obtain ⟨n3, h⟩ := h
  have key3 : ∀ (n : Nat) (x22 : Int32) (σ23 : Sg) , w_X12_findFew_l3 c0 J61 n x22 σ23 → Ex mX12_findFew 6 false (0, 0) sx G0 3 [some (.ref 60), some (.int a0), some (.int b0), some (.int c0), some (.int x22), none, none, none, none, none] [] σ23 (qV Q) := by
    intro n3
    induction n3 with
    | zero => intro _ _  h; exact h.elim
    | succ n3 ih3 =>
      intro x22 σ23  h
      unfold w_X12_findFew_l3 at h
      refine X_iload dX12_findFew_3 rfl ?_
      refine X_sipush (v := 256) dX12_findFew_5 sipush_256 ?_
      refine X_icmp_ge (tgt := 61) dX12_findFew_8 (by decide) h (fun h => ?_) (fun h => ?_)
      · refine X_drop (L' := [some (.ref 60), some (.int a0), some (.int b0), none, none, none, none, none, none, none]) ⟨rfl, ⟨rfl, ⟨rfl, trivial⟩⟩⟩ ?_
        exact j61 _  h
      · refine X_iconst (v := 0) dX12_findFew_11 iconst_0 ?_
        refine X_istore (L' := [some (.ref 60), some (.int a0), some (.int b0), some (.int c0), some (.int x22), some (.int (0 : Int32)), none, none, none, none]) dX12_findFew_12 (by decide) rfl ?_
        refine bd_j h (fun J55 e55 h => ?_)
        have j55 : ∀ (σ24 : Sg) , J55  σ24 → Ex mX12_findFew 6 false (0, 0) sx G0 55 [some (.ref 60), some (.int a0), some (.int b0), some (.int c0), some (.int x22), none, none, none, none, none] [] σ24 (qV Q) := by
          intro  σ24  h
          subst e55
          replace h := h
          refine X_iinc (v := (x22 + 1)) (L' := [some (.ref 60), some (.int a0), some (.int b0), some (.int c0), some (.int (x22 + 1)), none, none, none, none, none]) dX12_findFew_55 rfl rfl (by decide) rfl ?_
          refine X_goto (tgt := 3) dX12_findFew_58 (by decide) ?_
          exact ih3 _ _  h
        obtain ⟨n14, h⟩ := h
        have key14 : ∀ (n : Nat) (x25 : Int32) (σ26 : Sg) , w_X12_findFew_l14 c0 x22 J55 n x25 σ26 → Ex mX12_findFew 6 false (0, 0) sx G0 14 [some (.ref 60), some (.int a0), some (.int b0), some (.int c0), some (.int x22), some (.int x25), none, none, none, none] [] σ26 (qV Q) := by
          intro n14
          induction n14 with
          | zero => intro _ _  h; exact h.elim
          | succ n14 ih14 =>
            intro x25 σ26  h
            unfold w_X12_findFew_l14 at h
            refine X_iload dX12_findFew_14 rfl ?_
            refine X_bipush (v := 8) dX12_findFew_16 bipush_8 ?_
            refine X_icmp_ge (tgt := 55) dX12_findFew_18 (by decide) h (fun h => ?_) (fun h => ?_)
            · refine X_drop (L' := [some (.ref 60), some (.int a0), some (.int b0), some (.int c0), some (.int x22), none, none, none, none, none]) ⟨rfl, ⟨rfl, ⟨rfl, ⟨rfl, ⟨rfl, trivial⟩⟩⟩⟩⟩ ?_
              exact j55 _  h
            · refine X_aload_n dX12_findFew_21 rfl rfl ?_
              refine X_iconst (v := 0) dX12_findFew_22 iconst_0 ?_
              refine X_iload dX12_findFew_23 rfl ?_
              refine X_iload dX12_findFew_25 rfl ?_
              refine X_callSi [.int x22, .int x25] [.int (0 : Int32), .ref 60] c_X12_stateOf t_X12_stateOf lk_X12_348 dX12_findFew_27 rfl (by decide) (Nat.le_of_ble_eq_true rfl) rfl (s_X12_stateOf sx x22 x25  σ26 _ h) (fun r28 σ27 h => ?_)
              refine X_aload_n dX12_findFew_30 rfl rfl ?_
              refine X_iload dX12_findFew_31 rfl ?_
              refine X_iload_n dX12_findFew_33 rfl rfl ?_
              refine X_callVi [.int x22, .int c0] [.int r28, .int (0 : Int32), .ref 60] c_X12_nearTo v_X12_nearTo lk_X12_305 dX12_findFew_34 g_60 rfl rfl rfl (by decide) (Nat.le_of_ble_eq_true rfl) rfl (s_X12_nearTo sx x22 c0  σ27 _ h) (fun r30 σ29 h => ?_)
              refine bd_j h (fun J46 e46 h => ?_)
              have j46 : ∀ (x31 : Int32) (x32 : Int32) (x33 : Int32) (σ34 : Sg) , J46 x31 x32 x33 σ34 → Ex mX12_findFew 6 false (0, 0) sx G0 46 [some (.ref 60), some (.int a0), some (.int b0), some (.int c0), some (.int x22), some (.int x25), none, none, none, none] [.int x33, .int x32, .int x31, .ref 60] σ34 (qV Q) := by
                intro x31 x32 x33 σ34  h
                subst e46
                replace h := h
                refine X_callVv [.int x31, .int x32, .int x33] [] c_X12_layFew v_X12_layFew lk_X12_354 dX12_findFew_46 g_60 rfl rfl rfl (by decide) (Nat.le_of_ble_eq_true rfl) rfl (s_X12_layFew sx x31 x32 x33  σ34 _ h) (fun  σ35 h => ?_)
                refine X_iinc (v := (x25 + 1)) (L' := [some (.ref 60), some (.int a0), some (.int b0), some (.int c0), some (.int x22), some (.int (x25 + 1)), none, none, none, none]) dX12_findFew_49 rfl rfl (by decide) rfl ?_
                refine X_goto (tgt := 14) dX12_findFew_52 (by decide) ?_
                exact ih14 _ _  h
              refine X_if_eq (tgt := 44) dX12_findFew_37 (by decide) h (fun h => ?_) (fun h => ?_)
              · refine X_bipush (v := 15) dX12_findFew_44 bipush_15 ?_
                exact j46 _ _ _ _  h
              · refine X_iconst (v := 0) dX12_findFew_40 iconst_0 ?_
                refine X_goto (tgt := 46) dX12_findFew_41 (by decide) ?_
                exact j46 _ _ _ _  h
        exact key14 _ _ _  h
  exact key3 _ _ _  h
def w_X12_reins_l113 (b0 : Int32) (x5 : Int32) (x15 : Int32) (x16 : Int32) (x17 : Int32) (J158 : Int32 → Sg → Prop) : Nat → Int32 → Sg → Prop
  | 0, _, _ => False
  | n113 + 1, x26, σ27 => vp_in x26 3 ∧ w_X12_fewBy x5 b0 (b0 - x17) x15 x16 ((exC 8) (Int32.toNatClampNeg x26)) σ27 (fun r29 σ28 => w_X12_stateOf x15 x16 σ28 (fun r31 σ30 => w_X12_fewAt (b0 - x17) r31 σ30 (fun r33 σ32 => if r29 = r33 then (J158 x26 σ32) else (w_X12_reins_l113 b0 x5 x15 x16 x17 J158 n113 (x26 + 1) σ32))))
def w_X12_reins_l104 (b0 : Int32) (c0 : Int32) (Q : Int32 → Sg → Prop) (x5 : Int32) (J164 : Int32 → Sg → Prop) : Nat → Int32 → Int32 → Int32 → Sg → Prop
  | 0, _, _, _, _ => False
  | n104 + 1, x15, x16, x17, σ18 => if c0 < x17 then (Q (-2 : Int32) σ18) else (bd (fun (x19 : Int32) (σ20 : Sg) => if x17 = c0 then (J164 x19 σ20) else (bd (sI σ20 60 30 x15) fun σ21 => bd (sI σ21 60 31 x16) fun σ22 => vp_in x19 3 ∧ w_X12_goHour x5 x17 ((exC 8) (Int32.toNatClampNeg x19)) σ22 (fun  σ23 => bd (σ23.1 60 30) fun x24 => bd (σ23.1 60 31) fun x25 => w_X12_reins_l104 b0 c0 Q x5 J164 n104 x24 x25 (x17 + 1) σ23))) fun J158 => ∃ n, w_X12_reins_l113 b0 x5 x15 x16 x17 J158 n (0 : Int32) σ18)
def w_X12_reins (a0 : Int32) (b0 : Int32) (c0 : Int32) (σ : Sg) (Q : Int32 → Sg → Prop) : Prop := w_X12_areNear a0 σ (fun r2 σ1 => if r2 = 0 then (Q (-1 : Int32) σ1) else (w_X12_in b0 (0 : Int32) (12 : Int32) σ1 (fun r4 σ3 => if r4 = 0 then (Q (-1 : Int32) σ3) else (if (-1 : Int32) ≤ c0 then (bd (a0 / (10 : Int32)) fun x5 => vp_in (a0 - a0 / (10 : Int32) * (10 : Int32)) 8 ∧ w_X12_findFew x5 b0 (σ3.1 65 (Int32.toNatClampNeg (a0 - a0 / (10 : Int32) * (10 : Int32)))) σ3 (fun  σ6 => vp_in x5 6 ∧ bd (σ6.1 61 (Int32.toNatClampNeg x5)) fun x7 => vp_in x5 6 ∧ bd (σ6.1 62 (Int32.toNatClampNeg x5)) fun x8 => w_X12_stateOf x7 x8 σ6 (fun r10 σ9 => w_X12_fewAt b0 r10 σ9 (fun r12 σ11 => if r12 = (15 : Int32) then (Q (-2 : Int32) σ11) else (if c0 < b0 then (if 0 ≤ c0 then (bd (fun (x13 : Int32) (σ14 : Sg) => vp_in x13 3 ∧ Q ((1 : Int32) + ((exC 8) (Int32.toNatClampNeg x13))) σ14) fun J164 => ∃ n, w_X12_reins_l104 b0 c0 Q x5 J164 n x7 x8 (0 : Int32) σ11) else (Q r12 σ11)) else (Q (-2 : Int32) σ11)))))) else (Q (-1 : Int32) σ3)))))
set_option maxRecDepth 100000 in
set_option maxHeartbeats 4000000 in
theorem s_X12_reins (sx : Nat × (Nat → Int32)) (a0 : Int32) (b0 : Int32) (c0 : Int32) (σ : Sg) (Q : Int32 → Sg → Prop) (h : w_X12_reins a0 b0 c0 σ Q) : Ct mX12_reins 7 false (0, 0) sx G0 [.ref 60, .int a0, .int b0, .int c0] σ (qI Q) := by
  refine Ct.of (L := [some (.ref 60), some (.int a0), some (.int b0), some (.int c0), none, none, none, none, none, none]) (by decide) (Nat.le_of_ble_eq_true rfl) rfl ?_
  unfold w_X12_reins at h
  refine X_aload_n dX12_reins_0 rfl rfl ?_
  refine X_iload_n dX12_reins_1 rfl rfl ?_
  refine X_callVi [.int a0] [] c_X12_areNear v_X12_areNear lk_X12_299 dX12_reins_2 g_60 rfl rfl rfl (by decide) (Nat.le_of_ble_eq_true rfl) rfl (s_X12_areNear sx a0  σ _ h) (fun r2 σ1 h => ?_)
  refine X_if_eq (tgt := 23) dX12_reins_5 (by decide) h (fun h => ?_) (fun h => ?_)
  · refine X_iconst (v := -1) dX12_reins_23 iconst_m1 ?_
    exact X_reti rfl dX12_reins_24 h
  · refine X_iload_n dX12_reins_8 rfl rfl ?_
    refine X_iconst (v := 0) dX12_reins_9 iconst_0 ?_
    refine X_bipush (v := 12) dX12_reins_10 bipush_12 ?_
    refine X_callSi [.int b0, .int (0 : Int32), .int (12 : Int32)] [] c_X12_in t_X12_in lk_X12_128 dX12_reins_12 rfl (by decide) (Nat.le_of_ble_eq_true rfl) rfl (s_X12_in sx b0 (0 : Int32) (12 : Int32)  σ1 _ h) (fun r4 σ3 h => ?_)
    refine X_if_eq (tgt := 23) dX12_reins_15 (by decide) h (fun h => ?_) (fun h => ?_)
    · refine X_iconst (v := -1) dX12_reins_23 iconst_m1 ?_
      exact X_reti rfl dX12_reins_24 h
    · refine X_iload_n dX12_reins_18 rfl rfl ?_
      refine X_iconst (v := -1) dX12_reins_19 iconst_m1 ?_
      refine X_icmp_ge (tgt := 25) dX12_reins_20 (by decide) h (fun h => ?_) (fun h => ?_)
      · refine X_iload_n dX12_reins_25 rfl rfl ?_
        refine X_bipush (v := 10) dX12_reins_26 bipush_10 ?_
        refine X_idiv dX12_reins_28 (by decide) ?_
        refine X_topI h (fun x5 h => ?_)
        refine X_istore (L' := [some (.ref 60), some (.int a0), some (.int b0), some (.int c0), some (.int x5), none, none, none, none, none]) dX12_reins_29 (by decide) rfl ?_
        refine X_aload_n dX12_reins_31 rfl rfl ?_
        refine X_iload dX12_reins_32 rfl ?_
        refine X_iload_n dX12_reins_34 rfl rfl ?_
        refine X_aload_n dX12_reins_35 rfl rfl ?_
        refine X_get (v := .ref 65) ck_X12 f_X12_24 g_60 rfl (fun _ => rfl) dX12_reins_36 ?_
        refine X_iload_n dX12_reins_39 rfl rfl ?_
        refine X_bipush (v := 10) dX12_reins_40 bipush_10 ?_
        refine X_irem dX12_reins_42 (by decide) ?_
        refine X_iald g_65 dX12_reins_43 h (fun h => ?_)
        refine X_callVv [.int x5, .int b0, .int (σ3.1 65 (Int32.toNatClampNeg (a0 - a0 / (10 : Int32) * (10 : Int32))))] [] c_X12_findFew v_X12_findFew lk_X12_364 dX12_reins_44 g_60 rfl rfl rfl (by decide) (Nat.le_of_ble_eq_true rfl) rfl (s_X12_findFew sx x5 b0 (σ3.1 65 (Int32.toNatClampNeg (a0 - a0 / (10 : Int32) * (10 : Int32))))  σ3 _ h) (fun  σ6 h => ?_)
        refine X_aload_n dX12_reins_47 rfl rfl ?_
        refine X_get (v := .ref 61) ck_X12 f_X12_9 g_60 rfl (fun _ => rfl) dX12_reins_48 ?_
        refine X_iload dX12_reins_51 rfl ?_
        refine X_iald g_61 dX12_reins_53 h (fun h => ?_)
        refine X_topI h (fun x7 h => ?_)
        refine X_istore (L' := [some (.ref 60), some (.int a0), some (.int b0), some (.int c0), some (.int x5), some (.int x7), none, none, none, none]) dX12_reins_54 (by decide) rfl ?_
        refine X_aload_n dX12_reins_56 rfl rfl ?_
        refine X_get (v := .ref 62) ck_X12 f_X12_15 g_60 rfl (fun _ => rfl) dX12_reins_57 ?_
        refine X_iload dX12_reins_60 rfl ?_
        refine X_iald g_62 dX12_reins_62 h (fun h => ?_)
        refine X_topI h (fun x8 h => ?_)
        refine X_istore (L' := [some (.ref 60), some (.int a0), some (.int b0), some (.int c0), some (.int x5), some (.int x7), some (.int x8), none, none, none]) dX12_reins_63 (by decide) rfl ?_
        refine X_aload_n dX12_reins_65 rfl rfl ?_
        refine X_iload_n dX12_reins_66 rfl rfl ?_
        refine X_iload dX12_reins_67 rfl ?_
        refine X_iload dX12_reins_69 rfl ?_
        refine X_callSi [.int x7, .int x8] [.int b0, .ref 60] c_X12_stateOf t_X12_stateOf lk_X12_348 dX12_reins_71 rfl (by decide) (Nat.le_of_ble_eq_true rfl) rfl (s_X12_stateOf sx x7 x8  σ6 _ h) (fun r10 σ9 h => ?_)
        refine X_callVi [.int b0, .int r10] [] c_X12_fewAt v_X12_fewAt lk_X12_351 dX12_reins_74 g_60 rfl rfl rfl (by decide) (Nat.le_of_ble_eq_true rfl) rfl (s_X12_fewAt sx b0 r10  σ9 _ h) (fun r12 σ11 h => ?_)
        refine X_istore (L' := [some (.ref 60), some (.int a0), some (.int b0), some (.int c0), some (.int x5), some (.int x7), some (.int x8), some (.int r12), none, none]) dX12_reins_77 (by decide) rfl ?_
        refine X_iload dX12_reins_79 rfl ?_
        refine X_bipush (v := 15) dX12_reins_81 bipush_15 ?_
        refine X_icmp_eq (tgt := 91) dX12_reins_83 (by decide) h (fun h => ?_) (fun h => ?_)
        · refine X_bipush (v := -2) dX12_reins_91 bipush_m2 ?_
          exact X_reti rfl dX12_reins_93 h
        · refine X_iload_n dX12_reins_86 rfl rfl ?_
          refine X_iload_n dX12_reins_87 rfl rfl ?_
          refine X_icmp_lt (tgt := 94) dX12_reins_88 (by decide) h (fun h => ?_) (fun h => ?_)
          · refine X_iload_n dX12_reins_94 rfl rfl ?_
            refine X_if_ge (tgt := 101) dX12_reins_95 (by decide) h (fun h => ?_) (fun h => ?_)
            · refine X_iconst (v := 0) dX12_reins_101 iconst_0 ?_
              refine X_istore (L' := [some (.ref 60), some (.int a0), some (.int b0), some (.int c0), some (.int x5), some (.int x7), some (.int x8), some (.int r12), some (.int (0 : Int32)), none]) dX12_reins_102 (by decide) rfl ?_
              refine bd_j h (fun J164 e164 h => ?_)
              have j164 : ∀ (x13 : Int32) (σ14 : Sg) , J164 x13 σ14 → Ex mX12_reins 7 false (0, 0) sx G0 164 [none, none, none, none, none, none, none, none, none, some (.int x13)] [] σ14 (qI Q) := by
                intro x13 σ14  h
                subst e164
                replace h := h
                refine X_iconst (v := 1) dX12_reins_164 iconst_1 ?_
                refine X_gets (j := 7) (v := 8) rfl rfl f_X12_357 dX12_reins_165 ?_
                refine X_iload dX12_reins_168 rfl ?_
                refine X_ialdX (v := 8) (f := (exC 8)) (n := 3) (by decide) rfl rfl dX12_reins_170 h (fun h => ?_)
                refine X_iadd dX12_reins_171 ?_
                exact X_reti rfl dX12_reins_172 h
              obtain ⟨n104, h⟩ := h
              have key104 : ∀ (n : Nat) (x15 : Int32) (x16 : Int32) (x17 : Int32) (σ18 : Sg) , w_X12_reins_l104 b0 c0 Q x5 J164 n x15 x16 x17 σ18 → Ex mX12_reins 7 false (0, 0) sx G0 104 [some (.ref 60), none, some (.int b0), some (.int c0), some (.int x5), some (.int x15), some (.int x16), none, some (.int x17), none] [] σ18 (qI Q) := by
                intro n104
                induction n104 with
                | zero => intro _ _ _ _  h; exact h.elim
                | succ n104 ih104 =>
                  intro x15 x16 x17 σ18  h
                  unfold w_X12_reins_l104 at h
                  refine X_iload dX12_reins_104 rfl ?_
                  refine X_iload_n dX12_reins_106 rfl rfl ?_
                  refine X_icmp_gt (tgt := 217) dX12_reins_107 (by decide) h (fun h => ?_) (fun h => ?_)
                  · refine X_bipush (v := -2) dX12_reins_217 bipush_m2 ?_
                    exact X_reti rfl dX12_reins_219 h
                  · refine X_iconst (v := 0) dX12_reins_110 iconst_0 ?_
                    refine X_istore (L' := [some (.ref 60), none, some (.int b0), some (.int c0), some (.int x5), some (.int x15), some (.int x16), none, some (.int x17), some (.int (0 : Int32))]) dX12_reins_111 (by decide) rfl ?_
                    refine bd_j h (fun J158 e158 h => ?_)
                    have j158 : ∀ (x19 : Int32) (σ20 : Sg) , J158 x19 σ20 → Ex mX12_reins 7 false (0, 0) sx G0 158 [some (.ref 60), none, some (.int b0), some (.int c0), some (.int x5), some (.int x15), some (.int x16), none, some (.int x17), some (.int x19)] [] σ20 (qI Q) := by
                      intro x19 σ20  h
                      subst e158
                      replace h := h
                      refine X_iload dX12_reins_158 rfl ?_
                      refine X_iload_n dX12_reins_160 rfl rfl ?_
                      refine X_icmp_ne (tgt := 173) dX12_reins_161 (by decide) h (fun h => ?_) (fun h => ?_)
                      · refine X_aload_n dX12_reins_173 rfl rfl ?_
                        refine X_iload dX12_reins_174 rfl ?_
                        refine X_putI ck_X12 f_X12_262 rfl g_60 rfl rfl rfl dX12_reins_176 h (fun σ21 h => ?_)
                        refine X_aload_n dX12_reins_179 rfl rfl ?_
                        refine X_iload dX12_reins_180 rfl ?_
                        refine X_putI ck_X12 f_X12_265 rfl g_60 rfl rfl rfl dX12_reins_182 h (fun σ22 h => ?_)
                        refine X_aload_n dX12_reins_185 rfl rfl ?_
                        refine X_iload dX12_reins_186 rfl ?_
                        refine X_iload dX12_reins_188 rfl ?_
                        refine X_gets (j := 7) (v := 8) rfl rfl f_X12_357 dX12_reins_190 ?_
                        refine X_iload dX12_reins_193 rfl ?_
                        refine X_ialdX (v := 8) (f := (exC 8)) (n := 3) (by decide) rfl rfl dX12_reins_195 h (fun h => ?_)
                        refine X_callVv [.int x5, .int x17, .int ((exC 8) (Int32.toNatClampNeg x19))] [] c_X12_goHour v_X12_goHour lk_X12_287 dX12_reins_196 g_60 rfl rfl rfl (by decide) (Nat.le_of_ble_eq_true rfl) rfl (s_X12_goHour sx x5 x17 ((exC 8) (Int32.toNatClampNeg x19))  σ22 _ h) (fun  σ23 h => ?_)
                        refine X_aload_n dX12_reins_199 rfl rfl ?_
                        refine X_get (v := .int (σ23.1 60 30)) ck_X12 f_X12_262 g_60 rfl (fun _ => rfl) dX12_reins_200 ?_
                        refine X_topI h (fun x24 h => ?_)
                        refine X_istore (L' := [some (.ref 60), none, some (.int b0), some (.int c0), some (.int x5), some (.int x24), some (.int x16), none, some (.int x17), some (.int x19)]) dX12_reins_203 (by decide) rfl ?_
                        refine X_aload_n dX12_reins_205 rfl rfl ?_
                        refine X_get (v := .int (σ23.1 60 31)) ck_X12 f_X12_265 g_60 rfl (fun _ => rfl) dX12_reins_206 ?_
                        refine X_topI h (fun x25 h => ?_)
                        refine X_istore (L' := [some (.ref 60), none, some (.int b0), some (.int c0), some (.int x5), some (.int x24), some (.int x25), none, some (.int x17), some (.int x19)]) dX12_reins_209 (by decide) rfl ?_
                        refine X_iinc (v := (x17 + 1)) (L' := [some (.ref 60), none, some (.int b0), some (.int c0), some (.int x5), some (.int x24), some (.int x25), none, some (.int (x17 + 1)), some (.int x19)]) dX12_reins_211 rfl rfl (by decide) rfl ?_
                        refine X_goto (tgt := 104) dX12_reins_214 (by decide) ?_
                        refine X_drop (L' := [some (.ref 60), none, some (.int b0), some (.int c0), some (.int x5), some (.int x24), some (.int x25), none, some (.int (x17 + 1)), none]) ⟨rfl, ⟨rfl, ⟨rfl, ⟨rfl, ⟨rfl, ⟨rfl, ⟨rfl, trivial⟩⟩⟩⟩⟩⟩⟩ ?_
                        exact ih104 _ _ _ _  h
                      · refine X_drop (L' := [none, none, none, none, none, none, none, none, none, some (.int x19)]) ⟨rfl, trivial⟩ ?_
                        exact j164 _ _  h
                    obtain ⟨n113, h⟩ := h
                    have key113 : ∀ (n : Nat) (x26 : Int32) (σ27 : Sg) , w_X12_reins_l113 b0 x5 x15 x16 x17 J158 n x26 σ27 → Ex mX12_reins 7 false (0, 0) sx G0 113 [some (.ref 60), none, some (.int b0), some (.int c0), some (.int x5), some (.int x15), some (.int x16), none, some (.int x17), some (.int x26)] [] σ27 (qI Q) := by
                      intro n113
                      induction n113 with
                      | zero => intro _ _  h; exact h.elim
                      | succ n113 ih113 =>
                        intro x26 σ27  h
                        unfold w_X12_reins_l113 at h
                        refine X_aload_n dX12_reins_113 rfl rfl ?_
                        refine X_iload dX12_reins_114 rfl ?_
                        refine X_iload_n dX12_reins_116 rfl rfl ?_
                        refine X_iload_n dX12_reins_117 rfl rfl ?_
                        refine X_iload dX12_reins_118 rfl ?_
                        refine X_isub dX12_reins_120 ?_
                        refine X_iload dX12_reins_121 rfl ?_
                        refine X_iload dX12_reins_123 rfl ?_
                        refine X_gets (j := 7) (v := 8) rfl rfl f_X12_357 dX12_reins_125 ?_
                        refine X_iload dX12_reins_128 rfl ?_
                        refine X_ialdX (v := 8) (f := (exC 8)) (n := 3) (by decide) rfl rfl dX12_reins_130 h (fun h => ?_)
                        refine X_callVi [.int x5, .int b0, .int (b0 - x17), .int x15, .int x16, .int ((exC 8) (Int32.toNatClampNeg x26))] [] c_X12_fewBy v_X12_fewBy lk_X12_360 dX12_reins_131 g_60 rfl rfl rfl (by decide) (Nat.le_of_ble_eq_true rfl) rfl (s_X12_fewBy sx x5 b0 (b0 - x17) x15 x16 ((exC 8) (Int32.toNatClampNeg x26))  σ27 _ h) (fun r29 σ28 h => ?_)
                        refine X_aload_n dX12_reins_134 rfl rfl ?_
                        refine X_iload_n dX12_reins_135 rfl rfl ?_
                        refine X_iload dX12_reins_136 rfl ?_
                        refine X_isub dX12_reins_138 ?_
                        refine X_iload dX12_reins_139 rfl ?_
                        refine X_iload dX12_reins_141 rfl ?_
                        refine X_callSi [.int x15, .int x16] [.int (b0 - x17), .ref 60, .int r29] c_X12_stateOf t_X12_stateOf lk_X12_348 dX12_reins_143 rfl (by decide) (Nat.le_of_ble_eq_true rfl) rfl (s_X12_stateOf sx x15 x16  σ28 _ h) (fun r31 σ30 h => ?_)
                        refine X_callVi [.int (b0 - x17), .int r31] [.int r29] c_X12_fewAt v_X12_fewAt lk_X12_351 dX12_reins_146 g_60 rfl rfl rfl (by decide) (Nat.le_of_ble_eq_true rfl) rfl (s_X12_fewAt sx (b0 - x17) r31  σ30 _ h) (fun r33 σ32 h => ?_)
                        refine X_icmp_eq (tgt := 158) dX12_reins_149 (by decide) h (fun h => ?_) (fun h => ?_)
                        · exact j158 _ _  h
                        · refine X_iinc (v := (x26 + 1)) (L' := [some (.ref 60), none, some (.int b0), some (.int c0), some (.int x5), some (.int x15), some (.int x16), none, some (.int x17), some (.int (x26 + 1))]) dX12_reins_152 rfl rfl (by decide) rfl ?_
                          refine X_goto (tgt := 113) dX12_reins_155 (by decide) ?_
                          exact ih113 _ _  h
                    exact key113 _ _ _  h
              refine X_drop (L' := [some (.ref 60), none, some (.int b0), some (.int c0), some (.int x5), some (.int x7), some (.int x8), none, some (.int (0 : Int32)), none]) ⟨rfl, ⟨rfl, ⟨rfl, ⟨rfl, ⟨rfl, ⟨rfl, ⟨rfl, trivial⟩⟩⟩⟩⟩⟩⟩ ?_
              exact key104 _ _ _ _ _  h
            · refine X_iload dX12_reins_98 rfl ?_
              exact X_reti rfl dX12_reins_100 h
          · refine X_bipush (v := -2) dX12_reins_91 bipush_m2 ?_
            exact X_reti rfl dX12_reins_93 h
      · refine X_iconst (v := -1) dX12_reins_23 iconst_m1 ?_
        exact X_reti rfl dX12_reins_24 h
def w_X12_lowest_l16 (J41 : Int64 → Sg → Prop) : Nat → Int64 → Int64 → Sg → Prop
  | 0, _, _, _ => False
  | n16 + 1, x3, x4, σ5 => if (lg_cmp x4 (0 : Int64)) = 0 then (J41 x3 σ5) else (¬ x4 = 0 ∧ bd (x3 - x3 / x4 * x4) fun x6 => w_X12_lowest_l16 J41 n16 x4 x6 σ5)
def w_X12_lowest (a0 : Int64) (b0 : Int64) (c0 : Int32) (σ : Sg) (Q : Int64 → Sg → Prop) : Prop := if (lg_cmp a0 (0 : Int64)) = 0 then (Q (Int32.toInt64 c0) σ) else (bd (fun (x1 : Int64) (σ2 : Sg) => if c0 = 0 then (¬ x1 = 0 ∧ Q (a0 / x1) σ2) else (¬ x1 = 0 ∧ Q (b0 / x1) σ2)) fun J41 => ∃ n, w_X12_lowest_l16 J41 n a0 b0 σ)
set_option maxRecDepth 100000 in
set_option maxHeartbeats 4000000 in
theorem s_X12_lowest (sx : Nat × (Nat → Int32)) (a0 : Int64) (b0 : Int64) (c0 : Int32) (σ : Sg) (Q : Int64 → Sg → Prop) (h : w_X12_lowest a0 b0 c0 σ Q) : Ct mX12_lowest 0 false (0, 0) sx G0 [.long a0, .long b0, .int c0] σ (qJ Q) := by
  refine Ct.of (L := [some (.long a0), none, some (.long b0), none, some (.int c0), none, none, none, none, none, none]) (by decide) (Nat.le_of_ble_eq_true rfl) rfl ?_
  unfold w_X12_lowest at h
  refine X_lload_n dX12_lowest_0 rfl rfl ?_
  refine X_lconst (v := 0) dX12_lowest_1 rfl ?_
  refine X_lcmp dX12_lowest_2 ?_
  refine X_if_ne (tgt := 10) dX12_lowest_3 (by decide) h (fun h => ?_) (fun h => ?_)
  · refine X_lload_n dX12_lowest_10 rfl rfl ?_
    refine X_lstore (L' := [some (.long a0), none, some (.long b0), none, some (.int c0), some (.long a0), none, none, none, none, none]) dX12_lowest_11 (by decide) rfl ?_
    refine X_lload_n dX12_lowest_13 rfl rfl ?_
    refine X_lstore (L' := [some (.long a0), none, some (.long b0), none, some (.int c0), some (.long a0), none, some (.long b0), none, none, none]) dX12_lowest_14 (by decide) rfl ?_
    refine bd_j h (fun J41 e41 h => ?_)
    have j41 : ∀ (x1 : Int64) (σ2 : Sg) , J41 x1 σ2 → Ex mX12_lowest 0 false (0, 0) sx G0 41 [some (.long a0), none, some (.long b0), none, some (.int c0), some (.long x1), none, none, none, none, none] [] σ2 (qJ Q) := by
      intro x1 σ2  h
      subst e41
      replace h := h
      refine X_iload dX12_lowest_41 rfl ?_
      refine X_if_ne (tgt := 53) dX12_lowest_43 (by decide) h (fun h => ?_) (fun h => ?_)
      · refine X_lload_n dX12_lowest_53 rfl rfl ?_
        refine X_lload dX12_lowest_54 rfl ?_
        obtain ⟨hz, h⟩ := h
        refine X_ldiv dX12_lowest_56 hz ?_
        exact X_retl rfl dX12_lowest_57 h
      · refine X_lload_n dX12_lowest_46 rfl rfl ?_
        refine X_lload dX12_lowest_47 rfl ?_
        obtain ⟨hz, h⟩ := h
        refine X_ldiv dX12_lowest_49 hz ?_
        refine X_goto (tgt := 57) dX12_lowest_50 (by decide) ?_
        exact X_retl rfl dX12_lowest_57 h
    obtain ⟨n16, h⟩ := h
    have key16 : ∀ (n : Nat) (x3 : Int64) (x4 : Int64) (σ5 : Sg) , w_X12_lowest_l16 J41 n x3 x4 σ5 → Ex mX12_lowest 0 false (0, 0) sx G0 16 [some (.long a0), none, some (.long b0), none, some (.int c0), some (.long x3), none, some (.long x4), none, none, none] [] σ5 (qJ Q) := by
      intro n16
      induction n16 with
      | zero => intro _ _ _  h; exact h.elim
      | succ n16 ih16 =>
        intro x3 x4 σ5  h
        unfold w_X12_lowest_l16 at h
        refine X_lload dX12_lowest_16 rfl ?_
        refine X_lconst (v := 0) dX12_lowest_18 rfl ?_
        refine X_lcmp dX12_lowest_19 ?_
        refine X_if_eq (tgt := 41) dX12_lowest_20 (by decide) h (fun h => ?_) (fun h => ?_)
        · refine X_drop (L' := [some (.long a0), none, some (.long b0), none, some (.int c0), some (.long x3), none, none, none, none, none]) ⟨rfl, ⟨rfl, ⟨rfl, ⟨rfl, trivial⟩⟩⟩⟩ ?_
          exact j41 _ _  h
        · refine X_lload dX12_lowest_23 rfl ?_
          refine X_lload dX12_lowest_25 rfl ?_
          obtain ⟨hz, h⟩ := h
          refine X_lrem dX12_lowest_27 hz ?_
          refine X_topJ h (fun x6 h => ?_)
          refine X_lstore (L' := [some (.long a0), none, some (.long b0), none, some (.int c0), some (.long x3), none, some (.long x4), none, some (.long x6), none]) dX12_lowest_28 (by decide) rfl ?_
          refine X_lload dX12_lowest_30 rfl ?_
          refine X_lstore (L' := [some (.long a0), none, some (.long b0), none, some (.int c0), some (.long x4), none, some (.long x4), none, some (.long x6), none]) dX12_lowest_32 (by decide) rfl ?_
          refine X_lload dX12_lowest_34 rfl ?_
          refine X_lstore (L' := [some (.long a0), none, some (.long b0), none, some (.int c0), some (.long x4), none, some (.long x6), none, some (.long x6), none]) dX12_lowest_36 (by decide) rfl ?_
          refine X_goto (tgt := 16) dX12_lowest_38 (by decide) ?_
          refine X_drop (L' := [some (.long a0), none, some (.long b0), none, some (.int c0), some (.long x4), none, some (.long x6), none, none, none]) ⟨rfl, ⟨rfl, ⟨rfl, ⟨rfl, ⟨rfl, trivial⟩⟩⟩⟩⟩ ?_
          exact ih16 _ _ _  h
    exact key16 _ _ _ _  h
  · refine X_iload dX12_lowest_6 rfl ?_
    refine X_i2l dX12_lowest_8 ?_
    exact X_retl rfl dX12_lowest_9 h
def w_X12_areChance (a0 : Int32) (b0 : Int32) (c0 : Int32) (d0 : Int32) (σ : Sg) (Q : Int32 → Sg → Prop) : Prop := w_X12_areNear a0 σ (fun r2 σ1 => if r2 = 0 then (Q (0 : Int32) σ1) else (w_X12_in b0 (0 : Int32) (8 : Int32) σ1 (fun r4 σ3 => if r4 = 0 then (Q (0 : Int32) σ3) else (w_X12_in c0 (0 : Int32) (12 : Int32) σ3 (fun r6 σ5 => if r6 = 0 then (Q (0 : Int32) σ5) else (w_X12_in d0 (0 : Int32) (1 : Int32) σ5 (fun r8 σ7 => if r8 = 0 then (Q (0 : Int32) σ7) else (Q (1 : Int32) σ7))))))))
set_option maxRecDepth 100000 in
set_option maxHeartbeats 4000000 in
theorem s_X12_areChance (sx : Nat × (Nat → Int32)) (a0 : Int32) (b0 : Int32) (c0 : Int32) (d0 : Int32) (σ : Sg) (Q : Int32 → Sg → Prop) (h : w_X12_areChance a0 b0 c0 d0 σ Q) : Ct mX12_areChance 3 false (0, 0) sx G0 [.ref 60, .int a0, .int b0, .int c0, .int d0] σ (qI Q) := by
  refine Ct.of (L := [some (.ref 60), some (.int a0), some (.int b0), some (.int c0), some (.int d0)]) (by decide) (Nat.le_of_ble_eq_true rfl) rfl ?_
  unfold w_X12_areChance at h
  refine X_aload_n dX12_areChance_0 rfl rfl ?_
  refine X_iload_n dX12_areChance_1 rfl rfl ?_
  refine X_callVi [.int a0] [] c_X12_areNear v_X12_areNear lk_X12_299 dX12_areChance_2 g_60 rfl rfl rfl (by decide) (Nat.le_of_ble_eq_true rfl) rfl (s_X12_areNear sx a0  σ _ h) (fun r2 σ1 h => ?_)
  refine X_if_eq (tgt := 42) dX12_areChance_5 (by decide) h (fun h => ?_) (fun h => ?_)
  · refine X_iconst (v := 0) dX12_areChance_42 iconst_0 ?_
    exact X_retz rfl rfl dX12_areChance_43 h
  · refine X_iload_n dX12_areChance_8 rfl rfl ?_
    refine X_iconst (v := 0) dX12_areChance_9 iconst_0 ?_
    refine X_bipush (v := 8) dX12_areChance_10 bipush_8 ?_
    refine X_callSi [.int b0, .int (0 : Int32), .int (8 : Int32)] [] c_X12_in t_X12_in lk_X12_128 dX12_areChance_12 rfl (by decide) (Nat.le_of_ble_eq_true rfl) rfl (s_X12_in sx b0 (0 : Int32) (8 : Int32)  σ1 _ h) (fun r4 σ3 h => ?_)
    refine X_if_eq (tgt := 42) dX12_areChance_15 (by decide) h (fun h => ?_) (fun h => ?_)
    · refine X_iconst (v := 0) dX12_areChance_42 iconst_0 ?_
      exact X_retz rfl rfl dX12_areChance_43 h
    · refine X_iload_n dX12_areChance_18 rfl rfl ?_
      refine X_iconst (v := 0) dX12_areChance_19 iconst_0 ?_
      refine X_bipush (v := 12) dX12_areChance_20 bipush_12 ?_
      refine X_callSi [.int c0, .int (0 : Int32), .int (12 : Int32)] [] c_X12_in t_X12_in lk_X12_128 dX12_areChance_22 rfl (by decide) (Nat.le_of_ble_eq_true rfl) rfl (s_X12_in sx c0 (0 : Int32) (12 : Int32)  σ3 _ h) (fun r6 σ5 h => ?_)
      refine X_if_eq (tgt := 42) dX12_areChance_25 (by decide) h (fun h => ?_) (fun h => ?_)
      · refine X_iconst (v := 0) dX12_areChance_42 iconst_0 ?_
        exact X_retz rfl rfl dX12_areChance_43 h
      · refine X_iload dX12_areChance_28 rfl ?_
        refine X_iconst (v := 0) dX12_areChance_30 iconst_0 ?_
        refine X_iconst (v := 1) dX12_areChance_31 iconst_1 ?_
        refine X_callSi [.int d0, .int (0 : Int32), .int (1 : Int32)] [] c_X12_in t_X12_in lk_X12_128 dX12_areChance_32 rfl (by decide) (Nat.le_of_ble_eq_true rfl) rfl (s_X12_in sx d0 (0 : Int32) (1 : Int32)  σ5 _ h) (fun r8 σ7 h => ?_)
        refine X_if_eq (tgt := 42) dX12_areChance_35 (by decide) h (fun h => ?_) (fun h => ?_)
        · refine X_iconst (v := 0) dX12_areChance_42 iconst_0 ?_
          exact X_retz rfl rfl dX12_areChance_43 h
        · refine X_iconst (v := 1) dX12_areChance_38 iconst_1 ?_
          refine X_goto (tgt := 43) dX12_areChance_39 (by decide) ?_
          exact X_retz rfl rfl dX12_areChance_43 h
def w_X12_manyNear_l4 (a0 : Int32) (Q : Int32 → Sg → Prop) : Nat → Int32 → Int32 → Sg → Prop
  | 0, _, _, _ => False
  | n4 + 1, x1, x2, σ3 => if (σ3.1 60 1) ≤ x2 then (Q x1 σ3) else (vp_in x2 6 ∧ vp_in a0 8 ∧ w_X12_nearTo (σ3.1 82 (Int32.toNatClampNeg x2)) (σ3.1 65 (Int32.toNatClampNeg a0)) σ3 (fun r5 σ4 => bd (fun (x6 : Int32) (σ7 : Sg) => w_X12_manyNear_l4 a0 Q n4 x6 (x2 + 1) σ7) fun J34 => if r5 = 0 then (J34 x1 σ4) else (J34 (x1 + 1) σ4)))
def w_X12_manyNear (a0 : Int32) (σ : Sg) (Q : Int32 → Sg → Prop) : Prop := ∃ n, w_X12_manyNear_l4 a0 Q n (0 : Int32) (0 : Int32) σ
set_option maxRecDepth 100000 in
set_option maxHeartbeats 4000000 in
theorem s_X12_manyNear (sx : Nat × (Nat → Int32)) (a0 : Int32) (σ : Sg) (Q : Int32 → Sg → Prop) (h : w_X12_manyNear a0 σ Q) : Ct mX12_manyNear 3 false (0, 0) sx G0 [.ref 60, .int a0] σ (qI Q) := by
  refine Ct.of (L := [some (.ref 60), some (.int a0), none, none]) (by decide) (Nat.le_of_ble_eq_true rfl) rfl ?_
  unfold w_X12_manyNear at h
  refine X_iconst (v := 0) dX12_manyNear_0 iconst_0 ?_
  refine X_istore_n (L' := [some (.ref 60), some (.int a0), some (.int (0 : Int32)), none]) dX12_manyNear_1 rfl (by decide) rfl ?_
  refine X_iconst (v := 0) dX12_manyNear_2 iconst_0 ?_
  refine X_istore_n (L' := [some (.ref 60), some (.int a0), some (.int (0 : Int32)), some (.int (0 : Int32))]) dX12_manyNear_3 rfl (by decide) rfl ?_
  obtain ⟨n4, h⟩ := h
  have key4 : ∀ (n : Nat) (x1 : Int32) (x2 : Int32) (σ3 : Sg) , w_X12_manyNear_l4 a0 Q n x1 x2 σ3 → Ex mX12_manyNear 3 false (0, 0) sx G0 4 [some (.ref 60), some (.int a0), some (.int x1), some (.int x2)] [] σ3 (qI Q) := by
    intro n4
    induction n4 with
    | zero => intro _ _ _  h; exact h.elim
    | succ n4 ih4 =>
      intro x1 x2 σ3  h
      unfold w_X12_manyNear_l4 at h
      refine X_iload_n dX12_manyNear_4 rfl rfl ?_
      refine X_aload_n dX12_manyNear_5 rfl rfl ?_
      refine X_get (v := .int (σ3.1 60 1)) ck_X12 f_X12_125 g_60 rfl (fun _ => rfl) dX12_manyNear_6 ?_
      refine X_icmp_ge (tgt := 40) dX12_manyNear_9 (by decide) h (fun h => ?_) (fun h => ?_)
      · refine X_iload_n dX12_manyNear_40 rfl rfl ?_
        exact X_reti rfl dX12_manyNear_41 h
      · refine X_aload_n dX12_manyNear_12 rfl rfl ?_
        refine X_aload_n dX12_manyNear_13 rfl rfl ?_
        refine X_get (v := .ref 82) ck_X12 f_X12_77 g_60 rfl (fun _ => rfl) dX12_manyNear_14 ?_
        refine X_iload_n dX12_manyNear_17 rfl rfl ?_
        refine X_iald g_82 dX12_manyNear_18 h (fun h => ?_)
        refine X_aload_n dX12_manyNear_19 rfl rfl ?_
        refine X_get (v := .ref 65) ck_X12 f_X12_24 g_60 rfl (fun _ => rfl) dX12_manyNear_20 ?_
        refine X_iload_n dX12_manyNear_23 rfl rfl ?_
        refine X_iald g_65 dX12_manyNear_24 h (fun h => ?_)
        refine X_callVi [.int (σ3.1 82 (Int32.toNatClampNeg x2)), .int (σ3.1 65 (Int32.toNatClampNeg a0))] [] c_X12_nearTo v_X12_nearTo lk_X12_305 dX12_manyNear_25 g_60 rfl rfl rfl (by decide) (Nat.le_of_ble_eq_true rfl) rfl (s_X12_nearTo sx (σ3.1 82 (Int32.toNatClampNeg x2)) (σ3.1 65 (Int32.toNatClampNeg a0))  σ3 _ h) (fun r5 σ4 h => ?_)
        refine bd_j h (fun J34 e34 h => ?_)
        have j34 : ∀ (x6 : Int32) (σ7 : Sg) , J34 x6 σ7 → Ex mX12_manyNear 3 false (0, 0) sx G0 34 [some (.ref 60), some (.int a0), some (.int x6), some (.int x2)] [] σ7 (qI Q) := by
          intro x6 σ7  h
          subst e34
          replace h := h
          refine X_iinc (v := (x2 + 1)) (L' := [some (.ref 60), some (.int a0), some (.int x6), some (.int (x2 + 1))]) dX12_manyNear_34 rfl rfl (by decide) rfl ?_
          refine X_goto (tgt := 4) dX12_manyNear_37 (by decide) ?_
          exact ih4 _ _ _  h
        refine X_if_eq (tgt := 34) dX12_manyNear_28 (by decide) h (fun h => ?_) (fun h => ?_)
        · exact j34 _ _  h
        · refine X_iinc (v := (x1 + 1)) (L' := [some (.ref 60), some (.int a0), some (.int (x1 + 1)), some (.int x2)]) dX12_manyNear_31 rfl rfl (by decide) rfl ?_
          exact j34 _ _  h
  exact key4 _ _ _ _  h
def w_X12_placesNear_l4 (Q : Int32 → Sg → Prop) : Nat → Int32 → Int32 → Sg → Prop
  | 0, _, _, _ => False
  | n4 + 1, x1, x2, σ3 => if (σ3.1 60 6) ≤ x2 then (Q x1 σ3) else (w_X12_manyNear x2 σ3 (fun r5 σ4 => bd (fun (x6 : Int32) (σ7 : Sg) => w_X12_placesNear_l4 Q n4 x6 (x2 + 1) σ7) fun J23 => if r5 ≤ 0 then (J23 x1 σ4) else (J23 (x1 + 1) σ4)))
def w_X12_placesNear (σ : Sg) (Q : Int32 → Sg → Prop) : Prop := ∃ n, w_X12_placesNear_l4 Q n (0 : Int32) (0 : Int32) σ
set_option maxRecDepth 100000 in
set_option maxHeartbeats 4000000 in
theorem s_X12_placesNear (sx : Nat × (Nat → Int32)) (σ : Sg) (Q : Int32 → Sg → Prop) (h : w_X12_placesNear σ Q) : Ct mX12_placesNear 4 false (0, 0) sx G0 [.ref 60] σ (qI Q) := by
  refine Ct.of (L := [some (.ref 60), none, none]) (by decide) (Nat.le_of_ble_eq_true rfl) rfl ?_
  unfold w_X12_placesNear at h
  refine X_iconst (v := 0) dX12_placesNear_0 iconst_0 ?_
  refine X_istore_n (L' := [some (.ref 60), some (.int (0 : Int32)), none]) dX12_placesNear_1 rfl (by decide) rfl ?_
  refine X_iconst (v := 0) dX12_placesNear_2 iconst_0 ?_
  refine X_istore_n (L' := [some (.ref 60), some (.int (0 : Int32)), some (.int (0 : Int32))]) dX12_placesNear_3 rfl (by decide) rfl ?_
  obtain ⟨n4, h⟩ := h
  have key4 : ∀ (n : Nat) (x1 : Int32) (x2 : Int32) (σ3 : Sg) , w_X12_placesNear_l4 Q n x1 x2 σ3 → Ex mX12_placesNear 4 false (0, 0) sx G0 4 [some (.ref 60), some (.int x1), some (.int x2)] [] σ3 (qI Q) := by
    intro n4
    induction n4 with
    | zero => intro _ _ _  h; exact h.elim
    | succ n4 ih4 =>
      intro x1 x2 σ3  h
      unfold w_X12_placesNear_l4 at h
      refine X_iload_n dX12_placesNear_4 rfl rfl ?_
      refine X_aload_n dX12_placesNear_5 rfl rfl ?_
      refine X_get (v := .int (σ3.1 60 6)) ck_X12 f_X12_132 g_60 rfl (fun _ => rfl) dX12_placesNear_6 ?_
      refine X_icmp_ge (tgt := 29) dX12_placesNear_9 (by decide) h (fun h => ?_) (fun h => ?_)
      · refine X_iload_n dX12_placesNear_29 rfl rfl ?_
        exact X_reti rfl dX12_placesNear_30 h
      · refine X_aload_n dX12_placesNear_12 rfl rfl ?_
        refine X_iload_n dX12_placesNear_13 rfl rfl ?_
        refine X_callVi [.int x2] [] c_X12_manyNear v_X12_manyNear lk_X12_401 dX12_placesNear_14 g_60 rfl rfl rfl (by decide) (Nat.le_of_ble_eq_true rfl) rfl (s_X12_manyNear sx x2  σ3 _ h) (fun r5 σ4 h => ?_)
        refine bd_j h (fun J23 e23 h => ?_)
        have j23 : ∀ (x6 : Int32) (σ7 : Sg) , J23 x6 σ7 → Ex mX12_placesNear 4 false (0, 0) sx G0 23 [some (.ref 60), some (.int x6), some (.int x2)] [] σ7 (qI Q) := by
          intro x6 σ7  h
          subst e23
          replace h := h
          refine X_iinc (v := (x2 + 1)) (L' := [some (.ref 60), some (.int x6), some (.int (x2 + 1))]) dX12_placesNear_23 rfl rfl (by decide) rfl ?_
          refine X_goto (tgt := 4) dX12_placesNear_26 (by decide) ?_
          exact ih4 _ _ _  h
        refine X_if_le (tgt := 23) dX12_placesNear_17 (by decide) h (fun h => ?_) (fun h => ?_)
        · exact j23 _ _  h
        · refine X_iinc (v := (x1 + 1)) (L' := [some (.ref 60), some (.int (x1 + 1)), some (.int x2)]) dX12_placesNear_20 rfl rfl (by decide) rfl ?_
          exact j23 _ _  h
  exact key4 _ _ _ _  h
def w_X12_drawn_l125 (x23 : Int32) (J213 : Int32 → Sg → Prop) : Nat → Int32 → Int32 → Sg → Prop
  | 0, _, _, _ => False
  | n125 + 1, x27, x28, σ29 => if (σ29.1 60 1) ≤ x28 then (J213 x27 σ29) else (bd ((x27 * (1103515245 : Int32)) + (12345 : Int32)) fun x30 => vp_in x28 6 ∧ bd (sI σ29 60 30 (σ29.1 82 (Int32.toNatClampNeg x28))) fun σ31 => vp_in x28 6 ∧ bd (sI σ31 60 31 (σ31.1 83 (Int32.toNatClampNeg x28))) fun σ32 => w_X12_goHour x28 x23 ((((x30.toUInt32 >>> (Int32.toUInt32 (8 : Int32) &&& Int32.toUInt32 31)).toInt32) - ((x30.toUInt32 >>> (Int32.toUInt32 (8 : Int32) &&& Int32.toUInt32 31)).toInt32) / (3 : Int32) * (3 : Int32)) - (1 : Int32)) σ32 (fun  σ33 => vp_in x28 6 ∧ bd (sI σ33 82 (Int32.toNatClampNeg x28) (σ33.1 60 30)) fun σ34 => vp_in x28 6 ∧ bd (sI σ34 83 (Int32.toNatClampNeg x28) (σ34.1 60 31)) fun σ35 => w_X12_drawn_l125 x23 J213 n125 x30 (x28 + 1) σ35))
def w_X12_drawn_l113 (b0 : Int32) (J219 : Int32 → Sg → Prop) : Nat → Int32 → Int32 → Sg → Prop
  | 0, _, _, _ => False
  | n113 + 1, x22, x23, σ24 => if (b0 - b0 / (100 : Int32) * (100 : Int32)) ≤ x23 then (J219 x22 σ24) else (bd (fun (x25 : Int32) (σ26 : Sg) => w_X12_drawn_l113 b0 J219 n113 x25 (x23 + 1) σ26) fun J213 => ∃ n, w_X12_drawn_l125 x23 J213 n x22 (0 : Int32) σ24)
def w_X12_drawn_l67 (J110 : Sg → Prop) : Nat → Int32 → Sg → Prop
  | 0, _, _ => False
  | n67 + 1, x36, σ37 => if (σ37.1 60 1) ≤ x36 then (J110 σ37) else (vp_in x36 6 ∧ vp_in x36 6 ∧ bd (sI σ37 82 (Int32.toNatClampNeg x36) (σ37.1 61 (Int32.toNatClampNeg x36))) fun σ38 => vp_in x36 6 ∧ vp_in x36 6 ∧ bd (sI σ38 83 (Int32.toNatClampNeg x36) (σ38.1 62 (Int32.toNatClampNeg x36))) fun σ39 => w_X12_drawn_l67 J110 n67 (x36 + 1) σ39)
def w_X12_drawn_l55 (b0 : Int32) (c0 : Int32) (Q : Int32 → Sg → Prop) : Nat → Int32 → Int32 → Int32 → Sg → Prop
  | 0, _, _, _, _ => False
  | n55 + 1, x7, x8, x9, σ10 => if (b0 / (100 : Int32)) ≤ x9 then (Q x8 σ10) else (bd (fun (σ11 : Sg) => bd (fun (x12 : Int32) (σ13 : Sg) => bd (fun (x14 : Int32) (x15 : Int32) (σ16 : Sg) => bd (x14 + x15) fun x17 => w_X12_drawn_l55 b0 c0 Q n55 x12 x17 (x9 + 1) σ16) fun J237 => if 0 ≤ c0 then (w_X12_manyNear c0 σ13 (fun r19 σ18 => J237 x8 r19 σ18)) else (w_X12_placesNear  σ13 (fun r21 σ20 => J237 x8 r21 σ20))) fun J219 => ∃ n, w_X12_drawn_l113 b0 J219 n x7 (0 : Int32) σ11) fun J110 => ∃ n, w_X12_drawn_l67 J110 n (0 : Int32) σ10)
def w_X12_drawn (a0 : Int32) (b0 : Int32) (c0 : Int32) (σ : Sg) (Q : Int32 → Sg → Prop) : Prop := if b0 < 0 then (Q (-1 : Int32) σ) else (w_X12_in (b0 / (100 : Int32)) (1 : Int32) (30 : Int32) σ (fun r2 σ1 => if r2 = 0 then (Q (-1 : Int32) σ1) else (w_X12_in (b0 - b0 / (100 : Int32) * (100 : Int32)) (1 : Int32) (40 : Int32) σ1 (fun r4 σ3 => if r4 = 0 then (Q (-1 : Int32) σ3) else (w_X12_in c0 (-1 : Int32) ((σ3.1 60 6) - (1 : Int32)) σ3 (fun r6 σ5 => if r6 = 0 then (Q (-1 : Int32) σ5) else (∃ n, w_X12_drawn_l55 b0 c0 Q n a0 (0 : Int32) (0 : Int32) σ5)))))))
set_option maxRecDepth 100000 in
set_option maxHeartbeats 4000000 in
theorem s_X12_drawn (sx : Nat × (Nat → Int32)) (a0 : Int32) (b0 : Int32) (c0 : Int32) (σ : Sg) (Q : Int32 → Sg → Prop) (h : w_X12_drawn a0 b0 c0 σ Q) : Ct mX12_drawn 5 false (0, 0) sx G0 [.ref 60, .int a0, .int b0, .int c0] σ (qI Q) := by
  refine Ct.of (L := [some (.ref 60), some (.int a0), some (.int b0), some (.int c0), none, none, none, none, none]) (by decide) (Nat.le_of_ble_eq_true rfl) rfl ?_
  unfold w_X12_drawn at h
  refine X_iload_n dX12_drawn_0 rfl rfl ?_
  refine X_if_lt (tgt := 44) dX12_drawn_1 (by decide) h (fun h => ?_) (fun h => ?_)
  · refine X_iconst (v := -1) dX12_drawn_44 iconst_m1 ?_
    exact X_reti rfl dX12_drawn_45 h
  · refine X_iload_n dX12_drawn_4 rfl rfl ?_
    refine X_bipush (v := 100) dX12_drawn_5 bipush_100 ?_
    refine X_idiv dX12_drawn_7 (by decide) ?_
    refine X_iconst (v := 1) dX12_drawn_8 iconst_1 ?_
    refine X_bipush (v := 30) dX12_drawn_9 bipush_30 ?_
    refine X_callSi [.int (b0 / (100 : Int32)), .int (1 : Int32), .int (30 : Int32)] [] c_X12_in t_X12_in lk_X12_128 dX12_drawn_11 rfl (by decide) (Nat.le_of_ble_eq_true rfl) rfl (s_X12_in sx (b0 / (100 : Int32)) (1 : Int32) (30 : Int32)  σ _ h) (fun r2 σ1 h => ?_)
    refine X_if_eq (tgt := 44) dX12_drawn_14 (by decide) h (fun h => ?_) (fun h => ?_)
    · refine X_iconst (v := -1) dX12_drawn_44 iconst_m1 ?_
      exact X_reti rfl dX12_drawn_45 h
    · refine X_iload_n dX12_drawn_17 rfl rfl ?_
      refine X_bipush (v := 100) dX12_drawn_18 bipush_100 ?_
      refine X_irem dX12_drawn_20 (by decide) ?_
      refine X_iconst (v := 1) dX12_drawn_21 iconst_1 ?_
      refine X_bipush (v := 40) dX12_drawn_22 bipush_40 ?_
      refine X_callSi [.int (b0 - b0 / (100 : Int32) * (100 : Int32)), .int (1 : Int32), .int (40 : Int32)] [] c_X12_in t_X12_in lk_X12_128 dX12_drawn_24 rfl (by decide) (Nat.le_of_ble_eq_true rfl) rfl (s_X12_in sx (b0 - b0 / (100 : Int32) * (100 : Int32)) (1 : Int32) (40 : Int32)  σ1 _ h) (fun r4 σ3 h => ?_)
      refine X_if_eq (tgt := 44) dX12_drawn_27 (by decide) h (fun h => ?_) (fun h => ?_)
      · refine X_iconst (v := -1) dX12_drawn_44 iconst_m1 ?_
        exact X_reti rfl dX12_drawn_45 h
      · refine X_iload_n dX12_drawn_30 rfl rfl ?_
        refine X_iconst (v := -1) dX12_drawn_31 iconst_m1 ?_
        refine X_aload_n dX12_drawn_32 rfl rfl ?_
        refine X_get (v := .int (σ3.1 60 6)) ck_X12 f_X12_132 g_60 rfl (fun _ => rfl) dX12_drawn_33 ?_
        refine X_iconst (v := 1) dX12_drawn_36 iconst_1 ?_
        refine X_isub dX12_drawn_37 ?_
        refine X_callSi [.int c0, .int (-1 : Int32), .int ((σ3.1 60 6) - (1 : Int32))] [] c_X12_in t_X12_in lk_X12_128 dX12_drawn_38 rfl (by decide) (Nat.le_of_ble_eq_true rfl) rfl (s_X12_in sx c0 (-1 : Int32) ((σ3.1 60 6) - (1 : Int32))  σ3 _ h) (fun r6 σ5 h => ?_)
        refine X_if_ne (tgt := 46) dX12_drawn_41 (by decide) h (fun h => ?_) (fun h => ?_)
        · refine X_iload_n dX12_drawn_46 rfl rfl ?_
          refine X_istore (L' := [some (.ref 60), some (.int a0), some (.int b0), some (.int c0), some (.int a0), none, none, none, none]) dX12_drawn_47 (by decide) rfl ?_
          refine X_iconst (v := 0) dX12_drawn_49 iconst_0 ?_
          refine X_istore (L' := [some (.ref 60), some (.int a0), some (.int b0), some (.int c0), some (.int a0), some (.int (0 : Int32)), none, none, none]) dX12_drawn_50 (by decide) rfl ?_
          refine X_iconst (v := 0) dX12_drawn_52 iconst_0 ?_
          refine X_istore (L' := [some (.ref 60), some (.int a0), some (.int b0), some (.int c0), some (.int a0), some (.int (0 : Int32)), some (.int (0 : Int32)), none, none]) dX12_drawn_53 (by decide) rfl ?_
          obtain ⟨n55, h⟩ := h
          have key55 : ∀ (n : Nat) (x7 : Int32) (x8 : Int32) (x9 : Int32) (σ10 : Sg) , w_X12_drawn_l55 b0 c0 Q n x7 x8 x9 σ10 → Ex mX12_drawn 5 false (0, 0) sx G0 55 [some (.ref 60), none, some (.int b0), some (.int c0), some (.int x7), some (.int x8), some (.int x9), none, none] [] σ10 (qI Q) := by
            intro n55
            induction n55 with
            | zero => intro _ _ _ _  h; exact h.elim
            | succ n55 ih55 =>
              intro x7 x8 x9 σ10  h
              unfold w_X12_drawn_l55 at h
              refine X_iload dX12_drawn_55 rfl ?_
              refine X_iload_n dX12_drawn_57 rfl rfl ?_
              refine X_bipush (v := 100) dX12_drawn_58 bipush_100 ?_
              refine X_idiv dX12_drawn_60 (by decide) ?_
              refine X_icmp_ge (tgt := 246) dX12_drawn_61 (by decide) h (fun h => ?_) (fun h => ?_)
              · refine X_iload dX12_drawn_246 rfl ?_
                exact X_reti rfl dX12_drawn_248 h
              · refine X_iconst (v := 0) dX12_drawn_64 iconst_0 ?_
                refine X_istore (L' := [some (.ref 60), none, some (.int b0), some (.int c0), some (.int x7), some (.int x8), some (.int x9), some (.int (0 : Int32)), none]) dX12_drawn_65 (by decide) rfl ?_
                refine bd_j h (fun J110 e110 h => ?_)
                have j110 : ∀ (σ11 : Sg) , J110  σ11 → Ex mX12_drawn 5 false (0, 0) sx G0 110 [some (.ref 60), none, some (.int b0), some (.int c0), some (.int x7), some (.int x8), some (.int x9), none, none] [] σ11 (qI Q) := by
                  intro  σ11  h
                  subst e110
                  replace h := h
                  refine X_iconst (v := 0) dX12_drawn_110 iconst_0 ?_
                  refine X_istore (L' := [some (.ref 60), none, some (.int b0), some (.int c0), some (.int x7), some (.int x8), some (.int x9), some (.int (0 : Int32)), none]) dX12_drawn_111 (by decide) rfl ?_
                  refine bd_j h (fun J219 e219 h => ?_)
                  have j219 : ∀ (x12 : Int32) (σ13 : Sg) , J219 x12 σ13 → Ex mX12_drawn 5 false (0, 0) sx G0 219 [some (.ref 60), none, some (.int b0), some (.int c0), some (.int x12), some (.int x8), some (.int x9), none, none] [] σ13 (qI Q) := by
                    intro x12 σ13  h
                    subst e219
                    replace h := h
                    refine X_iload dX12_drawn_219 rfl ?_
                    refine X_iload_n dX12_drawn_221 rfl rfl ?_
                    refine bd_j h (fun J237 e237 h => ?_)
                    have j237 : ∀ (x14 : Int32) (x15 : Int32) (σ16 : Sg) , J237 x14 x15 σ16 → Ex mX12_drawn 5 false (0, 0) sx G0 237 [some (.ref 60), none, some (.int b0), some (.int c0), some (.int x12), none, some (.int x9), none, none] [.int x15, .int x14] σ16 (qI Q) := by
                      intro x14 x15 σ16  h
                      subst e237
                      replace h := h
                      refine X_iadd dX12_drawn_237 ?_
                      refine X_topI h (fun x17 h => ?_)
                      refine X_istore (L' := [some (.ref 60), none, some (.int b0), some (.int c0), some (.int x12), some (.int x17), some (.int x9), none, none]) dX12_drawn_238 (by decide) rfl ?_
                      refine X_iinc (v := (x9 + 1)) (L' := [some (.ref 60), none, some (.int b0), some (.int c0), some (.int x12), some (.int x17), some (.int (x9 + 1)), none, none]) dX12_drawn_240 rfl rfl (by decide) rfl ?_
                      refine X_goto (tgt := 55) dX12_drawn_243 (by decide) ?_
                      exact ih55 _ _ _ _  h
                    refine X_if_ge (tgt := 232) dX12_drawn_222 (by decide) h (fun h => ?_) (fun h => ?_)
                    · refine X_aload_n dX12_drawn_232 rfl rfl ?_
                      refine X_iload_n dX12_drawn_233 rfl rfl ?_
                      refine X_callVi [.int c0] [.int x8] c_X12_manyNear v_X12_manyNear lk_X12_401 dX12_drawn_234 g_60 rfl rfl rfl (by decide) (Nat.le_of_ble_eq_true rfl) rfl (s_X12_manyNear sx c0  σ13 _ h) (fun r19 σ18 h => ?_)
                      refine X_drop (L' := [some (.ref 60), none, some (.int b0), some (.int c0), some (.int x12), none, some (.int x9), none, none]) ⟨rfl, ⟨rfl, ⟨rfl, ⟨rfl, ⟨rfl, trivial⟩⟩⟩⟩⟩ ?_
                      exact j237 _ _ _  h
                    · refine X_aload_n dX12_drawn_225 rfl rfl ?_
                      refine X_callVi [] [.int x8] c_X12_placesNear v_X12_placesNear lk_X12_405 dX12_drawn_226 g_60 rfl rfl rfl (by decide) (Nat.le_of_ble_eq_true rfl) rfl (s_X12_placesNear sx   σ13 _ h) (fun r21 σ20 h => ?_)
                      refine X_goto (tgt := 237) dX12_drawn_229 (by decide) ?_
                      refine X_drop (L' := [some (.ref 60), none, some (.int b0), some (.int c0), some (.int x12), none, some (.int x9), none, none]) ⟨rfl, ⟨rfl, ⟨rfl, ⟨rfl, ⟨rfl, trivial⟩⟩⟩⟩⟩ ?_
                      exact j237 _ _ _  h
                  obtain ⟨n113, h⟩ := h
                  have key113 : ∀ (n : Nat) (x22 : Int32) (x23 : Int32) (σ24 : Sg) , w_X12_drawn_l113 b0 J219 n x22 x23 σ24 → Ex mX12_drawn 5 false (0, 0) sx G0 113 [some (.ref 60), none, some (.int b0), some (.int c0), some (.int x22), some (.int x8), some (.int x9), some (.int x23), none] [] σ24 (qI Q) := by
                    intro n113
                    induction n113 with
                    | zero => intro _ _ _  h; exact h.elim
                    | succ n113 ih113 =>
                      intro x22 x23 σ24  h
                      unfold w_X12_drawn_l113 at h
                      refine X_iload dX12_drawn_113 rfl ?_
                      refine X_iload_n dX12_drawn_115 rfl rfl ?_
                      refine X_bipush (v := 100) dX12_drawn_116 bipush_100 ?_
                      refine X_irem dX12_drawn_118 (by decide) ?_
                      refine X_icmp_ge (tgt := 219) dX12_drawn_119 (by decide) h (fun h => ?_) (fun h => ?_)
                      · refine X_drop (L' := [some (.ref 60), none, some (.int b0), some (.int c0), some (.int x22), some (.int x8), some (.int x9), none, none]) ⟨rfl, ⟨rfl, ⟨rfl, ⟨rfl, ⟨rfl, ⟨rfl, trivial⟩⟩⟩⟩⟩⟩ ?_
                        exact j219 _ _  h
                      · refine X_iconst (v := 0) dX12_drawn_122 iconst_0 ?_
                        refine X_istore (L' := [some (.ref 60), none, some (.int b0), some (.int c0), some (.int x22), some (.int x8), some (.int x9), some (.int x23), some (.int (0 : Int32))]) dX12_drawn_123 (by decide) rfl ?_
                        refine bd_j h (fun J213 e213 h => ?_)
                        have j213 : ∀ (x25 : Int32) (σ26 : Sg) , J213 x25 σ26 → Ex mX12_drawn 5 false (0, 0) sx G0 213 [some (.ref 60), none, some (.int b0), some (.int c0), some (.int x25), some (.int x8), some (.int x9), some (.int x23), none] [] σ26 (qI Q) := by
                          intro x25 σ26  h
                          subst e213
                          replace h := h
                          refine X_iinc (v := (x23 + 1)) (L' := [some (.ref 60), none, some (.int b0), some (.int c0), some (.int x25), some (.int x8), some (.int x9), some (.int (x23 + 1)), none]) dX12_drawn_213 rfl rfl (by decide) rfl ?_
                          refine X_goto (tgt := 113) dX12_drawn_216 (by decide) ?_
                          exact ih113 _ _ _  h
                        obtain ⟨n125, h⟩ := h
                        have key125 : ∀ (n : Nat) (x27 : Int32) (x28 : Int32) (σ29 : Sg) , w_X12_drawn_l125 x23 J213 n x27 x28 σ29 → Ex mX12_drawn 5 false (0, 0) sx G0 125 [some (.ref 60), none, some (.int b0), some (.int c0), some (.int x27), some (.int x8), some (.int x9), some (.int x23), some (.int x28)] [] σ29 (qI Q) := by
                          intro n125
                          induction n125 with
                          | zero => intro _ _ _  h; exact h.elim
                          | succ n125 ih125 =>
                            intro x27 x28 σ29  h
                            unfold w_X12_drawn_l125 at h
                            refine X_iload dX12_drawn_125 rfl ?_
                            refine X_aload_n dX12_drawn_127 rfl rfl ?_
                            refine X_get (v := .int (σ29.1 60 1)) ck_X12 f_X12_125 g_60 rfl (fun _ => rfl) dX12_drawn_128 ?_
                            refine X_icmp_ge (tgt := 213) dX12_drawn_131 (by decide) h (fun h => ?_) (fun h => ?_)
                            · refine X_drop (L' := [some (.ref 60), none, some (.int b0), some (.int c0), some (.int x27), some (.int x8), some (.int x9), some (.int x23), none]) ⟨rfl, ⟨rfl, ⟨rfl, ⟨rfl, ⟨rfl, ⟨rfl, ⟨rfl, trivial⟩⟩⟩⟩⟩⟩⟩ ?_
                              exact j213 _ _  h
                            · refine X_iload dX12_drawn_134 rfl ?_
                              refine X_ldcw (v := 1103515245) dX12_drawn_136 k_X12_404 ?_
                              refine X_imul dX12_drawn_139 ?_
                              refine X_sipush (v := 12345) dX12_drawn_140 sipush_12345 ?_
                              refine X_iadd dX12_drawn_143 ?_
                              refine X_topI h (fun x30 h => ?_)
                              refine X_istore (L' := [some (.ref 60), none, some (.int b0), some (.int c0), some (.int x30), some (.int x8), some (.int x9), some (.int x23), some (.int x28)]) dX12_drawn_144 (by decide) rfl ?_
                              refine X_aload_n dX12_drawn_146 rfl rfl ?_
                              refine X_aload_n dX12_drawn_147 rfl rfl ?_
                              refine X_get (v := .ref 82) ck_X12 f_X12_77 g_60 rfl (fun _ => rfl) dX12_drawn_148 ?_
                              refine X_iload dX12_drawn_151 rfl ?_
                              refine X_iald g_82 dX12_drawn_153 h (fun h => ?_)
                              refine X_putI ck_X12 f_X12_262 rfl g_60 rfl rfl rfl dX12_drawn_154 h (fun σ31 h => ?_)
                              refine X_aload_n dX12_drawn_157 rfl rfl ?_
                              refine X_aload_n dX12_drawn_158 rfl rfl ?_
                              refine X_get (v := .ref 83) ck_X12 f_X12_80 g_60 rfl (fun _ => rfl) dX12_drawn_159 ?_
                              refine X_iload dX12_drawn_162 rfl ?_
                              refine X_iald g_83 dX12_drawn_164 h (fun h => ?_)
                              refine X_putI ck_X12 f_X12_265 rfl g_60 rfl rfl rfl dX12_drawn_165 h (fun σ32 h => ?_)
                              refine X_aload_n dX12_drawn_168 rfl rfl ?_
                              refine X_iload dX12_drawn_169 rfl ?_
                              refine X_iload dX12_drawn_171 rfl ?_
                              refine X_iload dX12_drawn_173 rfl ?_
                              refine X_bipush (v := 8) dX12_drawn_175 bipush_8 ?_
                              refine X_iushr dX12_drawn_177 ?_
                              refine X_iconst (v := 3) dX12_drawn_178 iconst_3 ?_
                              refine X_irem dX12_drawn_179 (by decide) ?_
                              refine X_iconst (v := 1) dX12_drawn_180 iconst_1 ?_
                              refine X_isub dX12_drawn_181 ?_
                              refine X_callVv [.int x28, .int x23, .int ((((x30.toUInt32 >>> (Int32.toUInt32 (8 : Int32) &&& Int32.toUInt32 31)).toInt32) - ((x30.toUInt32 >>> (Int32.toUInt32 (8 : Int32) &&& Int32.toUInt32 31)).toInt32) / (3 : Int32) * (3 : Int32)) - (1 : Int32))] [] c_X12_goHour v_X12_goHour lk_X12_287 dX12_drawn_182 g_60 rfl rfl rfl (by decide) (Nat.le_of_ble_eq_true rfl) rfl (s_X12_goHour sx x28 x23 ((((x30.toUInt32 >>> (Int32.toUInt32 (8 : Int32) &&& Int32.toUInt32 31)).toInt32) - ((x30.toUInt32 >>> (Int32.toUInt32 (8 : Int32) &&& Int32.toUInt32 31)).toInt32) / (3 : Int32) * (3 : Int32)) - (1 : Int32))  σ32 _ h) (fun  σ33 h => ?_)
                              refine X_aload_n dX12_drawn_185 rfl rfl ?_
                              refine X_get (v := .ref 82) ck_X12 f_X12_77 g_60 rfl (fun _ => rfl) dX12_drawn_186 ?_
                              refine X_iload dX12_drawn_189 rfl ?_
                              refine X_aload_n dX12_drawn_191 rfl rfl ?_
                              refine X_get (v := .int (σ33.1 60 30)) ck_X12 f_X12_262 g_60 rfl (fun _ => rfl) dX12_drawn_192 ?_
                              refine X_iast g_82 dX12_drawn_195 h (fun σ34 h => ?_)
                              refine X_aload_n dX12_drawn_196 rfl rfl ?_
                              refine X_get (v := .ref 83) ck_X12 f_X12_80 g_60 rfl (fun _ => rfl) dX12_drawn_197 ?_
                              refine X_iload dX12_drawn_200 rfl ?_
                              refine X_aload_n dX12_drawn_202 rfl rfl ?_
                              refine X_get (v := .int (σ34.1 60 31)) ck_X12 f_X12_265 g_60 rfl (fun _ => rfl) dX12_drawn_203 ?_
                              refine X_iast g_83 dX12_drawn_206 h (fun σ35 h => ?_)
                              refine X_iinc (v := (x28 + 1)) (L' := [some (.ref 60), none, some (.int b0), some (.int c0), some (.int x30), some (.int x8), some (.int x9), some (.int x23), some (.int (x28 + 1))]) dX12_drawn_207 rfl rfl (by decide) rfl ?_
                              refine X_goto (tgt := 125) dX12_drawn_210 (by decide) ?_
                              exact ih125 _ _ _  h
                        exact key125 _ _ _ _  h
                  exact key113 _ _ _ _  h
                obtain ⟨n67, h⟩ := h
                have key67 : ∀ (n : Nat) (x36 : Int32) (σ37 : Sg) , w_X12_drawn_l67 J110 n x36 σ37 → Ex mX12_drawn 5 false (0, 0) sx G0 67 [some (.ref 60), none, some (.int b0), some (.int c0), some (.int x7), some (.int x8), some (.int x9), some (.int x36), none] [] σ37 (qI Q) := by
                  intro n67
                  induction n67 with
                  | zero => intro _ _  h; exact h.elim
                  | succ n67 ih67 =>
                    intro x36 σ37  h
                    unfold w_X12_drawn_l67 at h
                    refine X_iload dX12_drawn_67 rfl ?_
                    refine X_aload_n dX12_drawn_69 rfl rfl ?_
                    refine X_get (v := .int (σ37.1 60 1)) ck_X12 f_X12_125 g_60 rfl (fun _ => rfl) dX12_drawn_70 ?_
                    refine X_icmp_ge (tgt := 110) dX12_drawn_73 (by decide) h (fun h => ?_) (fun h => ?_)
                    · refine X_drop (L' := [some (.ref 60), none, some (.int b0), some (.int c0), some (.int x7), some (.int x8), some (.int x9), none, none]) ⟨rfl, ⟨rfl, ⟨rfl, ⟨rfl, ⟨rfl, ⟨rfl, trivial⟩⟩⟩⟩⟩⟩ ?_
                      exact j110 _  h
                    · refine X_aload_n dX12_drawn_76 rfl rfl ?_
                      refine X_get (v := .ref 82) ck_X12 f_X12_77 g_60 rfl (fun _ => rfl) dX12_drawn_77 ?_
                      refine X_iload dX12_drawn_80 rfl ?_
                      refine X_aload_n dX12_drawn_82 rfl rfl ?_
                      refine X_get (v := .ref 61) ck_X12 f_X12_9 g_60 rfl (fun _ => rfl) dX12_drawn_83 ?_
                      refine X_iload dX12_drawn_86 rfl ?_
                      refine X_iald g_61 dX12_drawn_88 h (fun h => ?_)
                      refine X_iast g_82 dX12_drawn_89 h (fun σ38 h => ?_)
                      refine X_aload_n dX12_drawn_90 rfl rfl ?_
                      refine X_get (v := .ref 83) ck_X12 f_X12_80 g_60 rfl (fun _ => rfl) dX12_drawn_91 ?_
                      refine X_iload dX12_drawn_94 rfl ?_
                      refine X_aload_n dX12_drawn_96 rfl rfl ?_
                      refine X_get (v := .ref 62) ck_X12 f_X12_15 g_60 rfl (fun _ => rfl) dX12_drawn_97 ?_
                      refine X_iload dX12_drawn_100 rfl ?_
                      refine X_iald g_62 dX12_drawn_102 h (fun h => ?_)
                      refine X_iast g_83 dX12_drawn_103 h (fun σ39 h => ?_)
                      refine X_iinc (v := (x36 + 1)) (L' := [some (.ref 60), none, some (.int b0), some (.int c0), some (.int x7), some (.int x8), some (.int x9), some (.int (x36 + 1)), none]) dX12_drawn_104 rfl rfl (by decide) rfl ?_
                      refine X_goto (tgt := 67) dX12_drawn_107 (by decide) ?_
                      exact ih67 _ _  h
                exact key67 _ _ _  h
          refine X_drop (L' := [some (.ref 60), none, some (.int b0), some (.int c0), some (.int a0), some (.int (0 : Int32)), some (.int (0 : Int32)), none, none]) ⟨rfl, ⟨rfl, ⟨rfl, ⟨rfl, ⟨rfl, ⟨rfl, trivial⟩⟩⟩⟩⟩⟩ ?_
          exact key55 _ _ _ _ _  h
        · refine X_iconst (v := -1) dX12_drawn_44 iconst_m1 ?_
          exact X_reti rfl dX12_drawn_45 h
def w_X12_hour_l78 (J119 : Sg → Prop) : Nat → Int32 → Sg → Prop
  | 0, _, _ => False
  | n78 + 1, x18, σ19 => if (σ19.1 60 6) ≤ x18 then (J119 σ19) else (vp_in x18 8 ∧ w_X12_nearTo (σ19.1 60 30) (σ19.1 65 (Int32.toNatClampNeg x18)) σ19 (fun r21 σ20 => bd (fun (σ22 : Sg) => w_X12_hour_l78 J119 n78 (x18 + 1) σ22) fun J113 => if r21 = 0 then (J113 σ20) else (bd (sI σ20 84 (Int32.toNatClampNeg (4 : Int32)) ((σ20.1 84 (Int32.toNatClampNeg (4 : Int32))) + (1 : Int32))) fun σ23 => J113 σ23)))
def w_X12_hour_l2 (J125 : Sg → Prop) : Nat → Int32 → Sg → Prop
  | 0, _, _ => False
  | n2 + 1, x6, σ7 => if (σ7.1 60 1) ≤ x6 then (J125 σ7) else (w_X12_layNow x6 σ7 (fun  σ8 => bd (sI σ8 60 32 (0 : Int32)) fun σ9 => w_X12_goHour x6 (0 : Int32) (0 : Int32) σ9 (fun  σ10 => vp_in x6 6 ∧ bd (sI σ10 61 (Int32.toNatClampNeg x6) (σ10.1 60 30)) fun σ11 => vp_in x6 6 ∧ bd (sI σ11 62 (Int32.toNatClampNeg x6) (σ11.1 60 31)) fun σ12 => vp_in x6 6 ∧ w_X12_shoeAt (σ12.1 64 (Int32.toNatClampNeg x6)) (1 : Int32) σ12 (fun r14 σ13 => vp_in x6 6 ∧ bd (sI σ13 64 (Int32.toNatClampNeg x6) r14) fun σ15 => bd (sI σ15 84 (Int32.toNatClampNeg (1 : Int32)) ((σ15.1 84 (Int32.toNatClampNeg (1 : Int32))) + (σ15.1 60 32))) fun σ16 => bd (fun (σ17 : Sg) => w_X12_hour_l2 J125 n2 (x6 + 1) σ17) fun J119 => ∃ n, w_X12_hour_l78 J119 n (0 : Int32) σ16))))
def w_X12_hour (σ : Sg) (Q : Int32 → Sg → Prop) : Prop := bd (fun (σ1 : Sg) => w_X12_hourAt (1 : Int32) σ1 (fun r3 σ2 => bd (sI σ2 67 (Int32.toNatClampNeg (2 : Int32)) r3) fun σ4 => bd (sI σ4 84 (Int32.toNatClampNeg (0 : Int32)) ((σ4.1 84 (Int32.toNatClampNeg (0 : Int32))) + (1 : Int32))) fun σ5 => Q (σ5.1 67 (Int32.toNatClampNeg (2 : Int32))) σ5)) fun J125 => ∃ n, w_X12_hour_l2 J125 n (0 : Int32) σ
set_option maxRecDepth 100000 in
set_option maxHeartbeats 4000000 in
theorem s_X12_hour (sx : Nat × (Nat → Int32)) (σ : Sg) (Q : Int32 → Sg → Prop) (h : w_X12_hour σ Q) : Ct mX12_hour 5 false (0, 0) sx G0 [.ref 60] σ (qI Q) := by
  refine Ct.of (L := [some (.ref 60), none, none]) (by decide) (Nat.le_of_ble_eq_true rfl) rfl ?_
  unfold w_X12_hour at h
  refine X_iconst (v := 0) dX12_hour_0 iconst_0 ?_
  refine X_istore_n (L' := [some (.ref 60), some (.int (0 : Int32)), none]) dX12_hour_1 rfl (by decide) rfl ?_
  refine bd_j h (fun J125 e125 h => ?_)
  have j125 : ∀ (σ1 : Sg) , J125  σ1 → Ex mX12_hour 5 false (0, 0) sx G0 125 [some (.ref 60), none, none] [] σ1 (qI Q) := by
    intro  σ1  h
    subst e125
    replace h := h
    refine X_aload_n dX12_hour_125 rfl rfl ?_
    refine X_get (v := .ref 67) ck_X12 f_X12_30 g_60 rfl (fun _ => rfl) dX12_hour_126 ?_
    refine X_iconst (v := 2) dX12_hour_129 iconst_2 ?_
    refine X_aload_n dX12_hour_130 rfl rfl ?_
    refine X_iconst (v := 1) dX12_hour_131 iconst_1 ?_
    refine X_callVi [.int (1 : Int32)] [.int (2 : Int32), .ref 67] c_X12_hourAt v_X12_hourAt lk_X12_277 dX12_hour_132 g_60 rfl rfl rfl (by decide) (Nat.le_of_ble_eq_true rfl) rfl (s_X12_hourAt sx (1 : Int32)  σ1 _ h) (fun r3 σ2 h => ?_)
    refine X_iast g_67 dX12_hour_135 ⟨(by unfold vp_in; decide), h⟩ (fun σ4 h => ?_)
    refine X_aload_n dX12_hour_136 rfl rfl ?_
    refine X_get (v := .ref 84) ck_X12 f_X12_83 g_60 rfl (fun _ => rfl) dX12_hour_137 ?_
    refine X_iconst (v := 0) dX12_hour_140 iconst_0 ?_
    refine X_dup2 dX12_hour_141 rfl rfl ?_
    refine X_iald g_84 dX12_hour_142 ⟨(by unfold vp_in; decide), h⟩ (fun h => ?_)
    refine X_iconst (v := 1) dX12_hour_143 iconst_1 ?_
    refine X_iadd dX12_hour_144 ?_
    refine X_iast g_84 dX12_hour_145 ⟨(by unfold vp_in; decide), h⟩ (fun σ5 h => ?_)
    refine X_aload_n dX12_hour_146 rfl rfl ?_
    refine X_get (v := .ref 67) ck_X12 f_X12_30 g_60 rfl (fun _ => rfl) dX12_hour_147 ?_
    refine X_iconst (v := 2) dX12_hour_150 iconst_2 ?_
    refine X_iald g_67 dX12_hour_151 ⟨(by unfold vp_in; decide), h⟩ (fun h => ?_)
    exact X_reti rfl dX12_hour_152 h
  obtain ⟨n2, h⟩ := h
  have key2 : ∀ (n : Nat) (x6 : Int32) (σ7 : Sg) , w_X12_hour_l2 J125 n x6 σ7 → Ex mX12_hour 5 false (0, 0) sx G0 2 [some (.ref 60), some (.int x6), none] [] σ7 (qI Q) := by
    intro n2
    induction n2 with
    | zero => intro _ _  h; exact h.elim
    | succ n2 ih2 =>
      intro x6 σ7  h
      unfold w_X12_hour_l2 at h
      refine X_iload_n dX12_hour_2 rfl rfl ?_
      refine X_aload_n dX12_hour_3 rfl rfl ?_
      refine X_get (v := .int (σ7.1 60 1)) ck_X12 f_X12_125 g_60 rfl (fun _ => rfl) dX12_hour_4 ?_
      refine X_icmp_ge (tgt := 125) dX12_hour_7 (by decide) h (fun h => ?_) (fun h => ?_)
      · refine X_drop (L' := [some (.ref 60), none, none]) ⟨rfl, trivial⟩ ?_
        exact j125 _  h
      · refine X_aload_n dX12_hour_10 rfl rfl ?_
        refine X_iload_n dX12_hour_11 rfl rfl ?_
        refine X_callVv [.int x6] [] c_X12_layNow v_X12_layNow lk_X12_283 dX12_hour_12 g_60 rfl rfl rfl (by decide) (Nat.le_of_ble_eq_true rfl) rfl (s_X12_layNow sx x6  σ7 _ h) (fun  σ8 h => ?_)
        refine X_aload_n dX12_hour_15 rfl rfl ?_
        refine X_iconst (v := 0) dX12_hour_16 iconst_0 ?_
        refine X_putI ck_X12 f_X12_271 rfl g_60 rfl rfl rfl dX12_hour_17 h (fun σ9 h => ?_)
        refine X_aload_n dX12_hour_20 rfl rfl ?_
        refine X_iload_n dX12_hour_21 rfl rfl ?_
        refine X_iconst (v := 0) dX12_hour_22 iconst_0 ?_
        refine X_iconst (v := 0) dX12_hour_23 iconst_0 ?_
        refine X_callVv [.int x6, .int (0 : Int32), .int (0 : Int32)] [] c_X12_goHour v_X12_goHour lk_X12_287 dX12_hour_24 g_60 rfl rfl rfl (by decide) (Nat.le_of_ble_eq_true rfl) rfl (s_X12_goHour sx x6 (0 : Int32) (0 : Int32)  σ9 _ h) (fun  σ10 h => ?_)
        refine X_aload_n dX12_hour_27 rfl rfl ?_
        refine X_get (v := .ref 61) ck_X12 f_X12_9 g_60 rfl (fun _ => rfl) dX12_hour_28 ?_
        refine X_iload_n dX12_hour_31 rfl rfl ?_
        refine X_aload_n dX12_hour_32 rfl rfl ?_
        refine X_get (v := .int (σ10.1 60 30)) ck_X12 f_X12_262 g_60 rfl (fun _ => rfl) dX12_hour_33 ?_
        refine X_iast g_61 dX12_hour_36 h (fun σ11 h => ?_)
        refine X_aload_n dX12_hour_37 rfl rfl ?_
        refine X_get (v := .ref 62) ck_X12 f_X12_15 g_60 rfl (fun _ => rfl) dX12_hour_38 ?_
        refine X_iload_n dX12_hour_41 rfl rfl ?_
        refine X_aload_n dX12_hour_42 rfl rfl ?_
        refine X_get (v := .int (σ11.1 60 31)) ck_X12 f_X12_265 g_60 rfl (fun _ => rfl) dX12_hour_43 ?_
        refine X_iast g_62 dX12_hour_46 h (fun σ12 h => ?_)
        refine X_aload_n dX12_hour_47 rfl rfl ?_
        refine X_get (v := .ref 64) ck_X12 f_X12_21 g_60 rfl (fun _ => rfl) dX12_hour_48 ?_
        refine X_iload_n dX12_hour_51 rfl rfl ?_
        refine X_aload_n dX12_hour_52 rfl rfl ?_
        refine X_get (v := .ref 64) ck_X12 f_X12_21 g_60 rfl (fun _ => rfl) dX12_hour_53 ?_
        refine X_iload_n dX12_hour_56 rfl rfl ?_
        refine X_iald g_64 dX12_hour_57 h (fun h => ?_)
        refine X_iconst (v := 1) dX12_hour_58 iconst_1 ?_
        refine X_callSi [.int (σ12.1 64 (Int32.toNatClampNeg x6)), .int (1 : Int32)] [.int x6, .ref 64] c_X12_shoeAt t_X12_shoeAt lk_X12_274 dX12_hour_59 rfl (by decide) (Nat.le_of_ble_eq_true rfl) rfl (s_X12_shoeAt sx (σ12.1 64 (Int32.toNatClampNeg x6)) (1 : Int32)  σ12 _ h) (fun r14 σ13 h => ?_)
        refine X_iast g_64 dX12_hour_62 h (fun σ15 h => ?_)
        refine X_aload_n dX12_hour_63 rfl rfl ?_
        refine X_get (v := .ref 84) ck_X12 f_X12_83 g_60 rfl (fun _ => rfl) dX12_hour_64 ?_
        refine X_iconst (v := 1) dX12_hour_67 iconst_1 ?_
        refine X_dup2 dX12_hour_68 rfl rfl ?_
        refine X_iald g_84 dX12_hour_69 ⟨(by unfold vp_in; decide), h⟩ (fun h => ?_)
        refine X_aload_n dX12_hour_70 rfl rfl ?_
        refine X_get (v := .int (σ15.1 60 32)) ck_X12 f_X12_271 g_60 rfl (fun _ => rfl) dX12_hour_71 ?_
        refine X_iadd dX12_hour_74 ?_
        refine X_iast g_84 dX12_hour_75 ⟨(by unfold vp_in; decide), h⟩ (fun σ16 h => ?_)
        refine X_iconst (v := 0) dX12_hour_76 iconst_0 ?_
        refine X_istore_n (L' := [some (.ref 60), some (.int x6), some (.int (0 : Int32))]) dX12_hour_77 rfl (by decide) rfl ?_
        refine bd_j h (fun J119 e119 h => ?_)
        have j119 : ∀ (σ17 : Sg) , J119  σ17 → Ex mX12_hour 5 false (0, 0) sx G0 119 [some (.ref 60), some (.int x6), none] [] σ17 (qI Q) := by
          intro  σ17  h
          subst e119
          replace h := h
          refine X_iinc (v := (x6 + 1)) (L' := [some (.ref 60), some (.int (x6 + 1)), none]) dX12_hour_119 rfl rfl (by decide) rfl ?_
          refine X_goto (tgt := 2) dX12_hour_122 (by decide) ?_
          exact ih2 _ _  h
        obtain ⟨n78, h⟩ := h
        have key78 : ∀ (n : Nat) (x18 : Int32) (σ19 : Sg) , w_X12_hour_l78 J119 n x18 σ19 → Ex mX12_hour 5 false (0, 0) sx G0 78 [some (.ref 60), some (.int x6), some (.int x18)] [] σ19 (qI Q) := by
          intro n78
          induction n78 with
          | zero => intro _ _  h; exact h.elim
          | succ n78 ih78 =>
            intro x18 σ19  h
            unfold w_X12_hour_l78 at h
            refine X_iload_n dX12_hour_78 rfl rfl ?_
            refine X_aload_n dX12_hour_79 rfl rfl ?_
            refine X_get (v := .int (σ19.1 60 6)) ck_X12 f_X12_132 g_60 rfl (fun _ => rfl) dX12_hour_80 ?_
            refine X_icmp_ge (tgt := 119) dX12_hour_83 (by decide) h (fun h => ?_) (fun h => ?_)
            · refine X_drop (L' := [some (.ref 60), some (.int x6), none]) ⟨rfl, ⟨rfl, trivial⟩⟩ ?_
              exact j119 _  h
            · refine X_aload_n dX12_hour_86 rfl rfl ?_
              refine X_aload_n dX12_hour_87 rfl rfl ?_
              refine X_get (v := .int (σ19.1 60 30)) ck_X12 f_X12_262 g_60 rfl (fun _ => rfl) dX12_hour_88 ?_
              refine X_aload_n dX12_hour_91 rfl rfl ?_
              refine X_get (v := .ref 65) ck_X12 f_X12_24 g_60 rfl (fun _ => rfl) dX12_hour_92 ?_
              refine X_iload_n dX12_hour_95 rfl rfl ?_
              refine X_iald g_65 dX12_hour_96 h (fun h => ?_)
              refine X_callVi [.int (σ19.1 60 30), .int (σ19.1 65 (Int32.toNatClampNeg x18))] [] c_X12_nearTo v_X12_nearTo lk_X12_305 dX12_hour_97 g_60 rfl rfl rfl (by decide) (Nat.le_of_ble_eq_true rfl) rfl (s_X12_nearTo sx (σ19.1 60 30) (σ19.1 65 (Int32.toNatClampNeg x18))  σ19 _ h) (fun r21 σ20 h => ?_)
              refine bd_j h (fun J113 e113 h => ?_)
              have j113 : ∀ (σ22 : Sg) , J113  σ22 → Ex mX12_hour 5 false (0, 0) sx G0 113 [some (.ref 60), some (.int x6), some (.int x18)] [] σ22 (qI Q) := by
                intro  σ22  h
                subst e113
                replace h := h
                refine X_iinc (v := (x18 + 1)) (L' := [some (.ref 60), some (.int x6), some (.int (x18 + 1))]) dX12_hour_113 rfl rfl (by decide) rfl ?_
                refine X_goto (tgt := 78) dX12_hour_116 (by decide) ?_
                exact ih78 _ _  h
              refine X_if_eq (tgt := 113) dX12_hour_100 (by decide) h (fun h => ?_) (fun h => ?_)
              · exact j113 _  h
              · refine X_aload_n dX12_hour_103 rfl rfl ?_
                refine X_get (v := .ref 84) ck_X12 f_X12_83 g_60 rfl (fun _ => rfl) dX12_hour_104 ?_
                refine X_iconst (v := 4) dX12_hour_107 iconst_4 ?_
                refine X_dup2 dX12_hour_108 rfl rfl ?_
                refine X_iald g_84 dX12_hour_109 ⟨(by unfold vp_in; decide), h⟩ (fun h => ?_)
                refine X_iconst (v := 1) dX12_hour_110 iconst_1 ?_
                refine X_iadd dX12_hour_111 ?_
                refine X_iast g_84 dX12_hour_112 ⟨(by unfold vp_in; decide), h⟩ (fun σ23 h => ?_)
                exact j113 _  h
        exact key78 _ _ _  h
  exact key2 _ _ _  h
def w_X12_rein (a0 : Int32) (b0 : Int32) (σ : Sg) (Q : Int32 → Sg → Prop) : Prop := w_X12_isCarriage a0 σ (fun r2 σ1 => if r2 = 0 then (Q (-1 : Int32) σ1) else (w_X12_in b0 (0 : Int32) (1 : Int32) σ1 (fun r4 σ3 => if r4 = 0 then (Q (-1 : Int32) σ3) else (vp_in a0 6 ∧ bd (fun (x5 : Int32) (x6 : Int32) (x7 : Int32) (σ8 : Sg) => vp_in x5 6 ∧ bd (sI σ8 62 (Int32.toNatClampNeg x5) ((x6 + x7) - (x6 + x7) / (8 : Int32) * (8 : Int32))) fun σ9 => bd (sI σ9 84 (Int32.toNatClampNeg (2 : Int32)) ((σ9.1 84 (Int32.toNatClampNeg (2 : Int32))) + (1 : Int32))) fun σ10 => vp_in a0 6 ∧ Q (σ10.1 62 (Int32.toNatClampNeg a0)) σ10) fun J40 => if b0 = 0 then (J40 a0 (σ3.1 62 (Int32.toNatClampNeg a0)) (7 : Int32) σ3) else (J40 a0 (σ3.1 62 (Int32.toNatClampNeg a0)) (1 : Int32) σ3)))))
set_option maxRecDepth 100000 in
set_option maxHeartbeats 4000000 in
theorem s_X12_rein (sx : Nat × (Nat → Int32)) (a0 : Int32) (b0 : Int32) (σ : Sg) (Q : Int32 → Sg → Prop) (h : w_X12_rein a0 b0 σ Q) : Ct mX12_rein 2 false (0, 0) sx G0 [.ref 60, .int a0, .int b0] σ (qI Q) := by
  refine Ct.of (L := [some (.ref 60), some (.int a0), some (.int b0)]) (by decide) (Nat.le_of_ble_eq_true rfl) rfl ?_
  unfold w_X12_rein at h
  refine X_aload_n dX12_rein_0 rfl rfl ?_
  refine X_iload_n dX12_rein_1 rfl rfl ?_
  refine X_callVi [.int a0] [] c_X12_isCarriage v_X12_isCarriage lk_X12_135 dX12_rein_2 g_60 rfl rfl rfl (by decide) (Nat.le_of_ble_eq_true rfl) rfl (s_X12_isCarriage sx a0  σ _ h) (fun r2 σ1 h => ?_)
  refine X_if_eq (tgt := 17) dX12_rein_5 (by decide) h (fun h => ?_) (fun h => ?_)
  · refine X_iconst (v := -1) dX12_rein_17 iconst_m1 ?_
    exact X_reti rfl dX12_rein_18 h
  · refine X_iload_n dX12_rein_8 rfl rfl ?_
    refine X_iconst (v := 0) dX12_rein_9 iconst_0 ?_
    refine X_iconst (v := 1) dX12_rein_10 iconst_1 ?_
    refine X_callSi [.int b0, .int (0 : Int32), .int (1 : Int32)] [] c_X12_in t_X12_in lk_X12_128 dX12_rein_11 rfl (by decide) (Nat.le_of_ble_eq_true rfl) rfl (s_X12_in sx b0 (0 : Int32) (1 : Int32)  σ1 _ h) (fun r4 σ3 h => ?_)
    refine X_if_ne (tgt := 19) dX12_rein_14 (by decide) h (fun h => ?_) (fun h => ?_)
    · refine X_aload_n dX12_rein_19 rfl rfl ?_
      refine X_get (v := .ref 62) ck_X12 f_X12_15 g_60 rfl (fun _ => rfl) dX12_rein_20 ?_
      refine X_iload_n dX12_rein_23 rfl rfl ?_
      refine X_aload_n dX12_rein_24 rfl rfl ?_
      refine X_get (v := .ref 62) ck_X12 f_X12_15 g_60 rfl (fun _ => rfl) dX12_rein_25 ?_
      refine X_iload_n dX12_rein_28 rfl rfl ?_
      refine X_iald g_62 dX12_rein_29 h (fun h => ?_)
      refine X_iload_n dX12_rein_30 rfl rfl ?_
      refine bd_j h (fun J40 e40 h => ?_)
      have j40 : ∀ (x5 : Int32) (x6 : Int32) (x7 : Int32) (σ8 : Sg) , J40 x5 x6 x7 σ8 → Ex mX12_rein 2 false (0, 0) sx G0 40 [some (.ref 60), some (.int a0), none] [.int x7, .int x6, .int x5, .ref 62] σ8 (qI Q) := by
        intro x5 x6 x7 σ8  h
        subst e40
        replace h := h
        refine X_iadd dX12_rein_40 ?_
        refine X_bipush (v := 8) dX12_rein_41 bipush_8 ?_
        refine X_irem dX12_rein_43 (by decide) ?_
        refine X_iast g_62 dX12_rein_44 h (fun σ9 h => ?_)
        refine X_aload_n dX12_rein_45 rfl rfl ?_
        refine X_get (v := .ref 84) ck_X12 f_X12_83 g_60 rfl (fun _ => rfl) dX12_rein_46 ?_
        refine X_iconst (v := 2) dX12_rein_49 iconst_2 ?_
        refine X_dup2 dX12_rein_50 rfl rfl ?_
        refine X_iald g_84 dX12_rein_51 ⟨(by unfold vp_in; decide), h⟩ (fun h => ?_)
        refine X_iconst (v := 1) dX12_rein_52 iconst_1 ?_
        refine X_iadd dX12_rein_53 ?_
        refine X_iast g_84 dX12_rein_54 ⟨(by unfold vp_in; decide), h⟩ (fun σ10 h => ?_)
        refine X_aload_n dX12_rein_55 rfl rfl ?_
        refine X_get (v := .ref 62) ck_X12 f_X12_15 g_60 rfl (fun _ => rfl) dX12_rein_56 ?_
        refine X_iload_n dX12_rein_59 rfl rfl ?_
        refine X_iald g_62 dX12_rein_60 h (fun h => ?_)
        exact X_reti rfl dX12_rein_61 h
      refine X_if_ne (tgt := 39) dX12_rein_31 (by decide) h (fun h => ?_) (fun h => ?_)
      · refine X_iconst (v := 1) dX12_rein_39 iconst_1 ?_
        refine X_drop (L' := [some (.ref 60), some (.int a0), none]) ⟨rfl, ⟨rfl, trivial⟩⟩ ?_
        exact j40 _ _ _ _  h
      · refine X_bipush (v := 7) dX12_rein_34 bipush_7 ?_
        refine X_goto (tgt := 40) dX12_rein_36 (by decide) ?_
        refine X_drop (L' := [some (.ref 60), some (.int a0), none]) ⟨rfl, ⟨rfl, trivial⟩⟩ ?_
        exact j40 _ _ _ _  h
    · refine X_iconst (v := -1) dX12_rein_17 iconst_m1 ?_
      exact X_reti rfl dX12_rein_18 h
def w_X12_shoe (a0 : Int32) (σ : Sg) (Q : Int32 → Sg → Prop) : Prop := w_X12_isCarriage a0 σ (fun r2 σ1 => if r2 = 0 then (Q (-1 : Int32) σ1) else (vp_in a0 6 ∧ bd (σ1.1 64 (Int32.toNatClampNeg a0)) fun x3 => vp_in a0 6 ∧ bd (sI σ1 64 (Int32.toNatClampNeg a0) (9 : Int32)) fun σ4 => bd (sI σ4 84 (Int32.toNatClampNeg (3 : Int32)) ((σ4.1 84 (Int32.toNatClampNeg (3 : Int32))) + (1 : Int32))) fun σ5 => Q x3 σ5))
set_option maxRecDepth 100000 in
set_option maxHeartbeats 4000000 in
theorem s_X12_shoe (sx : Nat × (Nat → Int32)) (a0 : Int32) (σ : Sg) (Q : Int32 → Sg → Prop) (h : w_X12_shoe a0 σ Q) : Ct mX12_shoe 2 false (0, 0) sx G0 [.ref 60, .int a0] σ (qI Q) := by
  refine Ct.of (L := [some (.ref 60), some (.int a0), none]) (by decide) (Nat.le_of_ble_eq_true rfl) rfl ?_
  unfold w_X12_shoe at h
  refine X_aload_n dX12_shoe_0 rfl rfl ?_
  refine X_iload_n dX12_shoe_1 rfl rfl ?_
  refine X_callVi [.int a0] [] c_X12_isCarriage v_X12_isCarriage lk_X12_135 dX12_shoe_2 g_60 rfl rfl rfl (by decide) (Nat.le_of_ble_eq_true rfl) rfl (s_X12_isCarriage sx a0  σ _ h) (fun r2 σ1 h => ?_)
  refine X_if_ne (tgt := 10) dX12_shoe_5 (by decide) h (fun h => ?_) (fun h => ?_)
  · refine X_aload_n dX12_shoe_10 rfl rfl ?_
    refine X_get (v := .ref 64) ck_X12 f_X12_21 g_60 rfl (fun _ => rfl) dX12_shoe_11 ?_
    refine X_iload_n dX12_shoe_14 rfl rfl ?_
    refine X_iald g_64 dX12_shoe_15 h (fun h => ?_)
    refine X_topI h (fun x3 h => ?_)
    refine X_istore_n (L' := [some (.ref 60), some (.int a0), some (.int x3)]) dX12_shoe_16 rfl (by decide) rfl ?_
    refine X_aload_n dX12_shoe_17 rfl rfl ?_
    refine X_get (v := .ref 64) ck_X12 f_X12_21 g_60 rfl (fun _ => rfl) dX12_shoe_18 ?_
    refine X_iload_n dX12_shoe_21 rfl rfl ?_
    refine X_bipush (v := 9) dX12_shoe_22 bipush_9 ?_
    refine X_iast g_64 dX12_shoe_24 h (fun σ4 h => ?_)
    refine X_aload_n dX12_shoe_25 rfl rfl ?_
    refine X_get (v := .ref 84) ck_X12 f_X12_83 g_60 rfl (fun _ => rfl) dX12_shoe_26 ?_
    refine X_iconst (v := 3) dX12_shoe_29 iconst_3 ?_
    refine X_dup2 dX12_shoe_30 rfl rfl ?_
    refine X_iald g_84 dX12_shoe_31 ⟨(by unfold vp_in; decide), h⟩ (fun h => ?_)
    refine X_iconst (v := 1) dX12_shoe_32 iconst_1 ?_
    refine X_iadd dX12_shoe_33 ?_
    refine X_iast g_84 dX12_shoe_34 ⟨(by unfold vp_in; decide), h⟩ (fun σ5 h => ?_)
    refine X_iload_n dX12_shoe_35 rfl rfl ?_
    exact X_reti rfl dX12_shoe_36 h
  · refine X_iconst (v := -1) dX12_shoe_8 iconst_m1 ?_
    exact X_reti rfl dX12_shoe_9 h
def w_X12_buys (a0 : Int32) (σ : Sg) (Q : Int32 → Sg → Prop) : Prop := w_X12_isPlace a0 σ (fun r2 σ1 => if r2 = 0 then (Q (-1 : Int32) σ1) else (vp_in a0 8 ∧ bd (σ1.1 66 (Int32.toNatClampNeg a0)) fun x3 => vp_in a0 8 ∧ bd (sI σ1 66 (Int32.toNatClampNeg a0) (9 : Int32)) fun σ4 => Q x3 σ4))
set_option maxRecDepth 100000 in
set_option maxHeartbeats 4000000 in
theorem s_X12_buys (sx : Nat × (Nat → Int32)) (a0 : Int32) (σ : Sg) (Q : Int32 → Sg → Prop) (h : w_X12_buys a0 σ Q) : Ct mX12_buys 2 false (0, 0) sx G0 [.ref 60, .int a0] σ (qI Q) := by
  refine Ct.of (L := [some (.ref 60), some (.int a0), none]) (by decide) (Nat.le_of_ble_eq_true rfl) rfl ?_
  unfold w_X12_buys at h
  refine X_aload_n dX12_buys_0 rfl rfl ?_
  refine X_iload_n dX12_buys_1 rfl rfl ?_
  refine X_callVi [.int a0] [] c_X12_isPlace v_X12_isPlace lk_X12_139 dX12_buys_2 g_60 rfl rfl rfl (by decide) (Nat.le_of_ble_eq_true rfl) rfl (s_X12_isPlace sx a0  σ _ h) (fun r2 σ1 h => ?_)
  refine X_if_ne (tgt := 10) dX12_buys_5 (by decide) h (fun h => ?_) (fun h => ?_)
  · refine X_aload_n dX12_buys_10 rfl rfl ?_
    refine X_get (v := .ref 66) ck_X12 f_X12_27 g_60 rfl (fun _ => rfl) dX12_buys_11 ?_
    refine X_iload_n dX12_buys_14 rfl rfl ?_
    refine X_iald g_66 dX12_buys_15 h (fun h => ?_)
    refine X_topI h (fun x3 h => ?_)
    refine X_istore_n (L' := [some (.ref 60), some (.int a0), some (.int x3)]) dX12_buys_16 rfl (by decide) rfl ?_
    refine X_aload_n dX12_buys_17 rfl rfl ?_
    refine X_get (v := .ref 66) ck_X12 f_X12_27 g_60 rfl (fun _ => rfl) dX12_buys_18 ?_
    refine X_iload_n dX12_buys_21 rfl rfl ?_
    refine X_bipush (v := 9) dX12_buys_22 bipush_9 ?_
    refine X_iast g_66 dX12_buys_24 h (fun σ4 h => ?_)
    refine X_iload_n dX12_buys_25 rfl rfl ?_
    exact X_reti rfl dX12_buys_26 h
  · refine X_iconst (v := -1) dX12_buys_8 iconst_m1 ?_
    exact X_reti rfl dX12_buys_9 h
def w_X12_led (a0 : Int32) (σ : Sg) (Q : Int32 → Sg → Prop) : Prop := w_X12_in a0 (0 : Int32) (4 : Int32) σ (fun r2 σ1 => if r2 = 0 then (Q (-1 : Int32) σ1) else (vp_in a0 5 ∧ Q (σ1.1 84 (Int32.toNatClampNeg a0)) σ1))
set_option maxRecDepth 100000 in
set_option maxHeartbeats 4000000 in
theorem s_X12_led (sx : Nat × (Nat → Int32)) (a0 : Int32) (σ : Sg) (Q : Int32 → Sg → Prop) (h : w_X12_led a0 σ Q) : Ct mX12_led 1 false (0, 0) sx G0 [.ref 60, .int a0] σ (qI Q) := by
  refine Ct.of (L := [some (.ref 60), some (.int a0)]) (by decide) (Nat.le_of_ble_eq_true rfl) rfl ?_
  unfold w_X12_led at h
  refine X_iload_n dX12_led_0 rfl rfl ?_
  refine X_iconst (v := 0) dX12_led_1 iconst_0 ?_
  refine X_iconst (v := 4) dX12_led_2 iconst_4 ?_
  refine X_callSi [.int a0, .int (0 : Int32), .int (4 : Int32)] [] c_X12_in t_X12_in lk_X12_128 dX12_led_3 rfl (by decide) (Nat.le_of_ble_eq_true rfl) rfl (s_X12_in sx a0 (0 : Int32) (4 : Int32)  σ _ h) (fun r2 σ1 h => ?_)
  refine X_if_eq (tgt := 18) dX12_led_6 (by decide) h (fun h => ?_) (fun h => ?_)
  · refine X_iconst (v := -1) dX12_led_18 iconst_m1 ?_
    exact X_reti rfl dX12_led_19 h
  · refine X_aload_n dX12_led_9 rfl rfl ?_
    refine X_get (v := .ref 84) ck_X12 f_X12_83 g_60 rfl (fun _ => rfl) dX12_led_10 ?_
    refine X_iload_n dX12_led_13 rfl rfl ?_
    refine X_iald g_84 dX12_led_14 h (fun h => ?_)
    refine X_goto (tgt := 19) dX12_led_15 (by decide) ?_
    exact X_reti rfl dX12_led_19 h
def w_X12_image_l77 (J100 : Sg → Prop) : Nat → Int32 → Sg → Prop
  | 0, _, _ => False
  | n77 + 1, x6, σ7 => if (5 : Int32) ≤ x6 then (J100 σ7) else (vp_in x6 5 ∧ vp_in x6 5 ∧ bd (sI σ7 88 (Int32.toNatClampNeg x6) (σ7.1 84 (Int32.toNatClampNeg x6))) fun σ8 => w_X12_image_l77 J100 n77 (x6 + 1) σ8)
def w_X12_image_l25 (J75 : Sg → Prop) : Nat → Int32 → Sg → Prop
  | 0, _, _ => False
  | n25 + 1, x9, σ10 => if (σ10.1 60 1) ≤ x9 then (J75 σ10) else (vp_in x9 6 ∧ vp_in x9 6 ∧ bd (sI σ10 85 (Int32.toNatClampNeg x9) (σ10.1 61 (Int32.toNatClampNeg x9))) fun σ11 => vp_in x9 6 ∧ vp_in x9 6 ∧ bd (sI σ11 86 (Int32.toNatClampNeg x9) (σ11.1 62 (Int32.toNatClampNeg x9))) fun σ12 => vp_in x9 6 ∧ vp_in x9 6 ∧ bd (sI σ12 87 (Int32.toNatClampNeg x9) (σ12.1 64 (Int32.toNatClampNeg x9))) fun σ13 => w_X12_image_l25 J75 n25 (x9 + 1) σ13)
def w_X12_image (σ : Sg) (Q : Int32 → Sg → Prop) : Prop := bd (sI σ 60 40 (1 : Int32)) fun σ1 => bd (sI σ1 60 41 (σ1.1 60 1)) fun σ2 => bd (sI σ2 60 42 (σ2.1 67 (Int32.toNatClampNeg (2 : Int32)))) fun σ3 => bd (fun (σ4 : Sg) => bd (fun (σ5 : Sg) => Q (σ5.1 84 (Int32.toNatClampNeg (0 : Int32))) σ5) fun J100 => ∃ n, w_X12_image_l77 J100 n (0 : Int32) σ4) fun J75 => ∃ n, w_X12_image_l25 J75 n (0 : Int32) σ3
set_option maxRecDepth 100000 in
set_option maxHeartbeats 4000000 in
theorem s_X12_image (sx : Nat × (Nat → Int32)) (σ : Sg) (Q : Int32 → Sg → Prop) (h : w_X12_image σ Q) : Ct mX12_image 0 false (0, 0) sx G0 [.ref 60] σ (qI Q) := by
  refine Ct.of (L := [some (.ref 60), none]) (by decide) (Nat.le_of_ble_eq_true rfl) rfl ?_
  unfold w_X12_image at h
  refine X_aload_n dX12_image_0 rfl rfl ?_
  refine X_iconst (v := 1) dX12_image_1 iconst_1 ?_
  refine X_putI ck_X12 f_X12_408 rfl g_60 rfl rfl rfl dX12_image_2 h (fun σ1 h => ?_)
  refine X_aload_n dX12_image_5 rfl rfl ?_
  refine X_aload_n dX12_image_6 rfl rfl ?_
  refine X_get (v := .int (σ1.1 60 1)) ck_X12 f_X12_125 g_60 rfl (fun _ => rfl) dX12_image_7 ?_
  refine X_putI ck_X12 f_X12_411 rfl g_60 rfl rfl rfl dX12_image_10 h (fun σ2 h => ?_)
  refine X_aload_n dX12_image_13 rfl rfl ?_
  refine X_aload_n dX12_image_14 rfl rfl ?_
  refine X_get (v := .ref 67) ck_X12 f_X12_30 g_60 rfl (fun _ => rfl) dX12_image_15 ?_
  refine X_iconst (v := 2) dX12_image_18 iconst_2 ?_
  refine X_iald g_67 dX12_image_19 ⟨(by unfold vp_in; decide), h⟩ (fun h => ?_)
  refine X_putI ck_X12 f_X12_414 rfl g_60 rfl rfl rfl dX12_image_20 h (fun σ3 h => ?_)
  refine X_iconst (v := 0) dX12_image_23 iconst_0 ?_
  refine X_istore_n (L' := [some (.ref 60), some (.int (0 : Int32))]) dX12_image_24 rfl (by decide) rfl ?_
  refine bd_j h (fun J75 e75 h => ?_)
  have j75 : ∀ (σ4 : Sg) , J75  σ4 → Ex mX12_image 0 false (0, 0) sx G0 75 [some (.ref 60), none] [] σ4 (qI Q) := by
    intro  σ4  h
    subst e75
    replace h := h
    refine X_iconst (v := 0) dX12_image_75 iconst_0 ?_
    refine X_istore_n (L' := [some (.ref 60), some (.int (0 : Int32))]) dX12_image_76 rfl (by decide) rfl ?_
    refine bd_j h (fun J100 e100 h => ?_)
    have j100 : ∀ (σ5 : Sg) , J100  σ5 → Ex mX12_image 0 false (0, 0) sx G0 100 [some (.ref 60), none] [] σ5 (qI Q) := by
      intro  σ5  h
      subst e100
      replace h := h
      refine X_aload_n dX12_image_100 rfl rfl ?_
      refine X_get (v := .ref 84) ck_X12 f_X12_83 g_60 rfl (fun _ => rfl) dX12_image_101 ?_
      refine X_iconst (v := 0) dX12_image_104 iconst_0 ?_
      refine X_iald g_84 dX12_image_105 ⟨(by unfold vp_in; decide), h⟩ (fun h => ?_)
      exact X_reti rfl dX12_image_106 h
    obtain ⟨n77, h⟩ := h
    have key77 : ∀ (n : Nat) (x6 : Int32) (σ7 : Sg) , w_X12_image_l77 J100 n x6 σ7 → Ex mX12_image 0 false (0, 0) sx G0 77 [some (.ref 60), some (.int x6)] [] σ7 (qI Q) := by
      intro n77
      induction n77 with
      | zero => intro _ _  h; exact h.elim
      | succ n77 ih77 =>
        intro x6 σ7  h
        unfold w_X12_image_l77 at h
        refine X_iload_n dX12_image_77 rfl rfl ?_
        refine X_iconst (v := 5) dX12_image_78 iconst_5 ?_
        refine X_icmp_ge (tgt := 100) dX12_image_79 (by decide) h (fun h => ?_) (fun h => ?_)
        · refine X_drop (L' := [some (.ref 60), none]) ⟨rfl, trivial⟩ ?_
          exact j100 _  h
        · refine X_aload_n dX12_image_82 rfl rfl ?_
          refine X_get (v := .ref 88) ck_X12 f_X12_95 g_60 rfl (fun _ => rfl) dX12_image_83 ?_
          refine X_iload_n dX12_image_86 rfl rfl ?_
          refine X_aload_n dX12_image_87 rfl rfl ?_
          refine X_get (v := .ref 84) ck_X12 f_X12_83 g_60 rfl (fun _ => rfl) dX12_image_88 ?_
          refine X_iload_n dX12_image_91 rfl rfl ?_
          refine X_iald g_84 dX12_image_92 h (fun h => ?_)
          refine X_iast g_88 dX12_image_93 h (fun σ8 h => ?_)
          refine X_iinc (v := (x6 + 1)) (L' := [some (.ref 60), some (.int (x6 + 1))]) dX12_image_94 rfl rfl (by decide) rfl ?_
          refine X_goto (tgt := 77) dX12_image_97 (by decide) ?_
          exact ih77 _ _  h
    exact key77 _ _ _  h
  obtain ⟨n25, h⟩ := h
  have key25 : ∀ (n : Nat) (x9 : Int32) (σ10 : Sg) , w_X12_image_l25 J75 n x9 σ10 → Ex mX12_image 0 false (0, 0) sx G0 25 [some (.ref 60), some (.int x9)] [] σ10 (qI Q) := by
    intro n25
    induction n25 with
    | zero => intro _ _  h; exact h.elim
    | succ n25 ih25 =>
      intro x9 σ10  h
      unfold w_X12_image_l25 at h
      refine X_iload_n dX12_image_25 rfl rfl ?_
      refine X_aload_n dX12_image_26 rfl rfl ?_
      refine X_get (v := .int (σ10.1 60 1)) ck_X12 f_X12_125 g_60 rfl (fun _ => rfl) dX12_image_27 ?_
      refine X_icmp_ge (tgt := 75) dX12_image_30 (by decide) h (fun h => ?_) (fun h => ?_)
      · refine X_drop (L' := [some (.ref 60), none]) ⟨rfl, trivial⟩ ?_
        exact j75 _  h
      · refine X_aload_n dX12_image_33 rfl rfl ?_
        refine X_get (v := .ref 85) ck_X12 f_X12_86 g_60 rfl (fun _ => rfl) dX12_image_34 ?_
        refine X_iload_n dX12_image_37 rfl rfl ?_
        refine X_aload_n dX12_image_38 rfl rfl ?_
        refine X_get (v := .ref 61) ck_X12 f_X12_9 g_60 rfl (fun _ => rfl) dX12_image_39 ?_
        refine X_iload_n dX12_image_42 rfl rfl ?_
        refine X_iald g_61 dX12_image_43 h (fun h => ?_)
        refine X_iast g_85 dX12_image_44 h (fun σ11 h => ?_)
        refine X_aload_n dX12_image_45 rfl rfl ?_
        refine X_get (v := .ref 86) ck_X12 f_X12_89 g_60 rfl (fun _ => rfl) dX12_image_46 ?_
        refine X_iload_n dX12_image_49 rfl rfl ?_
        refine X_aload_n dX12_image_50 rfl rfl ?_
        refine X_get (v := .ref 62) ck_X12 f_X12_15 g_60 rfl (fun _ => rfl) dX12_image_51 ?_
        refine X_iload_n dX12_image_54 rfl rfl ?_
        refine X_iald g_62 dX12_image_55 h (fun h => ?_)
        refine X_iast g_86 dX12_image_56 h (fun σ12 h => ?_)
        refine X_aload_n dX12_image_57 rfl rfl ?_
        refine X_get (v := .ref 87) ck_X12 f_X12_92 g_60 rfl (fun _ => rfl) dX12_image_58 ?_
        refine X_iload_n dX12_image_61 rfl rfl ?_
        refine X_aload_n dX12_image_62 rfl rfl ?_
        refine X_get (v := .ref 64) ck_X12 f_X12_21 g_60 rfl (fun _ => rfl) dX12_image_63 ?_
        refine X_iload_n dX12_image_66 rfl rfl ?_
        refine X_iald g_64 dX12_image_67 h (fun h => ?_)
        refine X_iast g_87 dX12_image_68 h (fun σ13 h => ?_)
        refine X_iinc (v := (x9 + 1)) (L' := [some (.ref 60), some (.int (x9 + 1))]) dX12_image_69 rfl rfl (by decide) rfl ?_
        refine X_goto (tgt := 25) dX12_image_72 (by decide) ?_
        exact ih25 _ _  h
  exact key25 _ _ _  h
