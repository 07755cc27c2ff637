def w_X1_commonDivisor_l9 (J44 : Int64 → Sg → Prop) : Nat → Int64 → Int64 → Int32 → Sg → Prop
  | 0, _, _, _, _ => False
  | n9 + 1, x3, x4, x5, σ6 => if (100 : Int32) ≤ x5 then (J44 x3 σ6) else (if (lg_cmp x4 (0 : Int64)) = 0 then (J44 x3 σ6) else (¬ x4 = 0 ∧ bd (x3 - x3 / x4 * x4) fun x7 => w_X1_commonDivisor_l9 J44 n9 x4 x7 (x5 + 1) σ6))
def w_X1_commonDivisor (a0 : Int64) (b0 : Int64) (σ : Sg) (Q : Int64 → Sg → Prop) : Prop := bd (fun (x1 : Int64) (σ2 : Sg) => Q (lmax (1 : Int64) x1) σ2) fun J44 => ∃ n, w_X1_commonDivisor_l9 J44 n a0 b0 (0 : Int32) σ
set_option maxRecDepth 100000 in
set_option maxHeartbeats 4000000 in
theorem s_X1_commonDivisor (sx : Nat × (Nat → Int32)) (a0 : Int64) (b0 : Int64) (σ : Sg) (Q : Int64 → Sg → Prop) (h : w_X1_commonDivisor a0 b0 σ Q) : Ct mX1_commonDivisor 1 false (0, 0) sx G0 [.long a0, .long b0] σ (qJ Q) := by
  refine Ct.of (L := [some (.long a0), none, some (.long b0), none, none, none, none, none, none, none, none]) (by decide) (Nat.le_of_ble_eq_true rfl) rfl ?_
  unfold w_X1_commonDivisor at h
  refine X_lload_n dX1_commonDivisor_0 rfl rfl ?_
  refine X_lstore (L' := [some (.long a0), none, some (.long b0), none, some (.long a0), none, none, none, none, none, none]) dX1_commonDivisor_1 (by decide) rfl ?_
  refine X_lload_n dX1_commonDivisor_3 rfl rfl ?_
  refine X_lstore (L' := [some (.long a0), none, some (.long b0), none, some (.long a0), none, some (.long b0), none, none, none, none]) dX1_commonDivisor_4 (by decide) rfl ?_
  refine X_iconst (v := 0) dX1_commonDivisor_6 iconst_0 ?_
  refine X_istore (L' := [some (.long a0), none, some (.long b0), none, some (.long a0), none, some (.long b0), none, some (.int (0 : Int32)), none, none]) dX1_commonDivisor_7 (by decide) rfl ?_
  refine bd_j h (fun J44 e44 h => ?_)
  have j44 : ∀ (x1 : Int64) (σ2 : Sg) , J44 x1 σ2 → Ex mX1_commonDivisor 1 false (0, 0) sx G0 44 [none, none, none, none, some (.long x1), none, none, none, none, none, none] [] σ2 (qJ Q) := by
    intro x1 σ2  h
    subst e44
    replace h := h
    refine X_lconst (v := 1) dX1_commonDivisor_44 rfl ?_
    refine X_lload dX1_commonDivisor_45 rfl ?_
    refine X_mlmax lk_X1_99 dX1_commonDivisor_47 (by decide) (Nat.le_of_ble_eq_true rfl) ?_
    exact X_retl rfl dX1_commonDivisor_50 h
  obtain ⟨n9, h⟩ := h
  have key9 : ∀ (n : Nat) (x3 : Int64) (x4 : Int64) (x5 : Int32) (σ6 : Sg) , w_X1_commonDivisor_l9 J44 n x3 x4 x5 σ6 → Ex mX1_commonDivisor 1 false (0, 0) sx G0 9 [none, none, none, none, some (.long x3), none, some (.long x4), none, some (.int x5), none, none] [] σ6 (qJ Q) := by
    intro n9
    induction n9 with
    | zero => intro _ _ _ _  h; exact h.elim
    | succ n9 ih9 =>
      intro x3 x4 x5 σ6  h
      unfold w_X1_commonDivisor_l9 at h
      refine X_iload dX1_commonDivisor_9 rfl ?_
      refine X_bipush (v := 100) dX1_commonDivisor_11 bipush_100 ?_
      refine X_icmp_ge (tgt := 44) dX1_commonDivisor_13 (by decide) h (fun h => ?_) (fun h => ?_)
      · refine X_drop (L' := [none, none, none, none, some (.long x3), none, none, none, none, none, none]) ⟨rfl, trivial⟩ ?_
        exact j44 _ _  h
      · refine X_lload dX1_commonDivisor_16 rfl ?_
        refine X_lconst (v := 0) dX1_commonDivisor_18 rfl ?_
        refine X_lcmp dX1_commonDivisor_19 ?_
        refine X_if_eq (tgt := 44) dX1_commonDivisor_20 (by decide) h (fun h => ?_) (fun h => ?_)
        · refine X_drop (L' := [none, none, none, none, some (.long x3), none, none, none, none, none, none]) ⟨rfl, trivial⟩ ?_
          exact j44 _ _  h
        · refine X_lload dX1_commonDivisor_23 rfl ?_
          refine X_lload dX1_commonDivisor_25 rfl ?_
          obtain ⟨hz, h⟩ := h
          refine X_lrem dX1_commonDivisor_27 hz ?_
          refine X_topJ h (fun x7 h => ?_)
          refine X_lstore (L' := [none, none, none, none, some (.long x3), none, some (.long x4), none, some (.int x5), some (.long x7), none]) dX1_commonDivisor_28 (by decide) rfl ?_
          refine X_lload dX1_commonDivisor_30 rfl ?_
          refine X_lstore (L' := [none, none, none, none, some (.long x4), none, some (.long x4), none, some (.int x5), some (.long x7), none]) dX1_commonDivisor_32 (by decide) rfl ?_
          refine X_lload dX1_commonDivisor_34 rfl ?_
          refine X_lstore (L' := [none, none, none, none, some (.long x4), none, some (.long x7), none, some (.int x5), some (.long x7), none]) dX1_commonDivisor_36 (by decide) rfl ?_
          refine X_iinc (v := (x5 + 1)) (L' := [none, none, none, none, some (.long x4), none, some (.long x7), none, some (.int (x5 + 1)), some (.long x7), none]) dX1_commonDivisor_38 rfl rfl (by decide) rfl ?_
          refine X_goto (tgt := 9) dX1_commonDivisor_41 (by decide) ?_
          refine X_drop (L' := [none, none, none, none, some (.long x4), none, some (.long x7), none, some (.int (x5 + 1)), none, none]) ⟨rfl, ⟨rfl, ⟨rfl, trivial⟩⟩⟩ ?_
          exact ih9 _ _ _ _  h
  refine X_drop (L' := [none, none, none, none, some (.long a0), none, some (.long b0), none, some (.int (0 : Int32)), none, none]) ⟨rfl, ⟨rfl, ⟨rfl, trivial⟩⟩⟩ ?_
  exact key9 _ _ _ _ _  h
def w_X1_fraction_l6 (b0 : Int32) (J26 : Int64 → Sg → Prop) : Nat → Int64 → Int32 → Sg → Prop
  | 0, _, _, _ => False
  | n6 + 1, x5, x6, σ7 => if b0 ≤ x6 then (J26 x5 σ7) else (bd (x5 * (12 : Int64)) fun x8 => w_X1_fraction_l6 b0 J26 n6 x8 (x6 + 1) σ7)
def w_X1_fraction (a0 : Int64) (b0 : Int32) (c0 : Int32) (σ : Sg) (Q : Int64 → Sg → Prop) : Prop := bd (fun (x1 : Int64) (σ2 : Sg) => w_X1_commonDivisor a0 x1 σ2 (fun r4 σ3 => if c0 = 0 then (¬ r4 = 0 ∧ Q (a0 / r4) σ3) else (¬ r4 = 0 ∧ Q (x1 / r4) σ3))) fun J26 => ∃ n, w_X1_fraction_l6 b0 J26 n (1 : Int64) (0 : Int32) σ
set_option maxRecDepth 100000 in
set_option maxHeartbeats 4000000 in
theorem s_X1_fraction (sx : Nat × (Nat → Int32)) (a0 : Int64) (b0 : Int32) (c0 : Int32) (σ : Sg) (Q : Int64 → Sg → Prop) (h : w_X1_fraction a0 b0 c0 σ Q) : Ct mX1_fraction 2 false (0, 0) sx G0 [.ref 32, .long a0, .int b0, .int c0] σ (qJ Q) := by
  refine Ct.of (L := [some (.ref 32), some (.long a0), none, some (.int b0), some (.int c0), none, none, none, none]) (by decide) (Nat.le_of_ble_eq_true rfl) rfl ?_
  unfold w_X1_fraction at h
  refine X_lconst (v := 1) dX1_fraction_0 rfl ?_
  refine X_lstore (L' := [some (.ref 32), some (.long a0), none, some (.int b0), some (.int c0), some (.long (1 : Int64)), none, none, none]) dX1_fraction_1 (by decide) rfl ?_
  refine X_iconst (v := 0) dX1_fraction_3 iconst_0 ?_
  refine X_istore (L' := [some (.ref 32), some (.long a0), none, some (.int b0), some (.int c0), some (.long (1 : Int64)), none, some (.int (0 : Int32)), none]) dX1_fraction_4 (by decide) rfl ?_
  refine bd_j h (fun J26 e26 h => ?_)
  have j26 : ∀ (x1 : Int64) (σ2 : Sg) , J26 x1 σ2 → Ex mX1_fraction 2 false (0, 0) sx G0 26 [none, some (.long a0), none, none, some (.int c0), some (.long x1), none, none, none] [] σ2 (qJ Q) := by
    intro x1 σ2  h
    subst e26
    replace h := h
    refine X_lload_n dX1_fraction_26 rfl rfl ?_
    refine X_lload dX1_fraction_27 rfl ?_
    refine X_callSl [.long a0, .long x1] [] c_X1_commonDivisor t_X1_commonDivisor lk_X1_95 dX1_fraction_29 rfl (by decide) (Nat.le_of_ble_eq_true rfl) rfl (s_X1_commonDivisor sx a0 x1  σ2 _ h) (fun r4 σ3 h => ?_)
    refine X_lstore (L' := [none, some (.long a0), none, none, some (.int c0), some (.long x1), none, some (.long r4), none]) dX1_fraction_32 (by decide) rfl ?_
    refine X_iload dX1_fraction_34 rfl ?_
    refine X_if_ne (tgt := 43) dX1_fraction_36 (by decide) h (fun h => ?_) (fun h => ?_)
    · refine X_lload dX1_fraction_43 rfl ?_
      refine X_lload dX1_fraction_45 rfl ?_
      obtain ⟨hz, h⟩ := h
      refine X_ldiv dX1_fraction_47 hz ?_
      exact X_retl rfl dX1_fraction_48 h
    · refine X_lload_n dX1_fraction_39 rfl rfl ?_
      refine X_goto (tgt := 45) dX1_fraction_40 (by decide) ?_
      refine X_lload dX1_fraction_45 rfl ?_
      obtain ⟨hz, h⟩ := h
      refine X_ldiv dX1_fraction_47 hz ?_
      exact X_retl rfl dX1_fraction_48 h
  obtain ⟨n6, h⟩ := h
  have key6 : ∀ (n : Nat) (x5 : Int64) (x6 : Int32) (σ7 : Sg) , w_X1_fraction_l6 b0 J26 n x5 x6 σ7 → Ex mX1_fraction 2 false (0, 0) sx G0 6 [none, some (.long a0), none, some (.int b0), some (.int c0), some (.long x5), none, some (.int x6), none] [] σ7 (qJ Q) := by
    intro n6
    induction n6 with
    | zero => intro _ _ _  h; exact h.elim
    | succ n6 ih6 =>
      intro x5 x6 σ7  h
      unfold w_X1_fraction_l6 at h
      refine X_iload dX1_fraction_6 rfl ?_
      refine X_iload_n dX1_fraction_8 rfl rfl ?_
      refine X_icmp_ge (tgt := 26) dX1_fraction_9 (by decide) h (fun h => ?_) (fun h => ?_)
      · refine X_drop (L' := [none, some (.long a0), none, none, some (.int c0), some (.long x5), none, none, none]) ⟨rfl, ⟨rfl, ⟨rfl, trivial⟩⟩⟩ ?_
        exact j26 _ _  h
      · refine X_lload dX1_fraction_12 rfl ?_
        refine X_ldc2 (v := 12) dX1_fraction_14 k_X1_93 ?_
        refine X_lmul dX1_fraction_17 ?_
        refine X_topJ h (fun x8 h => ?_)
        refine X_lstore (L' := [none, some (.long a0), none, some (.int b0), some (.int c0), some (.long x8), none, some (.int x6), none]) dX1_fraction_18 (by decide) rfl ?_
        refine X_iinc (v := (x6 + 1)) (L' := [none, some (.long a0), none, some (.int b0), some (.int c0), some (.long x8), none, some (.int (x6 + 1)), none]) dX1_fraction_20 rfl rfl (by decide) rfl ?_
        refine X_goto (tgt := 6) dX1_fraction_23 (by decide) ?_
        exact ih6 _ _ _  h
  refine X_drop (L' := [none, some (.long a0), none, some (.int b0), some (.int c0), some (.long (1 : Int64)), none, some (.int (0 : Int32)), none]) ⟨rfl, ⟨rfl, ⟨rfl, ⟨rfl, ⟨rfl, trivial⟩⟩⟩⟩⟩ ?_
  exact key6 _ _ _ _  h
def w_X1_carriagesAt_l4 (a0 : Int32) (Q : Int32 → Sg → Prop) : Nat → Int32 → Int32 → Sg → Prop
  | 0, _, _, _ => False
  | n4 + 1, x1, x2, σ3 => if (σ3.1 1 4) ≤ x2 then (Q x1 σ3) else (vp_in x2 6 ∧ w_X7_near ((σ3.1 35 (Int32.toNatClampNeg x2)) >>> ((3 : Int32) &&& 31)) a0 σ3 (fun r5 σ4 => bd (fun (x6 : Int32) (σ7 : Sg) => w_X1_carriagesAt_l4 a0 Q n4 x6 (x2 + 1) σ7) fun J37 => if r5 = 0 then (J37 x1 σ4) else (J37 (x1 + 1) σ4)))
def w_X1_carriagesAt (a0 : Int32) (σ : Sg) (Q : Int32 → Sg → Prop) : Prop := ∃ n, w_X1_carriagesAt_l4 a0 Q n (0 : Int32) (0 : Int32) σ
set_option maxRecDepth 100000 in
set_option maxHeartbeats 4000000 in
theorem s_X1_carriagesAt (sx : Nat × (Nat → Int32)) (a0 : Int32) (σ : Sg) (Q : Int32 → Sg → Prop) (h : w_X1_carriagesAt a0 σ Q) : Ct mX1_carriagesAt 3 false (0, 0) sx G0 [.ref 32, .int a0] σ (qI Q) := by
  refine Ct.of (L := [some (.ref 32), some (.int a0), none, none]) (by decide) (Nat.le_of_ble_eq_true rfl) rfl ?_
  unfold w_X1_carriagesAt at h
  refine X_iconst (v := 0) dX1_carriagesAt_0 iconst_0 ?_
  refine X_istore_n (L' := [some (.ref 32), some (.int a0), some (.int (0 : Int32)), none]) dX1_carriagesAt_1 rfl (by decide) rfl ?_
  refine X_iconst (v := 0) dX1_carriagesAt_2 iconst_0 ?_
  refine X_istore_n (L' := [some (.ref 32), some (.int a0), some (.int (0 : Int32)), some (.int (0 : Int32))]) dX1_carriagesAt_3 rfl (by decide) rfl ?_
  obtain ⟨n4, h⟩ := h
  have key4 : ∀ (n : Nat) (x1 : Int32) (x2 : Int32) (σ3 : Sg) , w_X1_carriagesAt_l4 a0 Q n x1 x2 σ3 → Ex mX1_carriagesAt 3 false (0, 0) sx G0 4 [some (.ref 32), some (.int a0), some (.int x1), some (.int x2)] [] σ3 (qI Q) := by
    intro n4
    induction n4 with
    | zero => intro _ _ _  h; exact h.elim
    | succ n4 ih4 =>
      intro x1 x2 σ3  h
      unfold w_X1_carriagesAt_l4 at h
      refine X_iload_n dX1_carriagesAt_4 rfl rfl ?_
      refine X_aload_n dX1_carriagesAt_5 rfl rfl ?_
      refine X_get (v := .ref 1) ck_X1 f_X1_23 g_32 rfl (fun _ => rfl) dX1_carriagesAt_6 ?_
      refine X_get (v := .int (σ3.1 1 4)) ck_X7 f_X1_108 g_1 rfl (fun _ => rfl) dX1_carriagesAt_9 ?_
      refine X_icmp_ge (tgt := 43) dX1_carriagesAt_12 (by decide) h (fun h => ?_) (fun h => ?_)
      · refine X_iload_n dX1_carriagesAt_43 rfl rfl ?_
        exact X_reti rfl dX1_carriagesAt_44 h
      · refine X_aload_n dX1_carriagesAt_15 rfl rfl ?_
        refine X_get (v := .ref 1) ck_X1 f_X1_23 g_32 rfl (fun _ => rfl) dX1_carriagesAt_16 ?_
        refine X_aload_n dX1_carriagesAt_19 rfl rfl ?_
        refine X_get (v := .ref 35) ck_X1 f_X1_20 g_32 rfl (fun _ => rfl) dX1_carriagesAt_20 ?_
        refine X_iload_n dX1_carriagesAt_23 rfl rfl ?_
        refine X_iald g_35 dX1_carriagesAt_24 h (fun h => ?_)
        refine X_iconst (v := 3) dX1_carriagesAt_25 iconst_3 ?_
        refine X_ishr dX1_carriagesAt_26 ?_
        refine X_iload_n dX1_carriagesAt_27 rfl rfl ?_
        refine X_callVi [.int ((σ3.1 35 (Int32.toNatClampNeg x2)) >>> ((3 : Int32) &&& 31)), .int a0] [] c_X7_near v_X7_near lk_X1_79 dX1_carriagesAt_28 g_1 rfl rfl rfl (by decide) (Nat.le_of_ble_eq_true rfl) rfl (s_X7_near sx ((σ3.1 35 (Int32.toNatClampNeg x2)) >>> ((3 : Int32) &&& 31)) a0  σ3 _ h) (fun r5 σ4 h => ?_)
        refine bd_j h (fun J37 e37 h => ?_)
        have j37 : ∀ (x6 : Int32) (σ7 : Sg) , J37 x6 σ7 → Ex mX1_carriagesAt 3 false (0, 0) sx G0 37 [some (.ref 32), some (.int a0), some (.int x6), some (.int x2)] [] σ7 (qI Q) := by
          intro x6 σ7  h
          subst e37
          replace h := h
          refine X_iinc (v := (x2 + 1)) (L' := [some (.ref 32), some (.int a0), some (.int x6), some (.int (x2 + 1))]) dX1_carriagesAt_37 rfl rfl (by decide) rfl ?_
          refine X_goto (tgt := 4) dX1_carriagesAt_40 (by decide) ?_
          exact ih4 _ _ _  h
        refine X_if_eq (tgt := 37) dX1_carriagesAt_31 (by decide) h (fun h => ?_) (fun h => ?_)
        · exact j37 _ _  h
        · refine X_iinc (v := (x1 + 1)) (L' := [some (.ref 32), some (.int a0), some (.int (x1 + 1)), some (.int x2)]) dX1_carriagesAt_34 rfl rfl (by decide) rfl ?_
          exact j37 _ _  h
  exact key4 _ _ _ _  h
def w_X1_drawYear_l52 (x3 : Int32) (J113 : Int32 → Sg → Prop) : Nat → Int32 → Int32 → Sg → Prop
  | 0, _, _, _ => False
  | n52 + 1, x7, x8, σ9 => if (σ9.1 1 4) ≤ x8 then (J113 x7 σ9) else (bd ((x7 * (1103515245 : Int32)) + (12345 : Int32)) fun x10 => vp_in x8 6 ∧ vp_in x8 6 ∧ w_X3_next (Int32.toNatClampNeg x8) (σ9.1 35 (Int32.toNatClampNeg x8)) x3 ((((x10.toUInt32 >>> (Int32.toUInt32 (8 : Int32) &&& Int32.toUInt32 31)).toInt32) - ((x10.toUInt32 >>> (Int32.toUInt32 (8 : Int32) &&& Int32.toUInt32 31)).toInt32) / (3 : Int32) * (3 : Int32)) - (1 : Int32)) σ9 (fun r13 σ12 => vp_in x8 6 ∧ bd (sI σ12 35 (Int32.toNatClampNeg x8) r13) fun σ14 => w_X1_drawYear_l52 x3 J113 n52 x10 (x8 + 1) σ14))
def w_X1_drawYear_l43 (b0 : Int32) (Q : Int32 → Sg → Prop) : Nat → Int32 → Int32 → Sg → Prop
  | 0, _, _, _ => False
  | n43 + 1, x2, x3, σ4 => if b0 ≤ x3 then (Q x2 σ4) else (bd (fun (x5 : Int32) (σ6 : Sg) => w_X1_drawYear_l43 b0 Q n43 x5 (x3 + 1) σ6) fun J113 => ∃ n, w_X1_drawYear_l52 x3 J113 n x2 (0 : Int32) σ4)
def w_X1_drawYear_l5 (J40 : Sg → Prop) : Nat → Int32 → Sg → Prop
  | 0, _, _ => False
  | n5 + 1, x15, σ16 => if (σ16.1 1 4) ≤ x15 then (J40 σ16) else (vp_in x15 6 ∧ w_X3_standNow (Int32.toNatClampNeg x15) σ16 (fun r19 σ18 => vp_in x15 6 ∧ bd (sI σ18 35 (Int32.toNatClampNeg x15) r19) fun σ20 => w_X1_drawYear_l5 J40 n5 (x15 + 1) σ20))
def w_X1_drawYear (a0 : Int32) (b0 : Int32) (σ : Sg) (Q : Int32 → Sg → Prop) : Prop := bd (fun (σ1 : Sg) => ∃ n, w_X1_drawYear_l43 b0 Q n a0 (0 : Int32) σ1) fun J40 => ∃ n, w_X1_drawYear_l5 J40 n (0 : Int32) σ
set_option maxRecDepth 100000 in
set_option maxHeartbeats 4000000 in
theorem s_X1_drawYear (sx : Nat × (Nat → Int32)) (a0 : Int32) (b0 : Int32) (σ : Sg) (Q : Int32 → Sg → Prop) (h : w_X1_drawYear a0 b0 σ Q) : Ct mX1_drawYear 5 false (0, 0) sx G0 [.ref 32, .int a0, .int b0] σ (qI Q) := by
  refine Ct.of (L := [some (.ref 32), some (.int a0), some (.int b0), none, none, none]) (by decide) (Nat.le_of_ble_eq_true rfl) rfl ?_
  unfold w_X1_drawYear at h
  refine X_iload_n dX1_drawYear_0 rfl rfl ?_
  refine X_istore_n (L' := [some (.ref 32), some (.int a0), some (.int b0), some (.int a0), none, none]) dX1_drawYear_1 rfl (by decide) rfl ?_
  refine X_iconst (v := 0) dX1_drawYear_2 iconst_0 ?_
  refine X_istore (L' := [some (.ref 32), some (.int a0), some (.int b0), some (.int a0), some (.int (0 : Int32)), none]) dX1_drawYear_3 (by decide) rfl ?_
  refine bd_j h (fun J40 e40 h => ?_)
  have j40 : ∀ (σ1 : Sg) , J40  σ1 → Ex mX1_drawYear 5 false (0, 0) sx G0 40 [some (.ref 32), none, some (.int b0), some (.int a0), none, none] [] σ1 (qI Q) := by
    intro  σ1  h
    subst e40
    replace h := h
    refine X_iconst (v := 0) dX1_drawYear_40 iconst_0 ?_
    refine X_istore (L' := [some (.ref 32), none, some (.int b0), some (.int a0), some (.int (0 : Int32)), none]) dX1_drawYear_41 (by decide) rfl ?_
    obtain ⟨n43, h⟩ := h
    have key43 : ∀ (n : Nat) (x2 : Int32) (x3 : Int32) (σ4 : Sg) , w_X1_drawYear_l43 b0 Q n x2 x3 σ4 → Ex mX1_drawYear 5 false (0, 0) sx G0 43 [some (.ref 32), none, some (.int b0), some (.int x2), some (.int x3), none] [] σ4 (qI Q) := by
      intro n43
      induction n43 with
      | zero => intro _ _ _  h; exact h.elim
      | succ n43 ih43 =>
        intro x2 x3 σ4  h
        unfold w_X1_drawYear_l43 at h
        refine X_iload dX1_drawYear_43 rfl ?_
        refine X_iload_n dX1_drawYear_45 rfl rfl ?_
        refine X_icmp_ge (tgt := 119) dX1_drawYear_46 (by decide) h (fun h => ?_) (fun h => ?_)
        · refine X_iload_n dX1_drawYear_119 rfl rfl ?_
          exact X_reti rfl dX1_drawYear_120 h
        · refine X_iconst (v := 0) dX1_drawYear_49 iconst_0 ?_
          refine X_istore (L' := [some (.ref 32), none, some (.int b0), some (.int x2), some (.int x3), some (.int (0 : Int32))]) dX1_drawYear_50 (by decide) rfl ?_
          refine bd_j h (fun J113 e113 h => ?_)
          have j113 : ∀ (x5 : Int32) (σ6 : Sg) , J113 x5 σ6 → Ex mX1_drawYear 5 false (0, 0) sx G0 113 [some (.ref 32), none, some (.int b0), some (.int x5), some (.int x3), none] [] σ6 (qI Q) := by
            intro x5 σ6  h
            subst e113
            replace h := h
            refine X_iinc (v := (x3 + 1)) (L' := [some (.ref 32), none, some (.int b0), some (.int x5), some (.int (x3 + 1)), none]) dX1_drawYear_113 rfl rfl (by decide) rfl ?_
            refine X_goto (tgt := 43) dX1_drawYear_116 (by decide) ?_
            exact ih43 _ _ _  h
          obtain ⟨n52, h⟩ := h
          have key52 : ∀ (n : Nat) (x7 : Int32) (x8 : Int32) (σ9 : Sg) , w_X1_drawYear_l52 x3 J113 n x7 x8 σ9 → Ex mX1_drawYear 5 false (0, 0) sx G0 52 [some (.ref 32), none, some (.int b0), some (.int x7), some (.int x3), some (.int x8)] [] σ9 (qI Q) := by
            intro n52
            induction n52 with
            | zero => intro _ _ _  h; exact h.elim
            | succ n52 ih52 =>
              intro x7 x8 σ9  h
              unfold w_X1_drawYear_l52 at h
              refine X_iload dX1_drawYear_52 rfl ?_
              refine X_aload_n dX1_drawYear_54 rfl rfl ?_
              refine X_get (v := .ref 1) ck_X1 f_X1_23 g_32 rfl (fun _ => rfl) dX1_drawYear_55 ?_
              refine X_get (v := .int (σ9.1 1 4)) ck_X7 f_X1_108 g_1 rfl (fun _ => rfl) dX1_drawYear_58 ?_
              refine X_icmp_ge (tgt := 113) dX1_drawYear_61 (by decide) h (fun h => ?_) (fun h => ?_)
              · refine X_drop (L' := [some (.ref 32), none, some (.int b0), some (.int x7), some (.int x3), none]) ⟨rfl, ⟨rfl, ⟨rfl, ⟨rfl, trivial⟩⟩⟩⟩ ?_
                exact j113 _ _  h
              · refine X_iload_n dX1_drawYear_64 rfl rfl ?_
                refine X_ldc (v := 1103515245) dX1_drawYear_65 k_X1_120 ?_
                refine X_imul dX1_drawYear_67 ?_
                refine X_sipush (v := 12345) dX1_drawYear_68 sipush_12345 ?_
                refine X_iadd dX1_drawYear_71 ?_
                refine X_topI h (fun x10 h => ?_)
                refine X_istore_n (L' := [some (.ref 32), none, some (.int b0), some (.int x10), some (.int x3), some (.int x8)]) dX1_drawYear_72 rfl (by decide) rfl ?_
                refine X_aload_n dX1_drawYear_73 rfl rfl ?_
                refine X_get (v := .ref 35) ck_X1 f_X1_20 g_32 rfl (fun _ => rfl) dX1_drawYear_74 ?_
                refine X_iload dX1_drawYear_77 rfl ?_
                refine X_aload_n dX1_drawYear_79 rfl rfl ?_
                refine X_get (v := .ref 15) ck_X1 f_X1_27 g_32 rfl (fun _ => rfl) dX1_drawYear_80 ?_
                refine X_iload dX1_drawYear_83 rfl ?_
                have hk11 := vp_lt h.1
                refine X_aald g_15 (Or.inl rfl) dX1_drawYear_85 h (fun q => g_coaches (vp_lt q)) (fun h => ?_)
                refine X_aload_n dX1_drawYear_86 rfl rfl ?_
                refine X_get (v := .ref 35) ck_X1 f_X1_20 g_32 rfl (fun _ => rfl) dX1_drawYear_87 ?_
                refine X_iload dX1_drawYear_90 rfl ?_
                refine X_iald g_35 dX1_drawYear_92 h (fun h => ?_)
                refine X_iload dX1_drawYear_93 rfl ?_
                refine X_iload_n dX1_drawYear_95 rfl rfl ?_
                refine X_bipush (v := 8) dX1_drawYear_96 bipush_8 ?_
                refine X_iushr dX1_drawYear_98 ?_
                refine X_iconst (v := 3) dX1_drawYear_99 iconst_3 ?_
                refine X_irem dX1_drawYear_100 (by decide) ?_
                refine X_iconst (v := 1) dX1_drawYear_101 iconst_1 ?_
                refine X_isub dX1_drawYear_102 ?_
                refine X_callVi [.int (σ9.1 35 (Int32.toNatClampNeg x8)), .int x3, .int ((((x10.toUInt32 >>> (Int32.toUInt32 (8 : Int32) &&& Int32.toUInt32 31)).toInt32) - ((x10.toUInt32 >>> (Int32.toUInt32 (8 : Int32) &&& Int32.toUInt32 31)).toInt32) / (3 : Int32) * (3 : Int32)) - (1 : Int32))] [.int x8, .ref 35] c_X3_next v_X3_next lk_X1_69 dX1_drawYear_103 (g_coach hk11) rfl rfl rfl (by decide) (Nat.le_of_ble_eq_true rfl) rfl (s_X3_next sx (Int32.toNatClampNeg x8) (σ9.1 35 (Int32.toNatClampNeg x8)) x3 ((((x10.toUInt32 >>> (Int32.toUInt32 (8 : Int32) &&& Int32.toUInt32 31)).toInt32) - ((x10.toUInt32 >>> (Int32.toUInt32 (8 : Int32) &&& Int32.toUInt32 31)).toInt32) / (3 : Int32) * (3 : Int32)) - (1 : Int32)) hk11 σ9 _ h) (fun r13 σ12 h => ?_)
                refine X_iast g_35 dX1_drawYear_106 h (fun σ14 h => ?_)
                refine X_iinc (v := (x8 + 1)) (L' := [some (.ref 32), none, some (.int b0), some (.int x10), some (.int x3), some (.int (x8 + 1))]) dX1_drawYear_107 rfl rfl (by decide) rfl ?_
                refine X_goto (tgt := 52) dX1_drawYear_110 (by decide) ?_
                exact ih52 _ _ _  h
          exact key52 _ _ _ _  h
    exact key43 _ _ _ _  h
  obtain ⟨n5, h⟩ := h
  have key5 : ∀ (n : Nat) (x15 : Int32) (σ16 : Sg) , w_X1_drawYear_l5 J40 n x15 σ16 → Ex mX1_drawYear 5 false (0, 0) sx G0 5 [some (.ref 32), none, some (.int b0), some (.int a0), some (.int x15), none] [] σ16 (qI Q) := by
    intro n5
    induction n5 with
    | zero => intro _ _  h; exact h.elim
    | succ n5 ih5 =>
      intro x15 σ16  h
      unfold w_X1_drawYear_l5 at h
      refine X_iload dX1_drawYear_5 rfl ?_
      refine X_aload_n dX1_drawYear_7 rfl rfl ?_
      refine X_get (v := .ref 1) ck_X1 f_X1_23 g_32 rfl (fun _ => rfl) dX1_drawYear_8 ?_
      refine X_get (v := .int (σ16.1 1 4)) ck_X7 f_X1_108 g_1 rfl (fun _ => rfl) dX1_drawYear_11 ?_
      refine X_icmp_ge (tgt := 40) dX1_drawYear_14 (by decide) h (fun h => ?_) (fun h => ?_)
      · refine X_drop (L' := [some (.ref 32), none, some (.int b0), some (.int a0), none, none]) ⟨rfl, ⟨rfl, ⟨rfl, trivial⟩⟩⟩ ?_
        exact j40 _  h
      · refine X_aload_n dX1_drawYear_17 rfl rfl ?_
        refine X_get (v := .ref 35) ck_X1 f_X1_20 g_32 rfl (fun _ => rfl) dX1_drawYear_18 ?_
        refine X_iload dX1_drawYear_21 rfl ?_
        refine X_aload_n dX1_drawYear_23 rfl rfl ?_
        refine X_get (v := .ref 15) ck_X1 f_X1_27 g_32 rfl (fun _ => rfl) dX1_drawYear_24 ?_
        refine X_iload dX1_drawYear_27 rfl ?_
        have hk17 := vp_lt h.1
        refine X_aald g_15 (Or.inl rfl) dX1_drawYear_29 h (fun q => g_coaches (vp_lt q)) (fun h => ?_)
        refine X_callVi [] [.int x15, .ref 35] c_X3_standNow v_X3_standNow lk_X1_49 dX1_drawYear_30 (g_coach hk17) rfl rfl rfl (by decide) (Nat.le_of_ble_eq_true rfl) rfl (s_X3_standNow sx (Int32.toNatClampNeg x15) hk17 σ16 _ h) (fun r19 σ18 h => ?_)
        refine X_iast g_35 dX1_drawYear_33 h (fun σ20 h => ?_)
        refine X_iinc (v := (x15 + 1)) (L' := [some (.ref 32), none, some (.int b0), some (.int a0), some (.int (x15 + 1)), none]) dX1_drawYear_34 rfl rfl (by decide) rfl ?_
        refine X_goto (tgt := 5) dX1_drawYear_37 (by decide) ?_
        exact ih5 _ _  h
  refine X_drop (L' := [some (.ref 32), none, some (.int b0), some (.int a0), some (.int (0 : Int32)), none]) ⟨rfl, ⟨rfl, ⟨rfl, ⟨rfl, trivial⟩⟩⟩⟩ ?_
  exact key5 _ _ _  h
def w_J6_bitCount_0f7a4 (a0 : Int32) (σ : Sg) (Q : Int32 → Sg → Prop) : Prop := bd (a0 - (((a0.toUInt32 >>> (Int32.toUInt32 (1 : Int32) &&& Int32.toUInt32 31)).toInt32) &&& (1431655765 : Int32))) fun x1 => bd ((x1 &&& (858993459 : Int32)) + (((x1.toUInt32 >>> (Int32.toUInt32 (2 : Int32) &&& Int32.toUInt32 31)).toInt32) &&& (858993459 : Int32))) fun x2 => bd ((x2 + ((x2.toUInt32 >>> (Int32.toUInt32 (4 : Int32) &&& Int32.toUInt32 31)).toInt32)) &&& (252645135 : Int32)) fun x3 => bd (x3 + ((x3.toUInt32 >>> (Int32.toUInt32 (8 : Int32) &&& Int32.toUInt32 31)).toInt32)) fun x4 => bd (x4 + ((x4.toUInt32 >>> (Int32.toUInt32 (16 : Int32) &&& Int32.toUInt32 31)).toInt32)) fun x5 => Q (x5 &&& (63 : Int32)) σ
set_option maxRecDepth 100000 in
set_option maxHeartbeats 4000000 in
theorem s_J6_bitCount_0f7a4 (sx : Nat × (Nat → Int32)) (a0 : Int32) (σ : Sg) (Q : Int32 → Sg → Prop) (h : w_J6_bitCount_0f7a4 a0 σ Q) : Ct mJ6_bitCount_0f7a4 0 false (0, 0) sx G0 [.int a0] σ (qI Q) := by
  refine Ct.of (L := [some (.int a0)]) (by decide) (Nat.le_of_ble_eq_true rfl) rfl ?_
  unfold w_J6_bitCount_0f7a4 at h
  refine X_iload_n dJ6_bitCount_0f7a4_0 rfl rfl ?_
  refine X_iload_n dJ6_bitCount_0f7a4_1 rfl rfl ?_
  refine X_iconst (v := 1) dJ6_bitCount_0f7a4_2 iconst_1 ?_
  refine X_iushr dJ6_bitCount_0f7a4_3 ?_
  refine X_ldcw (v := 1431655765) dJ6_bitCount_0f7a4_4 k_J6_265 ?_
  refine X_iand dJ6_bitCount_0f7a4_7 ?_
  refine X_isub dJ6_bitCount_0f7a4_8 ?_
  refine X_topI h (fun x1 h => ?_)
  refine X_istore_n (L' := [some (.int x1)]) dJ6_bitCount_0f7a4_9 rfl (by decide) rfl ?_
  refine X_iload_n dJ6_bitCount_0f7a4_10 rfl rfl ?_
  refine X_ldcw (v := 858993459) dJ6_bitCount_0f7a4_11 k_J6_266 ?_
  refine X_iand dJ6_bitCount_0f7a4_14 ?_
  refine X_iload_n dJ6_bitCount_0f7a4_15 rfl rfl ?_
  refine X_iconst (v := 2) dJ6_bitCount_0f7a4_16 iconst_2 ?_
  refine X_iushr dJ6_bitCount_0f7a4_17 ?_
  refine X_ldcw (v := 858993459) dJ6_bitCount_0f7a4_18 k_J6_266 ?_
  refine X_iand dJ6_bitCount_0f7a4_21 ?_
  refine X_iadd dJ6_bitCount_0f7a4_22 ?_
  refine X_topI h (fun x2 h => ?_)
  refine X_istore_n (L' := [some (.int x2)]) dJ6_bitCount_0f7a4_23 rfl (by decide) rfl ?_
  refine X_iload_n dJ6_bitCount_0f7a4_24 rfl rfl ?_
  refine X_iload_n dJ6_bitCount_0f7a4_25 rfl rfl ?_
  refine X_iconst (v := 4) dJ6_bitCount_0f7a4_26 iconst_4 ?_
  refine X_iushr dJ6_bitCount_0f7a4_27 ?_
  refine X_iadd dJ6_bitCount_0f7a4_28 ?_
  refine X_ldcw (v := 252645135) dJ6_bitCount_0f7a4_29 k_J6_267 ?_
  refine X_iand dJ6_bitCount_0f7a4_32 ?_
  refine X_topI h (fun x3 h => ?_)
  refine X_istore_n (L' := [some (.int x3)]) dJ6_bitCount_0f7a4_33 rfl (by decide) rfl ?_
  refine X_iload_n dJ6_bitCount_0f7a4_34 rfl rfl ?_
  refine X_iload_n dJ6_bitCount_0f7a4_35 rfl rfl ?_
  refine X_bipush (v := 8) dJ6_bitCount_0f7a4_36 bipush_8 ?_
  refine X_iushr dJ6_bitCount_0f7a4_38 ?_
  refine X_iadd dJ6_bitCount_0f7a4_39 ?_
  refine X_topI h (fun x4 h => ?_)
  refine X_istore_n (L' := [some (.int x4)]) dJ6_bitCount_0f7a4_40 rfl (by decide) rfl ?_
  refine X_iload_n dJ6_bitCount_0f7a4_41 rfl rfl ?_
  refine X_iload_n dJ6_bitCount_0f7a4_42 rfl rfl ?_
  refine X_bipush (v := 16) dJ6_bitCount_0f7a4_43 bipush_16 ?_
  refine X_iushr dJ6_bitCount_0f7a4_45 ?_
  refine X_iadd dJ6_bitCount_0f7a4_46 ?_
  refine X_topI h (fun x5 h => ?_)
  refine X_istore_n (L' := [some (.int x5)]) dJ6_bitCount_0f7a4_47 rfl (by decide) rfl ?_
  refine X_iload_n dJ6_bitCount_0f7a4_48 rfl rfl ?_
  refine X_bipush (v := 63) dJ6_bitCount_0f7a4_49 bipush_63 ?_
  refine X_iand dJ6_bitCount_0f7a4_51 ?_
  exact X_reti rfl dJ6_bitCount_0f7a4_52 h
def w_X7_placesNear_l4 (a0 : Int32) (Q : Int32 → Sg → Prop) : Nat → Int32 → Int32 → Sg → Prop
  | 0, _, _, _ => False
  | n4 + 1, x1, x2, σ3 => if (σ3.1 1 7) ≤ x2 then (Q x1 σ3) else (vp_in x2 8 ∧ w_X7_near a0 (σ3.1 6 (Int32.toNatClampNeg x2)) σ3 (fun r5 σ4 => bd (fun (x6 : Int32) (σ7 : Sg) => w_X7_placesNear_l4 a0 Q n4 x6 (x2 + 1) σ7) fun J32 => if r5 = 0 then (J32 x1 σ4) else (bd (x1 ||| ((1 : Int32) <<< (x2 &&& 31))) fun x8 => J32 x8 σ4)))
def w_X7_placesNear (a0 : Int32) (σ : Sg) (Q : Int32 → Sg → Prop) : Prop := ∃ n, w_X7_placesNear_l4 a0 Q n (0 : Int32) (0 : Int32) σ
set_option maxRecDepth 100000 in
set_option maxHeartbeats 4000000 in
theorem s_X7_placesNear (sx : Nat × (Nat → Int32)) (a0 : Int32) (σ : Sg) (Q : Int32 → Sg → Prop) (h : w_X7_placesNear a0 σ Q) : Ct mX7_placesNear 3 false (0, 0) sx G0 [.ref 1, .int a0] σ (qI Q) := by
  refine Ct.of (L := [some (.ref 1), some (.int a0), none, none]) (by decide) (Nat.le_of_ble_eq_true rfl) rfl ?_
  unfold w_X7_placesNear at h
  refine X_iconst (v := 0) dX7_placesNear_0 iconst_0 ?_
  refine X_istore_n (L' := [some (.ref 1), some (.int a0), some (.int (0 : Int32)), none]) dX7_placesNear_1 rfl (by decide) rfl ?_
  refine X_iconst (v := 0) dX7_placesNear_2 iconst_0 ?_
  refine X_istore_n (L' := [some (.ref 1), some (.int a0), some (.int (0 : Int32)), some (.int (0 : Int32))]) dX7_placesNear_3 rfl (by decide) rfl ?_
  obtain ⟨n4, h⟩ := h
  have key4 : ∀ (n : Nat) (x1 : Int32) (x2 : Int32) (σ3 : Sg) , w_X7_placesNear_l4 a0 Q n x1 x2 σ3 → Ex mX7_placesNear 3 false (0, 0) sx G0 4 [some (.ref 1), some (.int a0), some (.int x1), some (.int x2)] [] σ3 (qI Q) := by
    intro n4
    induction n4 with
    | zero => intro _ _ _  h; exact h.elim
    | succ n4 ih4 =>
      intro x1 x2 σ3  h
      unfold w_X7_placesNear_l4 at h
      refine X_iload_n dX7_placesNear_4 rfl rfl ?_
      refine X_aload_n dX7_placesNear_5 rfl rfl ?_
      refine X_get (v := .int (σ3.1 1 7)) ck_X7 f_X7_60 g_1 rfl (fun _ => rfl) dX7_placesNear_6 ?_
      refine X_icmp_ge (tgt := 38) dX7_placesNear_9 (by decide) h (fun h => ?_) (fun h => ?_)
      · refine X_iload_n dX7_placesNear_38 rfl rfl ?_
        exact X_reti rfl dX7_placesNear_39 h
      · refine X_aload_n dX7_placesNear_12 rfl rfl ?_
        refine X_iload_n dX7_placesNear_13 rfl rfl ?_
        refine X_aload_n dX7_placesNear_14 rfl rfl ?_
        refine X_get (v := .ref 6) ck_X7 f_X7_24 g_1 rfl (fun _ => rfl) dX7_placesNear_15 ?_
        refine X_iload_n dX7_placesNear_18 rfl rfl ?_
        refine X_iald g_6 dX7_placesNear_19 h (fun h => ?_)
        refine X_callVi [.int a0, .int (σ3.1 6 (Int32.toNatClampNeg x2))] [] c_X7_near v_X7_near lk_X7_76 dX7_placesNear_20 g_1 rfl rfl rfl (by decide) (Nat.le_of_ble_eq_true rfl) rfl (s_X7_near sx a0 (σ3.1 6 (Int32.toNatClampNeg x2))  σ3 _ h) (fun r5 σ4 h => ?_)
        refine bd_j h (fun J32 e32 h => ?_)
        have j32 : ∀ (x6 : Int32) (σ7 : Sg) , J32 x6 σ7 → Ex mX7_placesNear 3 false (0, 0) sx G0 32 [some (.ref 1), some (.int a0), some (.int x6), some (.int x2)] [] σ7 (qI Q) := by
          intro x6 σ7  h
          subst e32
          replace h := h
          refine X_iinc (v := (x2 + 1)) (L' := [some (.ref 1), some (.int a0), some (.int x6), some (.int (x2 + 1))]) dX7_placesNear_32 rfl rfl (by decide) rfl ?_
          refine X_goto (tgt := 4) dX7_placesNear_35 (by decide) ?_
          exact ih4 _ _ _  h
        refine X_if_eq (tgt := 32) dX7_placesNear_23 (by decide) h (fun h => ?_) (fun h => ?_)
        · exact j32 _ _  h
        · refine X_iload_n dX7_placesNear_26 rfl rfl ?_
          refine X_iconst (v := 1) dX7_placesNear_27 iconst_1 ?_
          refine X_iload_n dX7_placesNear_28 rfl rfl ?_
          refine X_ishl dX7_placesNear_29 ?_
          refine X_ior dX7_placesNear_30 ?_
          refine X_topI h (fun x8 h => ?_)
          refine X_istore_n (L' := [some (.ref 1), some (.int a0), some (.int x8), some (.int x2)]) dX7_placesNear_31 rfl (by decide) rfl ?_
          exact j32 _ _  h
  exact key4 _ _ _ _  h
def w_X1_placesReached_l4 (J39 : Int32 → Sg → Prop) : Nat → Int32 → Int32 → Sg → Prop
  | 0, _, _, _ => False
  | n4 + 1, x5, x6, σ7 => if (σ7.1 1 4) ≤ x6 then (J39 x5 σ7) else (vp_in x6 6 ∧ w_X7_placesNear ((σ7.1 35 (Int32.toNatClampNeg x6)) >>> ((3 : Int32) &&& 31)) σ7 (fun r9 σ8 => bd (x5 ||| r9) fun x10 => w_X1_placesReached_l4 J39 n4 x10 (x6 + 1) σ8))
def w_X1_placesReached (σ : Sg) (Q : Int32 → Sg → Prop) : Prop := bd (fun (x1 : Int32) (σ2 : Sg) => w_J6_bitCount_0f7a4 x1 σ2 (fun r4 σ3 => Q r4 σ3)) fun J39 => ∃ n, w_X1_placesReached_l4 J39 n (0 : Int32) (0 : Int32) σ
set_option maxRecDepth 100000 in
set_option maxHeartbeats 4000000 in
theorem s_X1_placesReached (sx : Nat × (Nat → Int32)) (σ : Sg) (Q : Int32 → Sg → Prop) (h : w_X1_placesReached σ Q) : Ct mX1_placesReached 4 false (0, 0) sx G0 [.ref 32] σ (qI Q) := by
  refine Ct.of (L := [some (.ref 32), none, none]) (by decide) (Nat.le_of_ble_eq_true rfl) rfl ?_
  unfold w_X1_placesReached at h
  refine X_iconst (v := 0) dX1_placesReached_0 iconst_0 ?_
  refine X_istore_n (L' := [some (.ref 32), some (.int (0 : Int32)), none]) dX1_placesReached_1 rfl (by decide) rfl ?_
  refine X_iconst (v := 0) dX1_placesReached_2 iconst_0 ?_
  refine X_istore_n (L' := [some (.ref 32), some (.int (0 : Int32)), some (.int (0 : Int32))]) dX1_placesReached_3 rfl (by decide) rfl ?_
  refine bd_j h (fun J39 e39 h => ?_)
  have j39 : ∀ (x1 : Int32) (σ2 : Sg) , J39 x1 σ2 → Ex mX1_placesReached 4 false (0, 0) sx G0 39 [none, some (.int x1), none] [] σ2 (qI Q) := by
    intro x1 σ2  h
    subst e39
    replace h := h
    refine X_iload_n dX1_placesReached_39 rfl rfl ?_
    refine X_callSi [.int x1] [] c_J6_bitCount_0f7a4 t_J6_bitCount_0f7a4 lk_X1_124 dX1_placesReached_40 rfl (by decide) (Nat.le_of_ble_eq_true rfl) rfl (s_J6_bitCount_0f7a4 sx x1  σ2 _ h) (fun r4 σ3 h => ?_)
    exact X_reti rfl dX1_placesReached_43 h
  obtain ⟨n4, h⟩ := h
  have key4 : ∀ (n : Nat) (x5 : Int32) (x6 : Int32) (σ7 : Sg) , w_X1_placesReached_l4 J39 n x5 x6 σ7 → Ex mX1_placesReached 4 false (0, 0) sx G0 4 [some (.ref 32), some (.int x5), some (.int x6)] [] σ7 (qI Q) := by
    intro n4
    induction n4 with
    | zero => intro _ _ _  h; exact h.elim
    | succ n4 ih4 =>
      intro x5 x6 σ7  h
      unfold w_X1_placesReached_l4 at h
      refine X_iload_n dX1_placesReached_4 rfl rfl ?_
      refine X_aload_n dX1_placesReached_5 rfl rfl ?_
      refine X_get (v := .ref 1) ck_X1 f_X1_23 g_32 rfl (fun _ => rfl) dX1_placesReached_6 ?_
      refine X_get (v := .int (σ7.1 1 4)) ck_X7 f_X1_108 g_1 rfl (fun _ => rfl) dX1_placesReached_9 ?_
      refine X_icmp_ge (tgt := 39) dX1_placesReached_12 (by decide) h (fun h => ?_) (fun h => ?_)
      · refine X_drop (L' := [none, some (.int x5), none]) ⟨rfl, trivial⟩ ?_
        exact j39 _ _  h
      · refine X_iload_n dX1_placesReached_15 rfl rfl ?_
        refine X_aload_n dX1_placesReached_16 rfl rfl ?_
        refine X_get (v := .ref 1) ck_X1 f_X1_23 g_32 rfl (fun _ => rfl) dX1_placesReached_17 ?_
        refine X_aload_n dX1_placesReached_20 rfl rfl ?_
        refine X_get (v := .ref 35) ck_X1 f_X1_20 g_32 rfl (fun _ => rfl) dX1_placesReached_21 ?_
        refine X_iload_n dX1_placesReached_24 rfl rfl ?_
        refine X_iald g_35 dX1_placesReached_25 h (fun h => ?_)
        refine X_iconst (v := 3) dX1_placesReached_26 iconst_3 ?_
        refine X_ishr dX1_placesReached_27 ?_
        refine X_callVi [.int ((σ7.1 35 (Int32.toNatClampNeg x6)) >>> ((3 : Int32) &&& 31))] [.int x5] c_X7_placesNear v_X7_placesNear lk_X1_121 dX1_placesReached_28 g_1 rfl rfl rfl (by decide) (Nat.le_of_ble_eq_true rfl) rfl (s_X7_placesNear sx ((σ7.1 35 (Int32.toNatClampNeg x6)) >>> ((3 : Int32) &&& 31))  σ7 _ h) (fun r9 σ8 h => ?_)
        refine X_ior dX1_placesReached_31 ?_
        refine X_topI h (fun x10 h => ?_)
        refine X_istore_n (L' := [some (.ref 32), some (.int x10), some (.int x6)]) dX1_placesReached_32 rfl (by decide) rfl ?_
        refine X_iinc (v := (x6 + 1)) (L' := [some (.ref 32), some (.int x10), some (.int (x6 + 1))]) dX1_placesReached_33 rfl rfl (by decide) rfl ?_
        refine X_goto (tgt := 4) dX1_placesReached_36 (by decide) ?_
        exact ih4 _ _ _  h
  exact key4 _ _ _ _  h
def w_X1_byDraws_l50 (b0 : Int32) (c0 : Int32) (d0 : Int32) (Q : Int32 → Sg → Prop) : Nat → Int32 → Int32 → Int32 → Sg → Prop
  | 0, _, _, _, _ => False
  | n50 + 1, x2, x3, x4, σ5 => if b0 ≤ x4 then (Q x3 σ5) else (w_X1_drawYear x2 c0 σ5 (fun r7 σ6 => bd (fun (x8 : Int32) (x9 : Int32) (σ10 : Sg) => bd (x8 + x9) fun x11 => w_X1_byDraws_l50 b0 c0 d0 Q n50 r7 x11 (x4 + 1) σ10) fun J94 => if d0 = (-1 : Int32) then (w_X1_placesReached  σ6 (fun r15 σ14 => J94 x3 r15 σ14)) else (vp_in d0 8 ∧ w_X1_carriagesAt (σ6.1 6 (Int32.toNatClampNeg d0)) σ6 (fun r13 σ12 => J94 x3 r13 σ12))))
def w_X1_byDraws_l3 (J41 : Sg → Prop) : Nat → Int32 → Sg → Prop
  | 0, _, _ => False
  | n3 + 1, x16, σ17 => if (σ17.1 1 4) ≤ x16 then (J41 σ17) else (vp_in x16 6 ∧ vp_in x16 6 ∧ w_X3_start (Int32.toNatClampNeg x16) (σ17.1 4 (Int32.toNatClampNeg x16)) σ17 (fun  σ19 => w_X1_byDraws_l3 J41 n3 (x16 + 1) σ19))
def w_X1_byDraws (a0 : Int32) (b0 : Int32) (c0 : Int32) (d0 : Int32) (σ : Sg) (Q : Int32 → Sg → Prop) : Prop := bd (fun (σ1 : Sg) => ∃ n, w_X1_byDraws_l50 b0 c0 d0 Q n a0 (0 : Int32) (0 : Int32) σ1) fun J41 => ∃ n, w_X1_byDraws_l3 J41 n (0 : Int32) σ
set_option maxRecDepth 100000 in
set_option maxHeartbeats 4000000 in
theorem s_X1_byDraws (sx : Nat × (Nat → Int32)) (a0 : Int32) (b0 : Int32) (c0 : Int32) (d0 : Int32) (σ : Sg) (Q : Int32 → Sg → Prop) (h : w_X1_byDraws a0 b0 c0 d0 σ Q) : Ct mX1_byDraws 6 false (0, 0) sx G0 [.ref 32, .int a0, .int b0, .int c0, .int d0] σ (qI Q) := by
  refine Ct.of (L := [some (.ref 32), some (.int a0), some (.int b0), some (.int c0), some (.int d0), none, none, none]) (by decide) (Nat.le_of_ble_eq_true rfl) rfl ?_
  unfold w_X1_byDraws at h
  refine X_iconst (v := 0) dX1_byDraws_0 iconst_0 ?_
  refine X_istore (L' := [some (.ref 32), some (.int a0), some (.int b0), some (.int c0), some (.int d0), some (.int (0 : Int32)), none, none]) dX1_byDraws_1 (by decide) rfl ?_
  refine bd_j h (fun J41 e41 h => ?_)
  have j41 : ∀ (σ1 : Sg) , J41  σ1 → Ex mX1_byDraws 6 false (0, 0) sx G0 41 [some (.ref 32), some (.int a0), some (.int b0), some (.int c0), some (.int d0), none, none, none] [] σ1 (qI Q) := by
    intro  σ1  h
    subst e41
    replace h := h
    refine X_iload_n dX1_byDraws_41 rfl rfl ?_
    refine X_istore (L' := [some (.ref 32), some (.int a0), some (.int b0), some (.int c0), some (.int d0), some (.int a0), none, none]) dX1_byDraws_42 (by decide) rfl ?_
    refine X_iconst (v := 0) dX1_byDraws_44 iconst_0 ?_
    refine X_istore (L' := [some (.ref 32), some (.int a0), some (.int b0), some (.int c0), some (.int d0), some (.int a0), some (.int (0 : Int32)), none]) dX1_byDraws_45 (by decide) rfl ?_
    refine X_iconst (v := 0) dX1_byDraws_47 iconst_0 ?_
    refine X_istore (L' := [some (.ref 32), some (.int a0), some (.int b0), some (.int c0), some (.int d0), some (.int a0), some (.int (0 : Int32)), some (.int (0 : Int32))]) dX1_byDraws_48 (by decide) rfl ?_
    obtain ⟨n50, h⟩ := h
    have key50 : ∀ (n : Nat) (x2 : Int32) (x3 : Int32) (x4 : Int32) (σ5 : Sg) , w_X1_byDraws_l50 b0 c0 d0 Q n x2 x3 x4 σ5 → Ex mX1_byDraws 6 false (0, 0) sx G0 50 [some (.ref 32), none, some (.int b0), some (.int c0), some (.int d0), some (.int x2), some (.int x3), some (.int x4)] [] σ5 (qI Q) := by
      intro n50
      induction n50 with
      | zero => intro _ _ _ _  h; exact h.elim
      | succ n50 ih50 =>
        intro x2 x3 x4 σ5  h
        unfold w_X1_byDraws_l50 at h
        refine X_iload dX1_byDraws_50 rfl ?_
        refine X_iload_n dX1_byDraws_52 rfl rfl ?_
        refine X_icmp_ge (tgt := 103) dX1_byDraws_53 (by decide) h (fun h => ?_) (fun h => ?_)
        · refine X_iload dX1_byDraws_103 rfl ?_
          exact X_reti rfl dX1_byDraws_105 h
        · refine X_aload_n dX1_byDraws_56 rfl rfl ?_
          refine X_iload dX1_byDraws_57 rfl ?_
          refine X_iload_n dX1_byDraws_59 rfl rfl ?_
          refine X_callVi [.int x2, .int c0] [] c_X1_drawYear v_X1_drawYear lk_X1_111 dX1_byDraws_60 g_32 rfl rfl rfl (by decide) (Nat.le_of_ble_eq_true rfl) rfl (s_X1_drawYear sx x2 c0  σ5 _ h) (fun r7 σ6 h => ?_)
          refine X_istore (L' := [some (.ref 32), none, some (.int b0), some (.int c0), some (.int d0), some (.int r7), some (.int x3), some (.int x4)]) dX1_byDraws_63 (by decide) rfl ?_
          refine X_iload dX1_byDraws_65 rfl ?_
          refine X_iload dX1_byDraws_67 rfl ?_
          refine X_iconst (v := -1) dX1_byDraws_69 iconst_m1 ?_
          refine bd_j h (fun J94 e94 h => ?_)
          have j94 : ∀ (x8 : Int32) (x9 : Int32) (σ10 : Sg) , J94 x8 x9 σ10 → Ex mX1_byDraws 6 false (0, 0) sx G0 94 [some (.ref 32), none, some (.int b0), some (.int c0), some (.int d0), some (.int r7), none, some (.int x4)] [.int x9, .int x8] σ10 (qI Q) := by
            intro x8 x9 σ10  h
            subst e94
            replace h := h
            refine X_iadd dX1_byDraws_94 ?_
            refine X_topI h (fun x11 h => ?_)
            refine X_istore (L' := [some (.ref 32), none, some (.int b0), some (.int c0), some (.int d0), some (.int r7), some (.int x11), some (.int x4)]) dX1_byDraws_95 (by decide) rfl ?_
            refine X_iinc (v := (x4 + 1)) (L' := [some (.ref 32), none, some (.int b0), some (.int c0), some (.int d0), some (.int r7), some (.int x11), some (.int (x4 + 1))]) dX1_byDraws_97 rfl rfl (by decide) rfl ?_
            refine X_goto (tgt := 50) dX1_byDraws_100 (by decide) ?_
            exact ih50 _ _ _ _  h
          refine X_icmp_ne (tgt := 80) dX1_byDraws_70 (by decide) h (fun h => ?_) (fun h => ?_)
          · refine X_aload_n dX1_byDraws_80 rfl rfl ?_
            refine X_aload_n dX1_byDraws_81 rfl rfl ?_
            refine X_get (v := .ref 1) ck_X1 f_X1_23 g_32 rfl (fun _ => rfl) dX1_byDraws_82 ?_
            refine X_get (v := .ref 6) ck_X7 f_X1_83 g_1 rfl (fun _ => rfl) dX1_byDraws_85 ?_
            refine X_iload dX1_byDraws_88 rfl ?_
            refine X_iald g_6 dX1_byDraws_90 h (fun h => ?_)
            refine X_callVi [.int (σ6.1 6 (Int32.toNatClampNeg d0))] [.int x3] c_X1_carriagesAt v_X1_carriagesAt lk_X1_117 dX1_byDraws_91 g_32 rfl rfl rfl (by decide) (Nat.le_of_ble_eq_true rfl) rfl (s_X1_carriagesAt sx (σ6.1 6 (Int32.toNatClampNeg d0))  σ6 _ h) (fun r13 σ12 h => ?_)
            refine X_drop (L' := [some (.ref 32), none, some (.int b0), some (.int c0), some (.int d0), some (.int r7), none, some (.int x4)]) ⟨rfl, ⟨rfl, ⟨rfl, ⟨rfl, ⟨rfl, ⟨rfl, trivial⟩⟩⟩⟩⟩⟩ ?_
            exact j94 _ _ _  h
          · refine X_aload_n dX1_byDraws_73 rfl rfl ?_
            refine X_callVi [] [.int x3] c_X1_placesReached v_X1_placesReached lk_X1_114 dX1_byDraws_74 g_32 rfl rfl rfl (by decide) (Nat.le_of_ble_eq_true rfl) rfl (s_X1_placesReached sx   σ6 _ h) (fun r15 σ14 h => ?_)
            refine X_goto (tgt := 94) dX1_byDraws_77 (by decide) ?_
            refine X_drop (L' := [some (.ref 32), none, some (.int b0), some (.int c0), some (.int d0), some (.int r7), none, some (.int x4)]) ⟨rfl, ⟨rfl, ⟨rfl, ⟨rfl, ⟨rfl, ⟨rfl, trivial⟩⟩⟩⟩⟩⟩ ?_
            exact j94 _ _ _  h
    refine X_drop (L' := [some (.ref 32), none, some (.int b0), some (.int c0), some (.int d0), some (.int a0), some (.int (0 : Int32)), some (.int (0 : Int32))]) ⟨rfl, ⟨rfl, ⟨rfl, ⟨rfl, ⟨rfl, ⟨rfl, ⟨rfl, trivial⟩⟩⟩⟩⟩⟩⟩ ?_
    exact key50 _ _ _ _ _  h
  obtain ⟨n3, h⟩ := h
  have key3 : ∀ (n : Nat) (x16 : Int32) (σ17 : Sg) , w_X1_byDraws_l3 J41 n x16 σ17 → Ex mX1_byDraws 6 false (0, 0) sx G0 3 [some (.ref 32), some (.int a0), some (.int b0), some (.int c0), some (.int d0), some (.int x16), none, none] [] σ17 (qI Q) := by
    intro n3
    induction n3 with
    | zero => intro _ _  h; exact h.elim
    | succ n3 ih3 =>
      intro x16 σ17  h
      unfold w_X1_byDraws_l3 at h
      refine X_iload dX1_byDraws_3 rfl ?_
      refine X_aload_n dX1_byDraws_5 rfl rfl ?_
      refine X_get (v := .ref 1) ck_X1 f_X1_23 g_32 rfl (fun _ => rfl) dX1_byDraws_6 ?_
      refine X_get (v := .int (σ17.1 1 4)) ck_X7 f_X1_108 g_1 rfl (fun _ => rfl) dX1_byDraws_9 ?_
      refine X_icmp_ge (tgt := 41) dX1_byDraws_12 (by decide) h (fun h => ?_) (fun h => ?_)
      · refine X_drop (L' := [some (.ref 32), some (.int a0), some (.int b0), some (.int c0), some (.int d0), none, none, none]) ⟨rfl, ⟨rfl, ⟨rfl, ⟨rfl, ⟨rfl, trivial⟩⟩⟩⟩⟩ ?_
        exact j41 _  h
      · refine X_aload_n dX1_byDraws_15 rfl rfl ?_
        refine X_get (v := .ref 15) ck_X1 f_X1_27 g_32 rfl (fun _ => rfl) dX1_byDraws_16 ?_
        refine X_iload dX1_byDraws_19 rfl ?_
        have hk18 := vp_lt h.1
        refine X_aald g_15 (Or.inl rfl) dX1_byDraws_21 h (fun q => g_coaches (vp_lt q)) (fun h => ?_)
        refine X_aload_n dX1_byDraws_22 rfl rfl ?_
        refine X_get (v := .ref 1) ck_X1 f_X1_23 g_32 rfl (fun _ => rfl) dX1_byDraws_23 ?_
        refine X_get (v := .ref 4) ck_X7 f_X1_31 g_1 rfl (fun _ => rfl) dX1_byDraws_26 ?_
        refine X_iload dX1_byDraws_29 rfl ?_
        refine X_iald g_4 dX1_byDraws_31 h (fun h => ?_)
        refine X_callVv [.int (σ17.1 4 (Int32.toNatClampNeg x16))] [] c_X3_start v_X3_start lk_X1_36 dX1_byDraws_32 (g_coach hk18) rfl rfl rfl (by decide) (Nat.le_of_ble_eq_true rfl) rfl (s_X3_start sx (Int32.toNatClampNeg x16) (σ17.1 4 (Int32.toNatClampNeg x16)) hk18 σ17 _ h) (fun  σ19 h => ?_)
        refine X_iinc (v := (x16 + 1)) (L' := [some (.ref 32), some (.int a0), some (.int b0), some (.int c0), some (.int d0), some (.int (x16 + 1)), none, none]) dX1_byDraws_35 rfl rfl (by decide) rfl ?_
        refine X_goto (tgt := 3) dX1_byDraws_38 (by decide) ?_
        exact ih3 _ _  h
  exact key3 _ _ _  h
def w_X2_note (a0 : Int32) (b0 : Int32) (c0 : Int32) (d0 : Int32) (σ : Sg) (Q : Sg → Prop) : Prop := bd (fun (σ1 : Sg) => bd ((4 : Int32) * (σ1.1 36 2)) fun x2 => vp_in x2 160 ∧ bd (sI σ1 37 (Int32.toNatClampNeg x2) a0) fun σ3 => vp_in (x2 + (1 : Int32)) 160 ∧ bd (sI σ3 37 (Int32.toNatClampNeg (x2 + (1 : Int32))) b0) fun σ4 => vp_in (x2 + (2 : Int32)) 160 ∧ bd (sI σ4 37 (Int32.toNatClampNeg (x2 + (2 : Int32))) c0) fun σ5 => vp_in (x2 + (3 : Int32)) 160 ∧ bd (sI σ5 37 (Int32.toNatClampNeg (x2 + (3 : Int32))) d0) fun σ6 => bd (sI σ6 36 2 ((σ6.1 36 2) + (1 : Int32))) fun σ7 => bd (sI σ7 36 3 (σ7.1 36 2)) fun σ8 => Q σ8) fun J31 => if (σ.1 36 2) < (40 : Int32) then (J31 σ) else (cpIn (4 : Int32) (0 : Int32) (156 : Int32) 160 160 ∧ bd (sIr σ 37 (va_cpy (σ.1 37) (σ.1 37) (Int32.toNatClampNeg (4 : Int32)) (Int32.toNatClampNeg (0 : Int32)) (Int32.toNatClampNeg (156 : Int32)))) fun σ9 => bd (sI σ9 36 2 (39 : Int32)) fun σ10 => J31 σ10)
set_option maxRecDepth 100000 in
set_option maxHeartbeats 4000000 in
theorem s_X2_note (sx : Nat × (Nat → Int32)) (a0 : Int32) (b0 : Int32) (c0 : Int32) (d0 : Int32) (σ : Sg) (Q : Sg → Prop) (h : w_X2_note a0 b0 c0 d0 σ Q) : Ct mX2_note 1 false (0, 0) sx G0 [.ref 36, .int a0, .int b0, .int c0, .int d0] σ (qV Q) := by
  refine Ct.of (L := [some (.ref 36), some (.int a0), some (.int b0), some (.int c0), some (.int d0), none]) (by decide) (Nat.le_of_ble_eq_true rfl) rfl ?_
  unfold w_X2_note at h
  refine X_aload_n dX2_note_0 rfl rfl ?_
  refine X_get (v := .int (σ.1 36 2)) ck_X2 f_X2_19 g_36 rfl (fun _ => rfl) dX2_note_1 ?_
  refine X_bipush (v := 40) dX2_note_4 bipush_40 ?_
  refine bd_j h (fun J31 e31 h => ?_)
  have j31 : ∀ (σ1 : Sg) , J31  σ1 → Ex mX2_note 1 false (0, 0) sx G0 31 [some (.ref 36), some (.int a0), some (.int b0), some (.int c0), some (.int d0), none] [] σ1 (qV Q) := by
    intro  σ1  h
    subst e31
    replace h := h
    refine X_iconst (v := 4) dX2_note_31 iconst_4 ?_
    refine X_aload_n dX2_note_32 rfl rfl ?_
    refine X_get (v := .int (σ1.1 36 2)) ck_X2 f_X2_19 g_36 rfl (fun _ => rfl) dX2_note_33 ?_
    refine X_imul dX2_note_36 ?_
    refine X_topI h (fun x2 h => ?_)
    refine X_istore (L' := [some (.ref 36), some (.int a0), some (.int b0), some (.int c0), some (.int d0), some (.int x2)]) dX2_note_37 (by decide) rfl ?_
    refine X_aload_n dX2_note_39 rfl rfl ?_
    refine X_get (v := .ref 37) ck_X2 f_X2_11 g_36 rfl (fun _ => rfl) dX2_note_40 ?_
    refine X_iload dX2_note_43 rfl ?_
    refine X_iload_n dX2_note_45 rfl rfl ?_
    refine X_iast g_37 dX2_note_46 h (fun σ3 h => ?_)
    refine X_aload_n dX2_note_47 rfl rfl ?_
    refine X_get (v := .ref 37) ck_X2 f_X2_11 g_36 rfl (fun _ => rfl) dX2_note_48 ?_
    refine X_iload dX2_note_51 rfl ?_
    refine X_iconst (v := 1) dX2_note_53 iconst_1 ?_
    refine X_iadd dX2_note_54 ?_
    refine X_iload_n dX2_note_55 rfl rfl ?_
    refine X_iast g_37 dX2_note_56 h (fun σ4 h => ?_)
    refine X_aload_n dX2_note_57 rfl rfl ?_
    refine X_get (v := .ref 37) ck_X2 f_X2_11 g_36 rfl (fun _ => rfl) dX2_note_58 ?_
    refine X_iload dX2_note_61 rfl ?_
    refine X_iconst (v := 2) dX2_note_63 iconst_2 ?_
    refine X_iadd dX2_note_64 ?_
    refine X_iload_n dX2_note_65 rfl rfl ?_
    refine X_iast g_37 dX2_note_66 h (fun σ5 h => ?_)
    refine X_aload_n dX2_note_67 rfl rfl ?_
    refine X_get (v := .ref 37) ck_X2 f_X2_11 g_36 rfl (fun _ => rfl) dX2_note_68 ?_
    refine X_iload dX2_note_71 rfl ?_
    refine X_iconst (v := 3) dX2_note_73 iconst_3 ?_
    refine X_iadd dX2_note_74 ?_
    refine X_iload dX2_note_75 rfl ?_
    refine X_iast g_37 dX2_note_77 h (fun σ6 h => ?_)
    refine X_aload_n dX2_note_78 rfl rfl ?_
    refine X_dup dX2_note_79 rfl ?_
    refine X_get (v := .int (σ6.1 36 2)) ck_X2 f_X2_19 g_36 rfl (fun _ => rfl) dX2_note_80 ?_
    refine X_iconst (v := 1) dX2_note_83 iconst_1 ?_
    refine X_iadd dX2_note_84 ?_
    refine X_putI ck_X2 f_X2_19 rfl g_36 rfl rfl rfl dX2_note_85 h (fun σ7 h => ?_)
    refine X_aload_n dX2_note_88 rfl rfl ?_
    refine X_aload_n dX2_note_89 rfl rfl ?_
    refine X_get (v := .int (σ7.1 36 2)) ck_X2 f_X2_19 g_36 rfl (fun _ => rfl) dX2_note_90 ?_
    refine X_putI ck_X2 f_X2_29 rfl g_36 rfl rfl rfl dX2_note_93 h (fun σ8 h => ?_)
    exact X_retv rfl dX2_note_96 h
  refine X_icmp_lt (tgt := 31) dX2_note_6 (by decide) h (fun h => ?_) (fun h => ?_)
  · exact j31 _  h
  · refine X_aload_n dX2_note_9 rfl rfl ?_
    refine X_get (v := .ref 37) ck_X2 f_X2_11 g_36 rfl (fun _ => rfl) dX2_note_10 ?_
    refine X_iconst (v := 4) dX2_note_13 iconst_4 ?_
    refine X_aload_n dX2_note_14 rfl rfl ?_
    refine X_get (v := .ref 37) ck_X2 f_X2_11 g_36 rfl (fun _ => rfl) dX2_note_15 ?_
    refine X_iconst (v := 0) dX2_note_18 iconst_0 ?_
    refine X_sipush (v := 156) dX2_note_19 sipush_156 ?_
    refine X_copyI g_37 g_37 lk_X2_23 cpw dX2_note_22 (by decide) (Nat.le_of_ble_eq_true rfl) h (fun σ9 h => ?_)
    refine X_aload_n dX2_note_25 rfl rfl ?_
    refine X_bipush (v := 39) dX2_note_26 bipush_39 ?_
    refine X_putI ck_X2 f_X2_19 rfl g_36 rfl rfl rfl dX2_note_28 h (fun σ10 h => ?_)
    exact j31 _  h
def w_X7_write (a0 : Int32) (b0 : Int32) (c0 : Int32) (σ : Sg) (Q : Sg → Prop) : Prop := if b0 = (0 : Int32) then (vp_in a0 6 ∧ bd (sI σ 2 (Int32.toNatClampNeg a0) c0) fun σ1 => Q σ1) else (if b0 = (1 : Int32) then (vp_in a0 6 ∧ bd (sI σ 3 (Int32.toNatClampNeg a0) c0) fun σ2 => Q σ2) else (if b0 = (2 : Int32) then (vp_in a0 6 ∧ bd (sI σ 4 (Int32.toNatClampNeg a0) c0) fun σ3 => Q σ3) else (if b0 = (3 : Int32) then (vp_in a0 6 ∧ bd (sI σ 5 (Int32.toNatClampNeg a0) c0) fun σ4 => Q σ4) else (if b0 = (4 : Int32) then (vp_in a0 8 ∧ bd (sI σ 6 (Int32.toNatClampNeg a0) c0) fun σ5 => Q σ5) else (if b0 = (5 : Int32) then (vp_in a0 8 ∧ bd (sI σ 7 (Int32.toNatClampNeg a0) c0) fun σ6 => Q σ6) else (if b0 = (6 : Int32) then (bd (sI σ 1 8 c0) fun σ7 => Q σ7) else (if b0 = (7 : Int32) then (bd (sI σ 1 9 c0) fun σ8 => Q σ8) else (bd (sI σ 1 10 c0) fun σ9 => Q σ9))))))))
set_option maxRecDepth 100000 in
set_option maxHeartbeats 4000000 in
theorem s_X7_write (sx : Nat × (Nat → Int32)) (a0 : Int32) (b0 : Int32) (c0 : Int32) (σ : Sg) (Q : Sg → Prop) (h : w_X7_write a0 b0 c0 σ Q) : Ct mX7_write 0 false (0, 0) sx G0 [.ref 1, .int a0, .int b0, .int c0] σ (qV Q) := by
  refine Ct.of (L := [some (.ref 1), some (.int a0), some (.int b0), some (.int c0)]) (by decide) (Nat.le_of_ble_eq_true rfl) rfl ?_
  unfold w_X7_write at h
  refine X_iload_n dX7_write_0 rfl rfl ?_
  by_cases hc1_0 : b0 = (0 : Int32)
  · replace h := if_t h hc1_0
    refine X_tableIn (tgt := 48) dX7_write_1 (by rw [hc1_0] <;> decide) (by rw [hc1_0] <;> decide) (by rw [hc1_0] <;> rfl) (by decide) ?_
    refine X_aload_n dX7_write_48 rfl rfl ?_
    refine X_get (v := .ref 2) ck_X7 f_X7_9 g_1 rfl (fun _ => rfl) dX7_write_49 ?_
    refine X_iload_n dX7_write_52 rfl rfl ?_
    refine X_iload_n dX7_write_53 rfl rfl ?_
    refine X_iast g_2 dX7_write_54 h (fun σ1 h => ?_)
    refine X_goto (tgt := 129) dX7_write_55 (by decide) ?_
    exact X_retv rfl dX7_write_129 h
  replace h := if_f h hc1_0
  by_cases hc1_1 : b0 = (1 : Int32)
  · replace h := if_t h hc1_1
    refine X_tableIn (tgt := 58) dX7_write_1 (by rw [hc1_1] <;> decide) (by rw [hc1_1] <;> decide) (by rw [hc1_1] <;> rfl) (by decide) ?_
    refine X_aload_n dX7_write_58 rfl rfl ?_
    refine X_get (v := .ref 3) ck_X7 f_X7_15 g_1 rfl (fun _ => rfl) dX7_write_59 ?_
    refine X_iload_n dX7_write_62 rfl rfl ?_
    refine X_iload_n dX7_write_63 rfl rfl ?_
    refine X_iast g_3 dX7_write_64 h (fun σ2 h => ?_)
    refine X_goto (tgt := 129) dX7_write_65 (by decide) ?_
    exact X_retv rfl dX7_write_129 h
  replace h := if_f h hc1_1
  by_cases hc1_2 : b0 = (2 : Int32)
  · replace h := if_t h hc1_2
    refine X_tableIn (tgt := 68) dX7_write_1 (by rw [hc1_2] <;> decide) (by rw [hc1_2] <;> decide) (by rw [hc1_2] <;> rfl) (by decide) ?_
    refine X_aload_n dX7_write_68 rfl rfl ?_
    refine X_get (v := .ref 4) ck_X7 f_X7_18 g_1 rfl (fun _ => rfl) dX7_write_69 ?_
    refine X_iload_n dX7_write_72 rfl rfl ?_
    refine X_iload_n dX7_write_73 rfl rfl ?_
    refine X_iast g_4 dX7_write_74 h (fun σ3 h => ?_)
    refine X_goto (tgt := 129) dX7_write_75 (by decide) ?_
    exact X_retv rfl dX7_write_129 h
  replace h := if_f h hc1_2
  by_cases hc1_3 : b0 = (3 : Int32)
  · replace h := if_t h hc1_3
    refine X_tableIn (tgt := 78) dX7_write_1 (by rw [hc1_3] <;> decide) (by rw [hc1_3] <;> decide) (by rw [hc1_3] <;> rfl) (by decide) ?_
    refine X_aload_n dX7_write_78 rfl rfl ?_
    refine X_get (v := .ref 5) ck_X7 f_X7_21 g_1 rfl (fun _ => rfl) dX7_write_79 ?_
    refine X_iload_n dX7_write_82 rfl rfl ?_
    refine X_iload_n dX7_write_83 rfl rfl ?_
    refine X_iast g_5 dX7_write_84 h (fun σ4 h => ?_)
    refine X_goto (tgt := 129) dX7_write_85 (by decide) ?_
    exact X_retv rfl dX7_write_129 h
  replace h := if_f h hc1_3
  by_cases hc1_4 : b0 = (4 : Int32)
  · replace h := if_t h hc1_4
    refine X_tableIn (tgt := 88) dX7_write_1 (by rw [hc1_4] <;> decide) (by rw [hc1_4] <;> decide) (by rw [hc1_4] <;> rfl) (by decide) ?_
    refine X_aload_n dX7_write_88 rfl rfl ?_
    refine X_get (v := .ref 6) ck_X7 f_X7_24 g_1 rfl (fun _ => rfl) dX7_write_89 ?_
    refine X_iload_n dX7_write_92 rfl rfl ?_
    refine X_iload_n dX7_write_93 rfl rfl ?_
    refine X_iast g_6 dX7_write_94 h (fun σ5 h => ?_)
    refine X_goto (tgt := 129) dX7_write_95 (by decide) ?_
    exact X_retv rfl dX7_write_129 h
  replace h := if_f h hc1_4
  by_cases hc1_5 : b0 = (5 : Int32)
  · replace h := if_t h hc1_5
    refine X_tableIn (tgt := 98) dX7_write_1 (by rw [hc1_5] <;> decide) (by rw [hc1_5] <;> decide) (by rw [hc1_5] <;> rfl) (by decide) ?_
    refine X_aload_n dX7_write_98 rfl rfl ?_
    refine X_get (v := .ref 7) ck_X7 f_X7_27 g_1 rfl (fun _ => rfl) dX7_write_99 ?_
    refine X_iload_n dX7_write_102 rfl rfl ?_
    refine X_iload_n dX7_write_103 rfl rfl ?_
    refine X_iast g_7 dX7_write_104 h (fun σ6 h => ?_)
    refine X_goto (tgt := 129) dX7_write_105 (by decide) ?_
    exact X_retv rfl dX7_write_129 h
  replace h := if_f h hc1_5
  by_cases hc1_6 : b0 = (6 : Int32)
  · replace h := if_t h hc1_6
    refine X_tableIn (tgt := 108) dX7_write_1 (by rw [hc1_6] <;> decide) (by rw [hc1_6] <;> decide) (by rw [hc1_6] <;> rfl) (by decide) ?_
    refine X_aload_n dX7_write_108 rfl rfl ?_
    refine X_iload_n dX7_write_109 rfl rfl ?_
    refine X_putI ck_X7 f_X7_30 rfl g_1 rfl rfl rfl dX7_write_110 h (fun σ7 h => ?_)
    refine X_goto (tgt := 129) dX7_write_113 (by decide) ?_
    exact X_retv rfl dX7_write_129 h
  replace h := if_f h hc1_6
  by_cases hc1_7 : b0 = (7 : Int32)
  · replace h := if_t h hc1_7
    refine X_tableIn (tgt := 116) dX7_write_1 (by rw [hc1_7] <;> decide) (by rw [hc1_7] <;> decide) (by rw [hc1_7] <;> rfl) (by decide) ?_
    refine X_aload_n dX7_write_116 rfl rfl ?_
    refine X_iload_n dX7_write_117 rfl rfl ?_
    refine X_putI ck_X7 f_X7_70 rfl g_1 rfl rfl rfl dX7_write_118 h (fun σ8 h => ?_)
    refine X_goto (tgt := 129) dX7_write_121 (by decide) ?_
    exact X_retv rfl dX7_write_129 h
  replace h := if_f h hc1_7
  refine X_tableOut (tgt := 124) dX7_write_1 (tbl_out (fun j h1 h2 e => ?_)) (by decide) ?_
  · rcases (show j = 0 ∨ j = 1 ∨ j = 2 ∨ j = 3 ∨ j = 4 ∨ j = 5 ∨ j = 6 ∨ j = 7 by omega) with rfl | rfl | rfl | rfl | rfl | rfl | rfl | rfl
    · exact ne_toInt hc1_0 e
    · exact ne_toInt hc1_1 e
    · exact ne_toInt hc1_2 e
    · exact ne_toInt hc1_3 e
    · exact ne_toInt hc1_4 e
    · exact ne_toInt hc1_5 e
    · exact ne_toInt hc1_6 e
    · exact ne_toInt hc1_7 e
  refine X_aload_n dX7_write_124 rfl rfl ?_
  refine X_iload_n dX7_write_125 rfl rfl ?_
  refine X_putI ck_X7 f_X7_73 rfl g_1 rfl rfl rfl dX7_write_126 h (fun σ9 h => ?_)
  exact X_retv rfl dX7_write_129 h
def w_X2_takeBack (σ : Sg) (Q : Int32 → Sg → Prop) : Prop := if (σ.1 36 2) = 0 then (Q (-5 : Int32) σ) else (bd (sI σ 36 2 ((σ.1 36 2) - (1 : Int32))) fun σ1 => bd ((4 : Int32) * (σ1.1 36 2)) fun x2 => vp_in x2 160 ∧ vp_in (x2 + (1 : Int32)) 160 ∧ vp_in (x2 + (2 : Int32)) 160 ∧ w_X7_write (σ1.1 37 (Int32.toNatClampNeg x2)) (σ1.1 37 (Int32.toNatClampNeg (x2 + (1 : Int32)))) (σ1.1 37 (Int32.toNatClampNeg (x2 + (2 : Int32)))) σ1 (fun  σ3 => Q (σ3.1 36 2) σ3))
set_option maxRecDepth 100000 in
set_option maxHeartbeats 4000000 in
theorem s_X2_takeBack (sx : Nat × (Nat → Int32)) (σ : Sg) (Q : Int32 → Sg → Prop) (h : w_X2_takeBack σ Q) : Ct mX2_takeBack 1 false (0, 0) sx G0 [.ref 36] σ (qI Q) := by
  refine Ct.of (L := [some (.ref 36), none]) (by decide) (Nat.le_of_ble_eq_true rfl) rfl ?_
  unfold w_X2_takeBack at h
  refine X_aload_n dX2_takeBack_0 rfl rfl ?_
  refine X_get (v := .int (σ.1 36 2)) ck_X2 f_X2_19 g_36 rfl (fun _ => rfl) dX2_takeBack_1 ?_
  refine X_if_ne (tgt := 10) dX2_takeBack_4 (by decide) h (fun h => ?_) (fun h => ?_)
  · refine X_aload_n dX2_takeBack_10 rfl rfl ?_
    refine X_dup dX2_takeBack_11 rfl ?_
    refine X_get (v := .int (σ.1 36 2)) ck_X2 f_X2_19 g_36 rfl (fun _ => rfl) dX2_takeBack_12 ?_
    refine X_iconst (v := 1) dX2_takeBack_15 iconst_1 ?_
    refine X_isub dX2_takeBack_16 ?_
    refine X_putI ck_X2 f_X2_19 rfl g_36 rfl rfl rfl dX2_takeBack_17 h (fun σ1 h => ?_)
    refine X_iconst (v := 4) dX2_takeBack_20 iconst_4 ?_
    refine X_aload_n dX2_takeBack_21 rfl rfl ?_
    refine X_get (v := .int (σ1.1 36 2)) ck_X2 f_X2_19 g_36 rfl (fun _ => rfl) dX2_takeBack_22 ?_
    refine X_imul dX2_takeBack_25 ?_
    refine X_topI h (fun x2 h => ?_)
    refine X_istore_n (L' := [some (.ref 36), some (.int x2)]) dX2_takeBack_26 rfl (by decide) rfl ?_
    refine X_aload_n dX2_takeBack_27 rfl rfl ?_
    refine X_get (v := .ref 1) ck_X2 f_X2_15 g_36 rfl (fun _ => rfl) dX2_takeBack_28 ?_
    refine X_aload_n dX2_takeBack_31 rfl rfl ?_
    refine X_get (v := .ref 37) ck_X2 f_X2_11 g_36 rfl (fun _ => rfl) dX2_takeBack_32 ?_
    refine X_iload_n dX2_takeBack_35 rfl rfl ?_
    refine X_iald g_37 dX2_takeBack_36 h (fun h => ?_)
    refine X_aload_n dX2_takeBack_37 rfl rfl ?_
    refine X_get (v := .ref 37) ck_X2 f_X2_11 g_36 rfl (fun _ => rfl) dX2_takeBack_38 ?_
    refine X_iload_n dX2_takeBack_41 rfl rfl ?_
    refine X_iconst (v := 1) dX2_takeBack_42 iconst_1 ?_
    refine X_iadd dX2_takeBack_43 ?_
    refine X_iald g_37 dX2_takeBack_44 h (fun h => ?_)
    refine X_aload_n dX2_takeBack_45 rfl rfl ?_
    refine X_get (v := .ref 37) ck_X2 f_X2_11 g_36 rfl (fun _ => rfl) dX2_takeBack_46 ?_
    refine X_iload_n dX2_takeBack_49 rfl rfl ?_
    refine X_iconst (v := 2) dX2_takeBack_50 iconst_2 ?_
    refine X_iadd dX2_takeBack_51 ?_
    refine X_iald g_37 dX2_takeBack_52 h (fun h => ?_)
    refine X_callVv [.int (σ1.1 37 (Int32.toNatClampNeg x2)), .int (σ1.1 37 (Int32.toNatClampNeg (x2 + (1 : Int32)))), .int (σ1.1 37 (Int32.toNatClampNeg (x2 + (2 : Int32))))] [] c_X7_write v_X7_write lk_X2_32 dX2_takeBack_53 g_1 rfl rfl rfl (by decide) (Nat.le_of_ble_eq_true rfl) rfl (s_X7_write sx (σ1.1 37 (Int32.toNatClampNeg x2)) (σ1.1 37 (Int32.toNatClampNeg (x2 + (1 : Int32)))) (σ1.1 37 (Int32.toNatClampNeg (x2 + (2 : Int32))))  σ1 _ h) (fun  σ3 h => ?_)
    refine X_aload_n dX2_takeBack_56 rfl rfl ?_
    refine X_get (v := .int (σ3.1 36 2)) ck_X2 f_X2_19 g_36 rfl (fun _ => rfl) dX2_takeBack_57 ?_
    exact X_reti rfl dX2_takeBack_60 h
  · refine X_bipush (v := -5) dX2_takeBack_7 bipush_m5 ?_
    exact X_reti rfl dX2_takeBack_9 h
def w_X2_doAgain (σ : Sg) (Q : Int32 → Sg → Prop) : Prop := if (σ.1 36 2) = (σ.1 36 3) then (Q (-5 : Int32) σ) else (bd ((4 : Int32) * (σ.1 36 2)) fun x1 => vp_in x1 160 ∧ vp_in (x1 + (1 : Int32)) 160 ∧ vp_in (x1 + (3 : Int32)) 160 ∧ w_X7_write (σ.1 37 (Int32.toNatClampNeg x1)) (σ.1 37 (Int32.toNatClampNeg (x1 + (1 : Int32)))) (σ.1 37 (Int32.toNatClampNeg (x1 + (3 : Int32)))) σ (fun  σ2 => bd (sI σ2 36 2 ((σ2.1 36 2) + (1 : Int32))) fun σ3 => Q ((σ3.1 36 3) - (σ3.1 36 2)) σ3))
set_option maxRecDepth 100000 in
set_option maxHeartbeats 4000000 in
theorem s_X2_doAgain (sx : Nat × (Nat → Int32)) (σ : Sg) (Q : Int32 → Sg → Prop) (h : w_X2_doAgain σ Q) : Ct mX2_doAgain 1 false (0, 0) sx G0 [.ref 36] σ (qI Q) := by
  refine Ct.of (L := [some (.ref 36), none]) (by decide) (Nat.le_of_ble_eq_true rfl) rfl ?_
  unfold w_X2_doAgain at h
  refine X_aload_n dX2_doAgain_0 rfl rfl ?_
  refine X_get (v := .int (σ.1 36 2)) ck_X2 f_X2_19 g_36 rfl (fun _ => rfl) dX2_doAgain_1 ?_
  refine X_aload_n dX2_doAgain_4 rfl rfl ?_
  refine X_get (v := .int (σ.1 36 3)) ck_X2 f_X2_29 g_36 rfl (fun _ => rfl) dX2_doAgain_5 ?_
  refine X_icmp_ne (tgt := 14) dX2_doAgain_8 (by decide) h (fun h => ?_) (fun h => ?_)
  · refine X_iconst (v := 4) dX2_doAgain_14 iconst_4 ?_
    refine X_aload_n dX2_doAgain_15 rfl rfl ?_
    refine X_get (v := .int (σ.1 36 2)) ck_X2 f_X2_19 g_36 rfl (fun _ => rfl) dX2_doAgain_16 ?_
    refine X_imul dX2_doAgain_19 ?_
    refine X_topI h (fun x1 h => ?_)
    refine X_istore_n (L' := [some (.ref 36), some (.int x1)]) dX2_doAgain_20 rfl (by decide) rfl ?_
    refine X_aload_n dX2_doAgain_21 rfl rfl ?_
    refine X_get (v := .ref 1) ck_X2 f_X2_15 g_36 rfl (fun _ => rfl) dX2_doAgain_22 ?_
    refine X_aload_n dX2_doAgain_25 rfl rfl ?_
    refine X_get (v := .ref 37) ck_X2 f_X2_11 g_36 rfl (fun _ => rfl) dX2_doAgain_26 ?_
    refine X_iload_n dX2_doAgain_29 rfl rfl ?_
    refine X_iald g_37 dX2_doAgain_30 h (fun h => ?_)
    refine X_aload_n dX2_doAgain_31 rfl rfl ?_
    refine X_get (v := .ref 37) ck_X2 f_X2_11 g_36 rfl (fun _ => rfl) dX2_doAgain_32 ?_
    refine X_iload_n dX2_doAgain_35 rfl rfl ?_
    refine X_iconst (v := 1) dX2_doAgain_36 iconst_1 ?_
    refine X_iadd dX2_doAgain_37 ?_
    refine X_iald g_37 dX2_doAgain_38 h (fun h => ?_)
    refine X_aload_n dX2_doAgain_39 rfl rfl ?_
    refine X_get (v := .ref 37) ck_X2 f_X2_11 g_36 rfl (fun _ => rfl) dX2_doAgain_40 ?_
    refine X_iload_n dX2_doAgain_43 rfl rfl ?_
    refine X_iconst (v := 3) dX2_doAgain_44 iconst_3 ?_
    refine X_iadd dX2_doAgain_45 ?_
    refine X_iald g_37 dX2_doAgain_46 h (fun h => ?_)
    refine X_callVv [.int (σ.1 37 (Int32.toNatClampNeg x1)), .int (σ.1 37 (Int32.toNatClampNeg (x1 + (1 : Int32)))), .int (σ.1 37 (Int32.toNatClampNeg (x1 + (3 : Int32))))] [] c_X7_write v_X7_write lk_X2_32 dX2_doAgain_47 g_1 rfl rfl rfl (by decide) (Nat.le_of_ble_eq_true rfl) rfl (s_X7_write sx (σ.1 37 (Int32.toNatClampNeg x1)) (σ.1 37 (Int32.toNatClampNeg (x1 + (1 : Int32)))) (σ.1 37 (Int32.toNatClampNeg (x1 + (3 : Int32))))  σ _ h) (fun  σ2 h => ?_)
    refine X_aload_n dX2_doAgain_50 rfl rfl ?_
    refine X_dup dX2_doAgain_51 rfl ?_
    refine X_get (v := .int (σ2.1 36 2)) ck_X2 f_X2_19 g_36 rfl (fun _ => rfl) dX2_doAgain_52 ?_
    refine X_iconst (v := 1) dX2_doAgain_55 iconst_1 ?_
    refine X_iadd dX2_doAgain_56 ?_
    refine X_putI ck_X2 f_X2_19 rfl g_36 rfl rfl rfl dX2_doAgain_57 h (fun σ3 h => ?_)
    refine X_aload_n dX2_doAgain_60 rfl rfl ?_
    refine X_get (v := .int (σ3.1 36 3)) ck_X2 f_X2_29 g_36 rfl (fun _ => rfl) dX2_doAgain_61 ?_
    refine X_aload_n dX2_doAgain_64 rfl rfl ?_
    refine X_get (v := .int (σ3.1 36 2)) ck_X2 f_X2_19 g_36 rfl (fun _ => rfl) dX2_doAgain_65 ?_
    refine X_isub dX2_doAgain_68 ?_
    exact X_reti rfl dX2_doAgain_69 h
  · refine X_bipush (v := -5) dX2_doAgain_11 bipush_m5 ?_
    exact X_reti rfl dX2_doAgain_13 h
def w_X4_passHour_l2 (J134 : Sg → Prop) : Nat → Int32 → Sg → Prop
  | 0, _, _ => False
  | n2 + 1, x4, σ5 => if (σ5.1 1 4) ≤ x4 then (J134 σ5) else (vp_in x4 6 ∧ vp_in x4 6 ∧ w_X3_start (Int32.toNatClampNeg x4) (σ5.1 4 (Int32.toNatClampNeg x4)) σ5 (fun  σ7 => w_X3_standNow (Int32.toNatClampNeg x4) σ7 (fun r9 σ8 => w_X3_next (Int32.toNatClampNeg x4) r9 (0 : Int32) (0 : Int32) σ8 (fun r11 σ10 => vp_in x4 6 ∧ bd (sI σ10 2 (Int32.toNatClampNeg x4) (r11 >>> ((3 : Int32) &&& 31))) fun σ12 => vp_in x4 6 ∧ bd (sI σ12 3 (Int32.toNatClampNeg x4) (r11 &&& (7 : Int32))) fun σ13 => vp_in x4 6 ∧ vp_in x4 6 ∧ bd (sI σ13 5 (Int32.toNatClampNeg x4) (imax (0 : Int32) ((σ13.1 5 (Int32.toNatClampNeg x4)) - (1 : Int32)))) fun σ14 => bd (sI σ14 39 (Int32.toNatClampNeg (1 : Int32)) ((σ14.1 39 (Int32.toNatClampNeg (1 : Int32))) + (σ14.1 (16 + 2 * (Int32.toNatClampNeg x4)) 6))) fun σ15 => w_X7_placesNear (r11 >>> ((3 : Int32) &&& 31)) σ15 (fun r17 σ16 => w_J6_bitCount_0f7a4 r17 σ16 (fun r19 σ18 => bd (sI σ18 39 (Int32.toNatClampNeg (4 : Int32)) ((σ15.1 39 (Int32.toNatClampNeg (4 : Int32))) + r19)) fun σ20 => w_X4_passHour_l2 J134 n2 (x4 + 1) σ20))))))
def w_X4_passHour (σ : Sg) (Q : Sg → Prop) : Prop := bd (fun (σ1 : Sg) => bd (sI σ1 1 10 (imin (99 : Int32) ((σ1.1 1 10) + (1 : Int32)))) fun σ2 => bd (sI σ2 39 (Int32.toNatClampNeg (0 : Int32)) ((σ2.1 39 (Int32.toNatClampNeg (0 : Int32))) + (1 : Int32))) fun σ3 => Q σ3) fun J134 => ∃ n, w_X4_passHour_l2 J134 n (0 : Int32) σ
set_option maxRecDepth 100000 in
set_option maxHeartbeats 4000000 in
theorem s_X4_passHour (sx : Nat × (Nat → Int32)) (σ : Sg) (Q : Sg → Prop) (h : w_X4_passHour σ Q) : Ct mX4_passHour 5 false (0, 0) sx G0 [.ref 38] σ (qV Q) := by
  refine Ct.of (L := [some (.ref 38), none, none, none]) (by decide) (Nat.le_of_ble_eq_true rfl) rfl ?_
  unfold w_X4_passHour at h
  refine X_iconst (v := 0) dX4_passHour_0 iconst_0 ?_
  refine X_istore_n (L' := [some (.ref 38), some (.int (0 : Int32)), none, none]) dX4_passHour_1 rfl (by decide) rfl ?_
  refine bd_j h (fun J134 e134 h => ?_)
  have j134 : ∀ (σ1 : Sg) , J134  σ1 → Ex mX4_passHour 5 false (0, 0) sx G0 134 [some (.ref 38), none, none, none] [] σ1 (qV Q) := by
    intro  σ1  h
    subst e134
    replace h := h
    refine X_aload_n dX4_passHour_134 rfl rfl ?_
    refine X_get (v := .ref 1) ck_X4 f_X4_31 g_38 rfl (fun _ => rfl) dX4_passHour_135 ?_
    refine X_bipush (v := 99) dX4_passHour_138 bipush_99 ?_
    refine X_aload_n dX4_passHour_140 rfl rfl ?_
    refine X_get (v := .ref 1) ck_X4 f_X4_31 g_38 rfl (fun _ => rfl) dX4_passHour_141 ?_
    refine X_get (v := .int (σ1.1 1 10)) ck_X7 f_X4_88 g_1 rfl (fun _ => rfl) dX4_passHour_144 ?_
    refine X_iconst (v := 1) dX4_passHour_147 iconst_1 ?_
    refine X_iadd dX4_passHour_148 ?_
    refine X_mmin lk_X4_91 dX4_passHour_149 (by decide) (Nat.le_of_ble_eq_true rfl) ?_
    refine X_putI ck_X7 f_X4_88 rfl g_1 rfl rfl rfl dX4_passHour_152 h (fun σ2 h => ?_)
    refine X_aload_n dX4_passHour_155 rfl rfl ?_
    refine X_get (v := .ref 39) ck_X4 f_X4_11 g_38 rfl (fun _ => rfl) dX4_passHour_156 ?_
    refine X_iconst (v := 0) dX4_passHour_159 iconst_0 ?_
    refine X_dup2 dX4_passHour_160 rfl rfl ?_
    refine X_iald g_39 dX4_passHour_161 ⟨(by unfold vp_in; decide), h⟩ (fun h => ?_)
    refine X_iconst (v := 1) dX4_passHour_162 iconst_1 ?_
    refine X_iadd dX4_passHour_163 ?_
    refine X_iast g_39 dX4_passHour_164 ⟨(by unfold vp_in; decide), h⟩ (fun σ3 h => ?_)
    exact X_retv rfl dX4_passHour_165 h
  obtain ⟨n2, h⟩ := h
  have key2 : ∀ (n : Nat) (x4 : Int32) (σ5 : Sg) , w_X4_passHour_l2 J134 n x4 σ5 → Ex mX4_passHour 5 false (0, 0) sx G0 2 [some (.ref 38), some (.int x4), none, none] [] σ5 (qV Q) := by
    intro n2
    induction n2 with
    | zero => intro _ _  h; exact h.elim
    | succ n2 ih2 =>
      intro x4 σ5  h
      unfold w_X4_passHour_l2 at h
      refine X_iload_n dX4_passHour_2 rfl rfl ?_
      refine X_aload_n dX4_passHour_3 rfl rfl ?_
      refine X_get (v := .ref 1) ck_X4 f_X4_31 g_38 rfl (fun _ => rfl) dX4_passHour_4 ?_
      refine X_get (v := .int (σ5.1 1 4)) ck_X7 f_X4_39 g_1 rfl (fun _ => rfl) dX4_passHour_7 ?_
      refine X_icmp_ge (tgt := 134) dX4_passHour_10 (by decide) h (fun h => ?_) (fun h => ?_)
      · refine X_drop (L' := [some (.ref 38), none, none, none]) ⟨rfl, trivial⟩ ?_
        exact j134 _  h
      · refine X_aload_n dX4_passHour_13 rfl rfl ?_
        refine X_get (v := .ref 15) ck_X4 f_X4_35 g_38 rfl (fun _ => rfl) dX4_passHour_14 ?_
        refine X_iload_n dX4_passHour_17 rfl rfl ?_
        have hk6 := vp_lt h.1
        refine X_aald g_15 (Or.inl rfl) dX4_passHour_18 h (fun q => g_coaches (vp_lt q)) (fun h => ?_)
        refine X_astore_n (L' := [some (.ref 38), some (.int x4), some (.ref (16 + 2 * (Int32.toNatClampNeg x4))), none]) dX4_passHour_19 rfl (by decide) rfl ?_
        refine X_aload_n dX4_passHour_20 rfl rfl ?_
        refine X_aload_n dX4_passHour_21 rfl rfl ?_
        refine X_get (v := .ref 1) ck_X4 f_X4_31 g_38 rfl (fun _ => rfl) dX4_passHour_22 ?_
        refine X_get (v := .ref 4) ck_X7 f_X4_44 g_1 rfl (fun _ => rfl) dX4_passHour_25 ?_
        refine X_iload_n dX4_passHour_28 rfl rfl ?_
        refine X_iald g_4 dX4_passHour_29 h (fun h => ?_)
        refine X_callVv [.int (σ5.1 4 (Int32.toNatClampNeg x4))] [] c_X3_start v_X3_start lk_X4_47 dX4_passHour_30 (g_coach hk6) rfl rfl rfl (by decide) (Nat.le_of_ble_eq_true rfl) rfl (s_X3_start sx (Int32.toNatClampNeg x4) (σ5.1 4 (Int32.toNatClampNeg x4)) hk6 σ5 _ h) (fun  σ7 h => ?_)
        refine X_aload_n dX4_passHour_33 rfl rfl ?_
        refine X_aload_n dX4_passHour_34 rfl rfl ?_
        refine X_callVi [] [.ref (16 + 2 * (Int32.toNatClampNeg x4))] c_X3_standNow v_X3_standNow lk_X4_53 dX4_passHour_35 (g_coach hk6) rfl rfl rfl (by decide) (Nat.le_of_ble_eq_true rfl) rfl (s_X3_standNow sx (Int32.toNatClampNeg x4) hk6 σ7 _ h) (fun r9 σ8 h => ?_)
        refine X_iconst (v := 0) dX4_passHour_38 iconst_0 ?_
        refine X_iconst (v := 0) dX4_passHour_39 iconst_0 ?_
        refine X_callVi [.int r9, .int (0 : Int32), .int (0 : Int32)] [] c_X3_next v_X3_next lk_X4_57 dX4_passHour_40 (g_coach hk6) rfl rfl rfl (by decide) (Nat.le_of_ble_eq_true rfl) rfl (s_X3_next sx (Int32.toNatClampNeg x4) r9 (0 : Int32) (0 : Int32) hk6 σ8 _ h) (fun r11 σ10 h => ?_)
        refine X_istore_n (L' := [some (.ref 38), some (.int x4), some (.ref (16 + 2 * (Int32.toNatClampNeg x4))), some (.int r11)]) dX4_passHour_43 rfl (by decide) rfl ?_
        refine X_aload_n dX4_passHour_44 rfl rfl ?_
        refine X_get (v := .ref 1) ck_X4 f_X4_31 g_38 rfl (fun _ => rfl) dX4_passHour_45 ?_
        refine X_get (v := .ref 2) ck_X7 f_X4_61 g_1 rfl (fun _ => rfl) dX4_passHour_48 ?_
        refine X_iload_n dX4_passHour_51 rfl rfl ?_
        refine X_iload_n dX4_passHour_52 rfl rfl ?_
        refine X_iconst (v := 3) dX4_passHour_53 iconst_3 ?_
        refine X_ishr dX4_passHour_54 ?_
        refine X_iast g_2 dX4_passHour_55 h (fun σ12 h => ?_)
        refine X_aload_n dX4_passHour_56 rfl rfl ?_
        refine X_get (v := .ref 1) ck_X4 f_X4_31 g_38 rfl (fun _ => rfl) dX4_passHour_57 ?_
        refine X_get (v := .ref 3) ck_X7 f_X4_64 g_1 rfl (fun _ => rfl) dX4_passHour_60 ?_
        refine X_iload_n dX4_passHour_63 rfl rfl ?_
        refine X_iload_n dX4_passHour_64 rfl rfl ?_
        refine X_bipush (v := 7) dX4_passHour_65 bipush_7 ?_
        refine X_iand dX4_passHour_67 ?_
        refine X_iast g_3 dX4_passHour_68 h (fun σ13 h => ?_)
        refine X_aload_n dX4_passHour_69 rfl rfl ?_
        refine X_get (v := .ref 1) ck_X4 f_X4_31 g_38 rfl (fun _ => rfl) dX4_passHour_70 ?_
        refine X_get (v := .ref 5) ck_X7 f_X4_67 g_1 rfl (fun _ => rfl) dX4_passHour_73 ?_
        refine X_iload_n dX4_passHour_76 rfl rfl ?_
        refine X_iconst (v := 0) dX4_passHour_77 iconst_0 ?_
        refine X_aload_n dX4_passHour_78 rfl rfl ?_
        refine X_get (v := .ref 1) ck_X4 f_X4_31 g_38 rfl (fun _ => rfl) dX4_passHour_79 ?_
        refine X_get (v := .ref 5) ck_X7 f_X4_67 g_1 rfl (fun _ => rfl) dX4_passHour_82 ?_
        refine X_iload_n dX4_passHour_85 rfl rfl ?_
        refine X_iald g_5 dX4_passHour_86 h (fun h => ?_)
        refine X_iconst (v := 1) dX4_passHour_87 iconst_1 ?_
        refine X_isub dX4_passHour_88 ?_
        refine X_mmax lk_X4_70 dX4_passHour_89 (by decide) (Nat.le_of_ble_eq_true rfl) ?_
        refine X_iast g_5 dX4_passHour_92 h (fun σ14 h => ?_)
        refine X_aload_n dX4_passHour_93 rfl rfl ?_
        refine X_get (v := .ref 39) ck_X4 f_X4_11 g_38 rfl (fun _ => rfl) dX4_passHour_94 ?_
        refine X_iconst (v := 1) dX4_passHour_97 iconst_1 ?_
        refine X_dup2 dX4_passHour_98 rfl rfl ?_
        refine X_iald g_39 dX4_passHour_99 ⟨(by unfold vp_in; decide), h⟩ (fun h => ?_)
        refine X_aload_n dX4_passHour_100 rfl rfl ?_
        refine X_get (v := .int (σ14.1 (16 + 2 * (Int32.toNatClampNeg x4)) 6)) ck_X3 f_X4_76 (g_coach hk6) rfl (fun _ => rfl) dX4_passHour_101 ?_
        refine X_iadd dX4_passHour_104 ?_
        refine X_iast g_39 dX4_passHour_105 ⟨(by unfold vp_in; decide), h⟩ (fun σ15 h => ?_)
        refine X_aload_n dX4_passHour_106 rfl rfl ?_
        refine X_get (v := .ref 39) ck_X4 f_X4_11 g_38 rfl (fun _ => rfl) dX4_passHour_107 ?_
        refine X_iconst (v := 4) dX4_passHour_110 iconst_4 ?_
        refine X_dup2 dX4_passHour_111 rfl rfl ?_
        refine X_iald g_39 dX4_passHour_112 ⟨(by unfold vp_in; decide), h⟩ (fun h => ?_)
        refine X_aload_n dX4_passHour_113 rfl rfl ?_
        refine X_get (v := .ref 1) ck_X4 f_X4_31 g_38 rfl (fun _ => rfl) dX4_passHour_114 ?_
        refine X_iload_n dX4_passHour_117 rfl rfl ?_
        refine X_iconst (v := 3) dX4_passHour_118 iconst_3 ?_
        refine X_ishr dX4_passHour_119 ?_
        refine X_callVi [.int (r11 >>> ((3 : Int32) &&& 31))] [.int (σ15.1 39 (Int32.toNatClampNeg (4 : Int32))), .int (4 : Int32), .ref 39] c_X7_placesNear v_X7_placesNear lk_X4_79 dX4_passHour_120 g_1 rfl rfl rfl (by decide) (Nat.le_of_ble_eq_true rfl) rfl (s_X7_placesNear sx (r11 >>> ((3 : Int32) &&& 31))  σ15 _ h) (fun r17 σ16 h => ?_)
        refine X_callSi [.int r17] [.int (σ15.1 39 (Int32.toNatClampNeg (4 : Int32))), .int (4 : Int32), .ref 39] c_J6_bitCount_0f7a4 t_J6_bitCount_0f7a4 lk_X4_83 dX4_passHour_123 rfl (by decide) (Nat.le_of_ble_eq_true rfl) rfl (s_J6_bitCount_0f7a4 sx r17  σ16 _ h) (fun r19 σ18 h => ?_)
        refine X_iadd dX4_passHour_126 ?_
        refine X_iast g_39 dX4_passHour_127 ⟨(by unfold vp_in; decide), h⟩ (fun σ20 h => ?_)
        refine X_iinc (v := (x4 + 1)) (L' := [some (.ref 38), some (.int (x4 + 1)), some (.ref (16 + 2 * (Int32.toNatClampNeg x4))), some (.int r11)]) dX4_passHour_128 rfl rfl (by decide) rfl ?_
        refine X_goto (tgt := 2) dX4_passHour_131 (by decide) ?_
        refine X_drop (L' := [some (.ref 38), some (.int (x4 + 1)), none, none]) ⟨rfl, ⟨rfl, trivial⟩⟩ ?_
        exact ih2 _ _  h
  exact key2 _ _ _  h
def w_X4_pullRein (a0 : Int32) (b0 : Int32) (σ : Sg) (Q : Int32 → Sg → Prop) : Prop := vp_in a0 6 ∧ vp_in a0 6 ∧ bd (sI σ 3 (Int32.toNatClampNeg a0) (((σ.1 3 (Int32.toNatClampNeg a0)) + b0) &&& (7 : Int32))) fun σ1 => bd (sI σ1 39 (Int32.toNatClampNeg (2 : Int32)) ((σ1.1 39 (Int32.toNatClampNeg (2 : Int32))) + (1 : Int32))) fun σ2 => vp_in a0 6 ∧ Q (σ2.1 3 (Int32.toNatClampNeg a0)) σ2
set_option maxRecDepth 100000 in
set_option maxHeartbeats 4000000 in
theorem s_X4_pullRein (sx : Nat × (Nat → Int32)) (a0 : Int32) (b0 : Int32) (σ : Sg) (Q : Int32 → Sg → Prop) (h : w_X4_pullRein a0 b0 σ Q) : Ct mX4_pullRein 0 false (0, 0) sx G0 [.ref 38, .int a0, .int b0] σ (qI Q) := by
  refine Ct.of (L := [some (.ref 38), some (.int a0), some (.int b0)]) (by decide) (Nat.le_of_ble_eq_true rfl) rfl ?_
  unfold w_X4_pullRein at h
  refine X_aload_n dX4_pullRein_0 rfl rfl ?_
  refine X_get (v := .ref 1) ck_X4 f_X4_31 g_38 rfl (fun _ => rfl) dX4_pullRein_1 ?_
  refine X_get (v := .ref 3) ck_X7 f_X4_64 g_1 rfl (fun _ => rfl) dX4_pullRein_4 ?_
  refine X_iload_n dX4_pullRein_7 rfl rfl ?_
  refine X_aload_n dX4_pullRein_8 rfl rfl ?_
  refine X_get (v := .ref 1) ck_X4 f_X4_31 g_38 rfl (fun _ => rfl) dX4_pullRein_9 ?_
  refine X_get (v := .ref 3) ck_X7 f_X4_64 g_1 rfl (fun _ => rfl) dX4_pullRein_12 ?_
  refine X_iload_n dX4_pullRein_15 rfl rfl ?_
  refine X_iald g_3 dX4_pullRein_16 h (fun h => ?_)
  refine X_iload_n dX4_pullRein_17 rfl rfl ?_
  refine X_iadd dX4_pullRein_18 ?_
  refine X_bipush (v := 7) dX4_pullRein_19 bipush_7 ?_
  refine X_iand dX4_pullRein_21 ?_
  refine X_iast g_3 dX4_pullRein_22 h (fun σ1 h => ?_)
  refine X_aload_n dX4_pullRein_23 rfl rfl ?_
  refine X_get (v := .ref 39) ck_X4 f_X4_11 g_38 rfl (fun _ => rfl) dX4_pullRein_24 ?_
  refine X_iconst (v := 2) dX4_pullRein_27 iconst_2 ?_
  refine X_dup2 dX4_pullRein_28 rfl rfl ?_
  refine X_iald g_39 dX4_pullRein_29 ⟨(by unfold vp_in; decide), h⟩ (fun h => ?_)
  refine X_iconst (v := 1) dX4_pullRein_30 iconst_1 ?_
  refine X_iadd dX4_pullRein_31 ?_
  refine X_iast g_39 dX4_pullRein_32 ⟨(by unfold vp_in; decide), h⟩ (fun σ2 h => ?_)
  refine X_aload_n dX4_pullRein_33 rfl rfl ?_
  refine X_get (v := .ref 1) ck_X4 f_X4_31 g_38 rfl (fun _ => rfl) dX4_pullRein_34 ?_
  refine X_get (v := .ref 3) ck_X7 f_X4_64 g_1 rfl (fun _ => rfl) dX4_pullRein_37 ?_
  refine X_iload_n dX4_pullRein_40 rfl rfl ?_
  refine X_iald g_3 dX4_pullRein_41 h (fun h => ?_)
  exact X_reti rfl dX4_pullRein_42 h
def w_X4_putShoe (a0 : Int32) (σ : Sg) (Q : Int32 → Sg → Prop) : Prop := vp_in a0 6 ∧ bd (σ.1 5 (Int32.toNatClampNeg a0)) fun x1 => vp_in a0 6 ∧ bd (sI σ 5 (Int32.toNatClampNeg a0) (9 : Int32)) fun σ2 => bd (sI σ2 39 (Int32.toNatClampNeg (3 : Int32)) ((σ2.1 39 (Int32.toNatClampNeg (3 : Int32))) + (1 : Int32))) fun σ3 => Q x1 σ3
set_option maxRecDepth 100000 in
set_option maxHeartbeats 4000000 in
theorem s_X4_putShoe (sx : Nat × (Nat → Int32)) (a0 : Int32) (σ : Sg) (Q : Int32 → Sg → Prop) (h : w_X4_putShoe a0 σ Q) : Ct mX4_putShoe 0 false (0, 0) sx G0 [.ref 38, .int a0] σ (qI Q) := by
  refine Ct.of (L := [some (.ref 38), some (.int a0), none]) (by decide) (Nat.le_of_ble_eq_true rfl) rfl ?_
  unfold w_X4_putShoe at h
  refine X_aload_n dX4_putShoe_0 rfl rfl ?_
  refine X_get (v := .ref 1) ck_X4 f_X4_31 g_38 rfl (fun _ => rfl) dX4_putShoe_1 ?_
  refine X_get (v := .ref 5) ck_X7 f_X4_67 g_1 rfl (fun _ => rfl) dX4_putShoe_4 ?_
  refine X_iload_n dX4_putShoe_7 rfl rfl ?_
  refine X_iald g_5 dX4_putShoe_8 h (fun h => ?_)
  refine X_topI h (fun x1 h => ?_)
  refine X_istore_n (L' := [some (.ref 38), some (.int a0), some (.int x1)]) dX4_putShoe_9 rfl (by decide) rfl ?_
  refine X_aload_n dX4_putShoe_10 rfl rfl ?_
  refine X_get (v := .ref 1) ck_X4 f_X4_31 g_38 rfl (fun _ => rfl) dX4_putShoe_11 ?_
  refine X_get (v := .ref 5) ck_X7 f_X4_67 g_1 rfl (fun _ => rfl) dX4_putShoe_14 ?_
  refine X_iload_n dX4_putShoe_17 rfl rfl ?_
  refine X_bipush (v := 9) dX4_putShoe_18 bipush_9 ?_
  refine X_iast g_5 dX4_putShoe_20 h (fun σ2 h => ?_)
  refine X_aload_n dX4_putShoe_21 rfl rfl ?_
  refine X_get (v := .ref 39) ck_X4 f_X4_11 g_38 rfl (fun _ => rfl) dX4_putShoe_22 ?_
  refine X_iconst (v := 3) dX4_putShoe_25 iconst_3 ?_
  refine X_dup2 dX4_putShoe_26 rfl rfl ?_
  refine X_iald g_39 dX4_putShoe_27 ⟨(by unfold vp_in; decide), h⟩ (fun h => ?_)
  refine X_iconst (v := 1) dX4_putShoe_28 iconst_1 ?_
  refine X_iadd dX4_putShoe_29 ?_
  refine X_iast g_39 dX4_putShoe_30 ⟨(by unfold vp_in; decide), h⟩ (fun σ3 h => ?_)
  refine X_iload_n dX4_putShoe_31 rfl rfl ?_
  exact X_reti rfl dX4_putShoe_32 h
def w_X4_keepImage (σ : Sg) (Q : Int32 → Sg → Prop) : Prop := bd (sI σ 38 3 (σ.1 1 4)) fun σ1 => bd (sI σ1 38 4 (σ1.1 1 10)) fun σ2 => cpIn (0 : Int32) (0 : Int32) (6 : Int32) 6 6 ∧ bd (sIr σ2 40 (va_cpy (σ2.1 2) (σ2.1 40) (Int32.toNatClampNeg (0 : Int32)) (Int32.toNatClampNeg (0 : Int32)) (Int32.toNatClampNeg (6 : Int32)))) fun σ3 => cpIn (0 : Int32) (0 : Int32) (6 : Int32) 6 6 ∧ bd (sIr σ3 41 (va_cpy (σ3.1 3) (σ3.1 41) (Int32.toNatClampNeg (0 : Int32)) (Int32.toNatClampNeg (0 : Int32)) (Int32.toNatClampNeg (6 : Int32)))) fun σ4 => cpIn (0 : Int32) (0 : Int32) (6 : Int32) 6 6 ∧ bd (sIr σ4 42 (va_cpy (σ4.1 5) (σ4.1 42) (Int32.toNatClampNeg (0 : Int32)) (Int32.toNatClampNeg (0 : Int32)) (Int32.toNatClampNeg (6 : Int32)))) fun σ5 => cpIn (0 : Int32) (0 : Int32) (5 : Int32) 5 5 ∧ bd (sIr σ5 43 (va_cpy (σ5.1 39) (σ5.1 43) (Int32.toNatClampNeg (0 : Int32)) (Int32.toNatClampNeg (0 : Int32)) (Int32.toNatClampNeg (5 : Int32)))) fun σ6 => Q (σ6.1 39 (Int32.toNatClampNeg (0 : Int32))) σ6
set_option maxRecDepth 100000 in
set_option maxHeartbeats 4000000 in
theorem s_X4_keepImage (sx : Nat × (Nat → Int32)) (σ : Sg) (Q : Int32 → Sg → Prop) (h : w_X4_keepImage σ Q) : Ct mX4_keepImage 1 false (0, 0) sx G0 [.ref 38] σ (qI Q) := by
  refine Ct.of (L := [some (.ref 38)]) (by decide) (Nat.le_of_ble_eq_true rfl) rfl ?_
  unfold w_X4_keepImage at h
  refine X_aload_n dX4_keepImage_0 rfl rfl ?_
  refine X_aload_n dX4_keepImage_1 rfl rfl ?_
  refine X_get (v := .ref 1) ck_X4 f_X4_31 g_38 rfl (fun _ => rfl) dX4_keepImage_2 ?_
  refine X_get (v := .int (σ.1 1 4)) ck_X7 f_X4_39 g_1 rfl (fun _ => rfl) dX4_keepImage_5 ?_
  refine X_putI ck_X4 f_X4_15 rfl g_38 rfl rfl rfl dX4_keepImage_8 h (fun σ1 h => ?_)
  refine X_aload_n dX4_keepImage_11 rfl rfl ?_
  refine X_aload_n dX4_keepImage_12 rfl rfl ?_
  refine X_get (v := .ref 1) ck_X4 f_X4_31 g_38 rfl (fun _ => rfl) dX4_keepImage_13 ?_
  refine X_get (v := .int (σ1.1 1 10)) ck_X7 f_X4_88 g_1 rfl (fun _ => rfl) dX4_keepImage_16 ?_
  refine X_putI ck_X4 f_X4_94 rfl g_38 rfl rfl rfl dX4_keepImage_19 h (fun σ2 h => ?_)
  refine X_aload_n dX4_keepImage_22 rfl rfl ?_
  refine X_get (v := .ref 1) ck_X4 f_X4_31 g_38 rfl (fun _ => rfl) dX4_keepImage_23 ?_
  refine X_get (v := .ref 2) ck_X7 f_X4_61 g_1 rfl (fun _ => rfl) dX4_keepImage_26 ?_
  refine X_iconst (v := 0) dX4_keepImage_29 iconst_0 ?_
  refine X_aload_n dX4_keepImage_30 rfl rfl ?_
  refine X_get (v := .ref 40) ck_X4 f_X4_19 g_38 rfl (fun _ => rfl) dX4_keepImage_31 ?_
  refine X_iconst (v := 0) dX4_keepImage_34 iconst_0 ?_
  refine X_bipush (v := 6) dX4_keepImage_35 bipush_6 ?_
  refine X_copyI g_2 g_40 lk_X4_97 cpw dX4_keepImage_37 (by decide) (Nat.le_of_ble_eq_true rfl) h (fun σ3 h => ?_)
  refine X_aload_n dX4_keepImage_40 rfl rfl ?_
  refine X_get (v := .ref 1) ck_X4 f_X4_31 g_38 rfl (fun _ => rfl) dX4_keepImage_41 ?_
  refine X_get (v := .ref 3) ck_X7 f_X4_64 g_1 rfl (fun _ => rfl) dX4_keepImage_44 ?_
  refine X_iconst (v := 0) dX4_keepImage_47 iconst_0 ?_
  refine X_aload_n dX4_keepImage_48 rfl rfl ?_
  refine X_get (v := .ref 41) ck_X4 f_X4_22 g_38 rfl (fun _ => rfl) dX4_keepImage_49 ?_
  refine X_iconst (v := 0) dX4_keepImage_52 iconst_0 ?_
  refine X_bipush (v := 6) dX4_keepImage_53 bipush_6 ?_
  refine X_copyI g_3 g_41 lk_X4_97 cpw dX4_keepImage_55 (by decide) (Nat.le_of_ble_eq_true rfl) h (fun σ4 h => ?_)
  refine X_aload_n dX4_keepImage_58 rfl rfl ?_
  refine X_get (v := .ref 1) ck_X4 f_X4_31 g_38 rfl (fun _ => rfl) dX4_keepImage_59 ?_
  refine X_get (v := .ref 5) ck_X7 f_X4_67 g_1 rfl (fun _ => rfl) dX4_keepImage_62 ?_
  refine X_iconst (v := 0) dX4_keepImage_65 iconst_0 ?_
  refine X_aload_n dX4_keepImage_66 rfl rfl ?_
  refine X_get (v := .ref 42) ck_X4 f_X4_25 g_38 rfl (fun _ => rfl) dX4_keepImage_67 ?_
  refine X_iconst (v := 0) dX4_keepImage_70 iconst_0 ?_
  refine X_bipush (v := 6) dX4_keepImage_71 bipush_6 ?_
  refine X_copyI g_5 g_42 lk_X4_97 cpw dX4_keepImage_73 (by decide) (Nat.le_of_ble_eq_true rfl) h (fun σ5 h => ?_)
  refine X_aload_n dX4_keepImage_76 rfl rfl ?_
  refine X_get (v := .ref 39) ck_X4 f_X4_11 g_38 rfl (fun _ => rfl) dX4_keepImage_77 ?_
  refine X_iconst (v := 0) dX4_keepImage_80 iconst_0 ?_
  refine X_aload_n dX4_keepImage_81 rfl rfl ?_
  refine X_get (v := .ref 43) ck_X4 f_X4_28 g_38 rfl (fun _ => rfl) dX4_keepImage_82 ?_
  refine X_iconst (v := 0) dX4_keepImage_85 iconst_0 ?_
  refine X_iconst (v := 5) dX4_keepImage_86 iconst_5 ?_
  refine X_copyI g_39 g_43 lk_X4_97 cpw dX4_keepImage_87 (by decide) (Nat.le_of_ble_eq_true rfl) h (fun σ6 h => ?_)
  refine X_aload_n dX4_keepImage_90 rfl rfl ?_
  refine X_get (v := .ref 39) ck_X4 f_X4_11 g_38 rfl (fun _ => rfl) dX4_keepImage_91 ?_
  refine X_iconst (v := 0) dX4_keepImage_94 iconst_0 ?_
  refine X_iald g_39 dX4_keepImage_95 ⟨(by unfold vp_in; decide), h⟩ (fun h => ?_)
  exact X_reti rfl dX4_keepImage_96 h
def w_X4_layBack (σ : Sg) (Q : Int32 → Sg → Prop) : Prop := if (σ.1 38 3) = (-2 : Int32) then (Q (-5 : Int32) σ) else (bd (sI σ 1 10 (σ.1 38 4)) fun σ1 => cpIn (0 : Int32) (0 : Int32) (σ1.1 38 3) 6 6 ∧ bd (sIr σ1 2 (va_cpy (σ1.1 40) (σ1.1 2) (Int32.toNatClampNeg (0 : Int32)) (Int32.toNatClampNeg (0 : Int32)) (Int32.toNatClampNeg (σ1.1 38 3)))) fun σ2 => cpIn (0 : Int32) (0 : Int32) (σ2.1 38 3) 6 6 ∧ bd (sIr σ2 3 (va_cpy (σ2.1 41) (σ2.1 3) (Int32.toNatClampNeg (0 : Int32)) (Int32.toNatClampNeg (0 : Int32)) (Int32.toNatClampNeg (σ2.1 38 3)))) fun σ3 => cpIn (0 : Int32) (0 : Int32) (σ3.1 38 3) 6 6 ∧ bd (sIr σ3 5 (va_cpy (σ3.1 42) (σ3.1 5) (Int32.toNatClampNeg (0 : Int32)) (Int32.toNatClampNeg (0 : Int32)) (Int32.toNatClampNeg (σ3.1 38 3)))) fun σ4 => cpIn (0 : Int32) (0 : Int32) (5 : Int32) 5 5 ∧ bd (sIr σ4 39 (va_cpy (σ4.1 43) (σ4.1 39) (Int32.toNatClampNeg (0 : Int32)) (Int32.toNatClampNeg (0 : Int32)) (Int32.toNatClampNeg (5 : Int32)))) fun σ5 => Q (σ5.1 39 (Int32.toNatClampNeg (0 : Int32))) σ5)
set_option maxRecDepth 100000 in
set_option maxHeartbeats 4000000 in
theorem s_X4_layBack (sx : Nat × (Nat → Int32)) (σ : Sg) (Q : Int32 → Sg → Prop) (h : w_X4_layBack σ Q) : Ct mX4_layBack 1 false (0, 0) sx G0 [.ref 38] σ (qI Q) := by
  refine Ct.of (L := [some (.ref 38)]) (by decide) (Nat.le_of_ble_eq_true rfl) rfl ?_
  unfold w_X4_layBack at h
  refine X_aload_n dX4_layBack_0 rfl rfl ?_
  refine X_get (v := .int (σ.1 38 3)) ck_X4 f_X4_15 g_38 rfl (fun _ => rfl) dX4_layBack_1 ?_
  refine X_bipush (v := -2) dX4_layBack_4 bipush_m2 ?_
  refine X_icmp_ne (tgt := 12) dX4_layBack_6 (by decide) h (fun h => ?_) (fun h => ?_)
  · refine X_aload_n dX4_layBack_12 rfl rfl ?_
    refine X_get (v := .ref 1) ck_X4 f_X4_31 g_38 rfl (fun _ => rfl) dX4_layBack_13 ?_
    refine X_aload_n dX4_layBack_16 rfl rfl ?_
    refine X_get (v := .int (σ.1 38 4)) ck_X4 f_X4_94 g_38 rfl (fun _ => rfl) dX4_layBack_17 ?_
    refine X_putI ck_X7 f_X4_88 rfl g_1 rfl rfl rfl dX4_layBack_20 h (fun σ1 h => ?_)
    refine X_aload_n dX4_layBack_23 rfl rfl ?_
    refine X_get (v := .ref 40) ck_X4 f_X4_19 g_38 rfl (fun _ => rfl) dX4_layBack_24 ?_
    refine X_iconst (v := 0) dX4_layBack_27 iconst_0 ?_
    refine X_aload_n dX4_layBack_28 rfl rfl ?_
    refine X_get (v := .ref 1) ck_X4 f_X4_31 g_38 rfl (fun _ => rfl) dX4_layBack_29 ?_
    refine X_get (v := .ref 2) ck_X7 f_X4_61 g_1 rfl (fun _ => rfl) dX4_layBack_32 ?_
    refine X_iconst (v := 0) dX4_layBack_35 iconst_0 ?_
    refine X_aload_n dX4_layBack_36 rfl rfl ?_
    refine X_get (v := .int (σ1.1 38 3)) ck_X4 f_X4_15 g_38 rfl (fun _ => rfl) dX4_layBack_37 ?_
    refine X_copyI g_40 g_2 lk_X4_97 cpw dX4_layBack_40 (by decide) (Nat.le_of_ble_eq_true rfl) h (fun σ2 h => ?_)
    refine X_aload_n dX4_layBack_43 rfl rfl ?_
    refine X_get (v := .ref 41) ck_X4 f_X4_22 g_38 rfl (fun _ => rfl) dX4_layBack_44 ?_
    refine X_iconst (v := 0) dX4_layBack_47 iconst_0 ?_
    refine X_aload_n dX4_layBack_48 rfl rfl ?_
    refine X_get (v := .ref 1) ck_X4 f_X4_31 g_38 rfl (fun _ => rfl) dX4_layBack_49 ?_
    refine X_get (v := .ref 3) ck_X7 f_X4_64 g_1 rfl (fun _ => rfl) dX4_layBack_52 ?_
    refine X_iconst (v := 0) dX4_layBack_55 iconst_0 ?_
    refine X_aload_n dX4_layBack_56 rfl rfl ?_
    refine X_get (v := .int (σ2.1 38 3)) ck_X4 f_X4_15 g_38 rfl (fun _ => rfl) dX4_layBack_57 ?_
    refine X_copyI g_41 g_3 lk_X4_97 cpw dX4_layBack_60 (by decide) (Nat.le_of_ble_eq_true rfl) h (fun σ3 h => ?_)
    refine X_aload_n dX4_layBack_63 rfl rfl ?_
    refine X_get (v := .ref 42) ck_X4 f_X4_25 g_38 rfl (fun _ => rfl) dX4_layBack_64 ?_
    refine X_iconst (v := 0) dX4_layBack_67 iconst_0 ?_
    refine X_aload_n dX4_layBack_68 rfl rfl ?_
    refine X_get (v := .ref 1) ck_X4 f_X4_31 g_38 rfl (fun _ => rfl) dX4_layBack_69 ?_
    refine X_get (v := .ref 5) ck_X7 f_X4_67 g_1 rfl (fun _ => rfl) dX4_layBack_72 ?_
    refine X_iconst (v := 0) dX4_layBack_75 iconst_0 ?_
    refine X_aload_n dX4_layBack_76 rfl rfl ?_
    refine X_get (v := .int (σ3.1 38 3)) ck_X4 f_X4_15 g_38 rfl (fun _ => rfl) dX4_layBack_77 ?_
    refine X_copyI g_42 g_5 lk_X4_97 cpw dX4_layBack_80 (by decide) (Nat.le_of_ble_eq_true rfl) h (fun σ4 h => ?_)
    refine X_aload_n dX4_layBack_83 rfl rfl ?_
    refine X_get (v := .ref 43) ck_X4 f_X4_28 g_38 rfl (fun _ => rfl) dX4_layBack_84 ?_
    refine X_iconst (v := 0) dX4_layBack_87 iconst_0 ?_
    refine X_aload_n dX4_layBack_88 rfl rfl ?_
    refine X_get (v := .ref 39) ck_X4 f_X4_11 g_38 rfl (fun _ => rfl) dX4_layBack_89 ?_
    refine X_iconst (v := 0) dX4_layBack_92 iconst_0 ?_
    refine X_iconst (v := 5) dX4_layBack_93 iconst_5 ?_
    refine X_copyI g_43 g_39 lk_X4_97 cpw dX4_layBack_94 (by decide) (Nat.le_of_ble_eq_true rfl) h (fun σ5 h => ?_)
    refine X_aload_n dX4_layBack_97 rfl rfl ?_
    refine X_get (v := .ref 39) ck_X4 f_X4_11 g_38 rfl (fun _ => rfl) dX4_layBack_98 ?_
    refine X_iconst (v := 0) dX4_layBack_101 iconst_0 ?_
    refine X_iald g_39 dX4_layBack_102 ⟨(by unfold vp_in; decide), h⟩ (fun h => ?_)
    exact X_reti rfl dX4_layBack_103 h
  · refine X_bipush (v := -5) dX4_layBack_9 bipush_m5 ?_
    exact X_reti rfl dX4_layBack_11 h
def w_X6_cellBehind (a0 : Int32) (b0 : Int32) (σ : Sg) (Q : Int32 → Sg → Prop) : Prop := vp_in ((a0 * (61 : Int32)) + b0) 366 ∧ Q ((σ.1 29 (Int32.toNatClampNeg ((a0 * (61 : Int32)) + b0))) >>> ((3 : Int32) &&& 31)) σ
set_option maxRecDepth 100000 in
set_option maxHeartbeats 4000000 in
theorem s_X6_cellBehind (sx : Nat × (Nat → Int32)) (a0 : Int32) (b0 : Int32) (σ : Sg) (Q : Int32 → Sg → Prop) (h : w_X6_cellBehind a0 b0 σ Q) : Ct mX6_cellBehind 0 false (0, 0) sx G0 [.ref 28, .int a0, .int b0] σ (qI Q) := by
  refine Ct.of (L := [some (.ref 28), some (.int a0), some (.int b0)]) (by decide) (Nat.le_of_ble_eq_true rfl) rfl ?_
  unfold w_X6_cellBehind at h
  refine X_aload_n dX6_cellBehind_0 rfl rfl ?_
  refine X_get (v := .ref 29) ck_X6 f_X6_11 g_28 rfl (fun _ => rfl) dX6_cellBehind_1 ?_
  refine X_iload_n dX6_cellBehind_4 rfl rfl ?_
  refine X_bipush (v := 61) dX6_cellBehind_5 bipush_61 ?_
  refine X_imul dX6_cellBehind_7 ?_
  refine X_iload_n dX6_cellBehind_8 rfl rfl ?_
  refine X_iadd dX6_cellBehind_9 ?_
  refine X_iald g_29 dX6_cellBehind_10 h (fun h => ?_)
  refine X_iconst (v := 3) dX6_cellBehind_11 iconst_3 ?_
  refine X_ishr dX6_cellBehind_12 ?_
  exact X_reti rfl dX6_cellBehind_13 h
def w_X7_hasPlace (a0 : Int32) (σ : Sg) (Q : Int32 → Sg → Prop) : Prop := if a0 < 0 then (Q (0 : Int32) σ) else (if (σ.1 1 7) ≤ a0 then (Q (0 : Int32) σ) else (Q (1 : Int32) σ))
set_option maxRecDepth 100000 in
set_option maxHeartbeats 4000000 in
theorem s_X7_hasPlace (sx : Nat × (Nat → Int32)) (a0 : Int32) (σ : Sg) (Q : Int32 → Sg → Prop) (h : w_X7_hasPlace a0 σ Q) : Ct mX7_hasPlace 0 false (0, 0) sx G0 [.ref 1, .int a0] σ (qI Q) := by
  refine Ct.of (L := [some (.ref 1), some (.int a0)]) (by decide) (Nat.le_of_ble_eq_true rfl) rfl ?_
  unfold w_X7_hasPlace at h
  refine X_iload_n dX7_hasPlace_0 rfl rfl ?_
  refine X_if_lt (tgt := 16) dX7_hasPlace_1 (by decide) h (fun h => ?_) (fun h => ?_)
  · refine X_iconst (v := 0) dX7_hasPlace_16 iconst_0 ?_
    exact X_retz rfl rfl dX7_hasPlace_17 h
  · refine X_iload_n dX7_hasPlace_4 rfl rfl ?_
    refine X_aload_n dX7_hasPlace_5 rfl rfl ?_
    refine X_get (v := .int (σ.1 1 7)) ck_X7 f_X7_60 g_1 rfl (fun _ => rfl) dX7_hasPlace_6 ?_
    refine X_icmp_ge (tgt := 16) dX7_hasPlace_9 (by decide) h (fun h => ?_) (fun h => ?_)
    · refine X_iconst (v := 0) dX7_hasPlace_16 iconst_0 ?_
      exact X_retz rfl rfl dX7_hasPlace_17 h
    · refine X_iconst (v := 1) dX7_hasPlace_12 iconst_1 ?_
      refine X_goto (tgt := 17) dX7_hasPlace_13 (by decide) ?_
      exact X_retz rfl rfl dX7_hasPlace_17 h
def w_X5_isSo (a0 : Nat) (b0 : Int32) (c0 : Int32) (σ : Sg) (Q : Int32 → Sg → Prop) : Prop := if (((2 : Int32) * b0) + (1 : Int32)) < (σ.1 (45 + 2 * a0) 2) then (vp_in ((2 : Int32) * b0) 60 ∧ bd (Int64.toInt32 (σ.2 (46 + 2 * a0) (Int32.toNatClampNeg ((2 : Int32) * b0)))) fun x1 => vp_in (((2 : Int32) * b0) + (1 : Int32)) 60 ∧ bd (Int64.toInt32 (σ.2 (46 + 2 * a0) (Int32.toNatClampNeg (((2 : Int32) * b0) + (1 : Int32))))) fun x2 => w_X11_within x1 (0 : Int32) (60 : Int32) σ (fun r4 σ3 => if r4 = 0 then (Q (0 : Int32) σ3) else (w_X7_hasPlace x2 σ3 (fun r6 σ5 => if r6 = 0 then (Q (0 : Int32) σ5) else (w_X6_cellBehind c0 x1 σ5 (fun r8 σ7 => vp_in x2 8 ∧ w_X7_near r8 (σ7.1 6 (Int32.toNatClampNeg x2)) σ7 (fun r10 σ9 => if r10 = 0 then (Q (0 : Int32) σ9) else (Q (1 : Int32) σ9)))))))) else (Q (0 : Int32) σ)
set_option maxRecDepth 100000 in
set_option maxHeartbeats 4000000 in
theorem s_X5_isSo (sx : Nat × (Nat → Int32)) (a0 : Nat) (b0 : Int32) (c0 : Int32) (ha0 : a0 < 6) (σ : Sg) (Q : Int32 → Sg → Prop) (h : w_X5_isSo a0 b0 c0 σ Q) : Ct mX5_isSo 3 false (0, 0) sx G0 [.ref 31, .ref (45 + 2 * a0), .int b0, .int c0] σ (qI Q) := by
  refine Ct.of (L := [some (.ref 31), some (.ref (45 + 2 * a0)), some (.int b0), some (.int c0), none, none]) (by decide) (Nat.le_of_ble_eq_true rfl) rfl ?_
  unfold w_X5_isSo at h
  refine X_iconst (v := 2) dX5_isSo_0 iconst_2 ?_
  refine X_iload_n dX5_isSo_1 rfl rfl ?_
  refine X_imul dX5_isSo_2 ?_
  refine X_iconst (v := 1) dX5_isSo_3 iconst_1 ?_
  refine X_iadd dX5_isSo_4 ?_
  refine X_aload_n dX5_isSo_5 rfl rfl ?_
  refine X_get (v := .int (σ.1 (45 + 2 * a0) 2)) ck_X10 f_X5_66 (g_shelf ha0) rfl (fun _ => rfl) dX5_isSo_6 ?_
  refine X_icmp_lt (tgt := 14) dX5_isSo_9 (by decide) h (fun h => ?_) (fun h => ?_)
  · refine X_aload_n dX5_isSo_14 rfl rfl ?_
    refine X_get (v := .ref (46 + 2 * a0)) ck_X10 f_X5_78 (g_shelf ha0) rfl (fun _ => rfl) dX5_isSo_15 ?_
    refine X_iconst (v := 2) dX5_isSo_18 iconst_2 ?_
    refine X_iload_n dX5_isSo_19 rfl rfl ?_
    refine X_imul dX5_isSo_20 ?_
    refine X_lald (g_items ha0) dX5_isSo_21 h (fun h => ?_)
    refine X_l2i dX5_isSo_22 ?_
    refine X_topI h (fun x1 h => ?_)
    refine X_istore (L' := [some (.ref 31), some (.ref (45 + 2 * a0)), some (.int b0), some (.int c0), some (.int x1), none]) dX5_isSo_23 (by decide) rfl ?_
    refine X_aload_n dX5_isSo_25 rfl rfl ?_
    refine X_get (v := .ref (46 + 2 * a0)) ck_X10 f_X5_78 (g_shelf ha0) rfl (fun _ => rfl) dX5_isSo_26 ?_
    refine X_iconst (v := 2) dX5_isSo_29 iconst_2 ?_
    refine X_iload_n dX5_isSo_30 rfl rfl ?_
    refine X_imul dX5_isSo_31 ?_
    refine X_iconst (v := 1) dX5_isSo_32 iconst_1 ?_
    refine X_iadd dX5_isSo_33 ?_
    refine X_lald (g_items ha0) dX5_isSo_34 h (fun h => ?_)
    refine X_l2i dX5_isSo_35 ?_
    refine X_topI h (fun x2 h => ?_)
    refine X_istore (L' := [some (.ref 31), some (.ref (45 + 2 * a0)), some (.int b0), some (.int c0), some (.int x1), some (.int x2)]) dX5_isSo_36 (by decide) rfl ?_
    refine X_iload dX5_isSo_38 rfl ?_
    refine X_iconst (v := 0) dX5_isSo_40 iconst_0 ?_
    refine X_bipush (v := 60) dX5_isSo_41 bipush_60 ?_
    refine X_callSNi [.int x1, .int (0 : Int32), .int (60 : Int32)] [] c_X11_within t_X11_within lk_X5_82 dX5_isSo_43 rfl (by decide) (Nat.le_of_ble_eq_true rfl) rfl (s_X11_within sx x1 (0 : Int32) (60 : Int32)  σ _ h) (fun r4 σ3 h => ?_)
    refine X_if_eq (tgt := 95) dX5_isSo_46 (by decide) h (fun h => ?_) (fun h => ?_)
    · refine X_iconst (v := 0) dX5_isSo_95 iconst_0 ?_
      exact X_retz rfl rfl dX5_isSo_96 h
    · refine X_aload_n dX5_isSo_49 rfl rfl ?_
      refine X_get (v := .ref 1) ck_X5 f_X5_9 g_31 rfl (fun _ => rfl) dX5_isSo_50 ?_
      refine X_iload dX5_isSo_53 rfl ?_
      refine X_callVi [.int x2] [] c_X7_hasPlace v_X7_hasPlace lk_X5_86 dX5_isSo_55 g_1 rfl rfl rfl (by decide) (Nat.le_of_ble_eq_true rfl) rfl (s_X7_hasPlace sx x2  σ3 _ h) (fun r6 σ5 h => ?_)
      refine X_if_eq (tgt := 95) dX5_isSo_58 (by decide) h (fun h => ?_) (fun h => ?_)
      · refine X_iconst (v := 0) dX5_isSo_95 iconst_0 ?_
        exact X_retz rfl rfl dX5_isSo_96 h
      · refine X_aload_n dX5_isSo_61 rfl rfl ?_
        refine X_get (v := .ref 1) ck_X5 f_X5_9 g_31 rfl (fun _ => rfl) dX5_isSo_62 ?_
        refine X_aload_n dX5_isSo_65 rfl rfl ?_
        refine X_get (v := .ref 28) ck_X5 f_X5_19 g_31 rfl (fun _ => rfl) dX5_isSo_66 ?_
        refine X_iload_n dX5_isSo_69 rfl rfl ?_
        refine X_iload dX5_isSo_70 rfl ?_
        refine X_callVi [.int c0, .int x1] [.ref 1] c_X6_cellBehind v_X6_cellBehind lk_X5_90 dX5_isSo_72 g_28 rfl rfl rfl (by decide) (Nat.le_of_ble_eq_true rfl) rfl (s_X6_cellBehind sx c0 x1  σ5 _ h) (fun r8 σ7 h => ?_)
        refine X_aload_n dX5_isSo_75 rfl rfl ?_
        refine X_get (v := .ref 1) ck_X5 f_X5_9 g_31 rfl (fun _ => rfl) dX5_isSo_76 ?_
        refine X_get (v := .ref 6) ck_X7 f_X5_93 g_1 rfl (fun _ => rfl) dX5_isSo_79 ?_
        refine X_iload dX5_isSo_82 rfl ?_
        refine X_iald g_6 dX5_isSo_84 h (fun h => ?_)
        refine X_callVi [.int r8, .int (σ7.1 6 (Int32.toNatClampNeg x2))] [] c_X7_near v_X7_near lk_X5_96 dX5_isSo_85 g_1 rfl rfl rfl (by decide) (Nat.le_of_ble_eq_true rfl) rfl (s_X7_near sx r8 (σ7.1 6 (Int32.toNatClampNeg x2))  σ7 _ h) (fun r10 σ9 h => ?_)
        refine X_if_eq (tgt := 95) dX5_isSo_88 (by decide) h (fun h => ?_) (fun h => ?_)
        · refine X_iconst (v := 0) dX5_isSo_95 iconst_0 ?_
          exact X_retz rfl rfl dX5_isSo_96 h
        · refine X_iconst (v := 1) dX5_isSo_91 iconst_1 ?_
          refine X_goto (tgt := 96) dX5_isSo_92 (by decide) ?_
          exact X_retz rfl rfl dX5_isSo_96 h
  · refine X_iconst (v := 0) dX5_isSo_12 iconst_0 ?_
    exact X_retz rfl rfl dX5_isSo_13 h
def w_X5_twosOf (a0 : Nat) (σ : Sg) (Q : Int32 → Sg → Prop) : Prop := Q (imin (20 : Int32) (((σ.1 (45 + 2 * a0) 2) + (1 : Int32)) / (2 : Int32))) σ
set_option maxRecDepth 100000 in
set_option maxHeartbeats 4000000 in
theorem s_X5_twosOf (sx : Nat × (Nat → Int32)) (a0 : Nat) (ha0 : a0 < 6) (σ : Sg) (Q : Int32 → Sg → Prop) (h : w_X5_twosOf a0 σ Q) : Ct mX5_twosOf 1 false (0, 0) sx G0 [.ref (45 + 2 * a0)] σ (qI Q) := by
  refine Ct.of (L := [some (.ref (45 + 2 * a0))]) (by decide) (Nat.le_of_ble_eq_true rfl) rfl ?_
  unfold w_X5_twosOf at h
  refine X_bipush (v := 20) dX5_twosOf_0 bipush_20 ?_
  refine X_aload_n dX5_twosOf_2 rfl rfl ?_
  refine X_get (v := .int (σ.1 (45 + 2 * a0) 2)) ck_X10 f_X5_66 (g_shelf ha0) rfl (fun _ => rfl) dX5_twosOf_3 ?_
  refine X_iconst (v := 1) dX5_twosOf_6 iconst_1 ?_
  refine X_iadd dX5_twosOf_7 ?_
  refine X_iconst (v := 2) dX5_twosOf_8 iconst_2 ?_
  refine X_idiv dX5_twosOf_9 (by decide) ?_
  refine X_mmin lk_X5_72 dX5_twosOf_10 (by decide) (Nat.le_of_ble_eq_true rfl) ?_
  exact X_reti rfl dX5_twosOf_13 h
def w_X5_firstWrong_l8 (a0 : Nat) (b0 : Int32) (Q : Int32 → Sg → Prop) (r2 : Int32) : Nat → Int32 → Sg → Prop
  | 0, _, _ => False
  | n8 + 1, x3, σ4 => if r2 ≤ x3 then (Q (-2 : Int32) σ4) else (w_X5_isSo a0 x3 b0 σ4 (fun r6 σ5 => if r6 = 0 then (Q x3 σ5) else (w_X5_firstWrong_l8 a0 b0 Q r2 n8 (x3 + 1) σ5)))
def w_X5_firstWrong (a0 : Nat) (b0 : Int32) (σ : Sg) (Q : Int32 → Sg → Prop) : Prop := w_X5_twosOf a0 σ (fun r2 σ1 => ∃ n, w_X5_firstWrong_l8 a0 b0 Q r2 n (0 : Int32) σ1)
set_option maxRecDepth 100000 in
set_option maxHeartbeats 4000000 in
theorem s_X5_firstWrong (sx : Nat × (Nat → Int32)) (a0 : Nat) (b0 : Int32) (ha0 : a0 < 6) (σ : Sg) (Q : Int32 → Sg → Prop) (h : w_X5_firstWrong a0 b0 σ Q) : Ct mX5_firstWrong 4 false (0, 0) sx G0 [.ref 31, .ref (45 + 2 * a0), .int b0] σ (qI Q) := by
  refine Ct.of (L := [some (.ref 31), some (.ref (45 + 2 * a0)), some (.int b0), none, none]) (by decide) (Nat.le_of_ble_eq_true rfl) rfl ?_
  unfold w_X5_firstWrong at h
  refine X_aload_n dX5_firstWrong_0 rfl rfl ?_
  refine X_callSi [.ref (45 + 2 * a0)] [] c_X5_twosOf t_X5_twosOf lk_X5_59 dX5_firstWrong_1 rfl (by decide) (Nat.le_of_ble_eq_true rfl) rfl (s_X5_twosOf sx a0 ha0 σ _ h) (fun r2 σ1 h => ?_)
  refine X_istore_n (L' := [some (.ref 31), some (.ref (45 + 2 * a0)), some (.int b0), some (.int r2), none]) dX5_firstWrong_4 rfl (by decide) rfl ?_
  refine X_iconst (v := 0) dX5_firstWrong_5 iconst_0 ?_
  refine X_istore (L' := [some (.ref 31), some (.ref (45 + 2 * a0)), some (.int b0), some (.int r2), some (.int (0 : Int32))]) dX5_firstWrong_6 (by decide) rfl ?_
  obtain ⟨n8, h⟩ := h
  have key8 : ∀ (n : Nat) (x3 : Int32) (σ4 : Sg) , w_X5_firstWrong_l8 a0 b0 Q r2 n x3 σ4 → Ex mX5_firstWrong 4 false (0, 0) sx G0 8 [some (.ref 31), some (.ref (45 + 2 * a0)), some (.int b0), some (.int r2), some (.int x3)] [] σ4 (qI Q) := by
    intro n8
    induction n8 with
    | zero => intro _ _  h; exact h.elim
    | succ n8 ih8 =>
      intro x3 σ4  h
      unfold w_X5_firstWrong_l8 at h
      refine X_iload dX5_firstWrong_8 rfl ?_
      refine X_iload_n dX5_firstWrong_10 rfl rfl ?_
      refine X_icmp_ge (tgt := 34) dX5_firstWrong_11 (by decide) h (fun h => ?_) (fun h => ?_)
      · refine X_bipush (v := -2) dX5_firstWrong_34 bipush_m2 ?_
        exact X_reti rfl dX5_firstWrong_36 h
      · refine X_aload_n dX5_firstWrong_14 rfl rfl ?_
        refine X_aload_n dX5_firstWrong_15 rfl rfl ?_
        refine X_iload dX5_firstWrong_16 rfl ?_
        refine X_iload_n dX5_firstWrong_18 rfl rfl ?_
        refine X_callVi [.ref (45 + 2 * a0), .int x3, .int b0] [] c_X5_isSo v_X5_isSo lk_X5_62 dX5_firstWrong_19 g_31 rfl rfl rfl (by decide) (Nat.le_of_ble_eq_true rfl) rfl (s_X5_isSo sx a0 x3 b0 ha0 σ4 _ h) (fun r6 σ5 h => ?_)
        refine X_if_ne (tgt := 28) dX5_firstWrong_22 (by decide) h (fun h => ?_) (fun h => ?_)
        · refine X_iinc (v := (x3 + 1)) (L' := [some (.ref 31), some (.ref (45 + 2 * a0)), some (.int b0), some (.int r2), some (.int (x3 + 1))]) dX5_firstWrong_28 rfl rfl (by decide) rfl ?_
          refine X_goto (tgt := 8) dX5_firstWrong_31 (by decide) ?_
          exact ih8 _ _  h
        · refine X_iload dX5_firstWrong_25 rfl ?_
          exact X_reti rfl dX5_firstWrong_27 h
  exact key8 _ _ _  h
def w_X5_lastHour_l9 (a0 : Nat) (Q : Int32 → Sg → Prop) (r2 : Int32) : Nat → Int32 → Int32 → Sg → Prop
  | 0, _, _, _ => False
  | n9 + 1, x3, x4, σ5 => if r2 ≤ x4 then (Q x3 σ5) else (vp_in ((2 : Int32) * x4) 60 ∧ bd (Int64.toInt32 (σ5.2 (46 + 2 * a0) (Int32.toNatClampNeg ((2 : Int32) * x4)))) fun x6 => bd (fun (x7 : Int32) (σ8 : Sg) => w_X5_lastHour_l9 a0 Q r2 n9 x7 (x4 + 1) σ8) fun J41 => if x6 ≤ x3 then (J41 x3 σ5) else (if (60 : Int32) < x6 then (J41 x3 σ5) else (J41 x6 σ5)))
def w_X5_lastHour (a0 : Nat) (σ : Sg) (Q : Int32 → Sg → Prop) : Prop := w_X5_twosOf a0 σ (fun r2 σ1 => ∃ n, w_X5_lastHour_l9 a0 Q r2 n (0 : Int32) (0 : Int32) σ1)
set_option maxRecDepth 100000 in
set_option maxHeartbeats 4000000 in
theorem s_X5_lastHour (sx : Nat × (Nat → Int32)) (a0 : Nat) (ha0 : a0 < 6) (σ : Sg) (Q : Int32 → Sg → Prop) (h : w_X5_lastHour a0 σ Q) : Ct mX5_lastHour 2 false (0, 0) sx G0 [.ref (45 + 2 * a0)] σ (qI Q) := by
  refine Ct.of (L := [some (.ref (45 + 2 * a0)), none, none, none, none]) (by decide) (Nat.le_of_ble_eq_true rfl) rfl ?_
  unfold w_X5_lastHour at h
  refine X_iconst (v := 0) dX5_lastHour_0 iconst_0 ?_
  refine X_istore_n (L' := [some (.ref (45 + 2 * a0)), some (.int (0 : Int32)), none, none, none]) dX5_lastHour_1 rfl (by decide) rfl ?_
  refine X_aload_n dX5_lastHour_2 rfl rfl ?_
  refine X_callSi [.ref (45 + 2 * a0)] [] c_X5_twosOf t_X5_twosOf lk_X5_59 dX5_lastHour_3 rfl (by decide) (Nat.le_of_ble_eq_true rfl) rfl (s_X5_twosOf sx a0 ha0 σ _ h) (fun r2 σ1 h => ?_)
  refine X_istore_n (L' := [some (.ref (45 + 2 * a0)), some (.int (0 : Int32)), some (.int r2), none, none]) dX5_lastHour_6 rfl (by decide) rfl ?_
  refine X_iconst (v := 0) dX5_lastHour_7 iconst_0 ?_
  refine X_istore_n (L' := [some (.ref (45 + 2 * a0)), some (.int (0 : Int32)), some (.int r2), some (.int (0 : Int32)), none]) dX5_lastHour_8 rfl (by decide) rfl ?_
  obtain ⟨n9, h⟩ := h
  have key9 : ∀ (n : Nat) (x3 : Int32) (x4 : Int32) (σ5 : Sg) , w_X5_lastHour_l9 a0 Q r2 n x3 x4 σ5 → Ex mX5_lastHour 2 false (0, 0) sx G0 9 [some (.ref (45 + 2 * a0)), some (.int x3), some (.int r2), some (.int x4), none] [] σ5 (qI Q) := by
    intro n9
    induction n9 with
    | zero => intro _ _ _  h; exact h.elim
    | succ n9 ih9 =>
      intro x3 x4 σ5  h
      unfold w_X5_lastHour_l9 at h
      refine X_iload_n dX5_lastHour_9 rfl rfl ?_
      refine X_iload_n dX5_lastHour_10 rfl rfl ?_
      refine X_icmp_ge (tgt := 47) dX5_lastHour_11 (by decide) h (fun h => ?_) (fun h => ?_)
      · refine X_iload_n dX5_lastHour_47 rfl rfl ?_
        exact X_reti rfl dX5_lastHour_48 h
      · refine X_aload_n dX5_lastHour_14 rfl rfl ?_
        refine X_get (v := .ref (46 + 2 * a0)) ck_X10 f_X5_78 (g_shelf ha0) rfl (fun _ => rfl) dX5_lastHour_15 ?_
        refine X_iconst (v := 2) dX5_lastHour_18 iconst_2 ?_
        refine X_iload_n dX5_lastHour_19 rfl rfl ?_
        refine X_imul dX5_lastHour_20 ?_
        refine X_lald (g_items ha0) dX5_lastHour_21 h (fun h => ?_)
        refine X_l2i dX5_lastHour_22 ?_
        refine X_topI h (fun x6 h => ?_)
        refine X_istore (L' := [some (.ref (45 + 2 * a0)), some (.int x3), some (.int r2), some (.int x4), some (.int x6)]) dX5_lastHour_23 (by decide) rfl ?_
        refine X_iload dX5_lastHour_25 rfl ?_
        refine X_iload_n dX5_lastHour_27 rfl rfl ?_
        refine bd_j h (fun J41 e41 h => ?_)
        have j41 : ∀ (x7 : Int32) (σ8 : Sg) , J41 x7 σ8 → Ex mX5_lastHour 2 false (0, 0) sx G0 41 [some (.ref (45 + 2 * a0)), some (.int x7), some (.int r2), some (.int x4), none] [] σ8 (qI Q) := by
          intro x7 σ8  h
          subst e41
          replace h := h
          refine X_iinc (v := (x4 + 1)) (L' := [some (.ref (45 + 2 * a0)), some (.int x7), some (.int r2), some (.int (x4 + 1)), none]) dX5_lastHour_41 rfl rfl (by decide) rfl ?_
          refine X_goto (tgt := 9) dX5_lastHour_44 (by decide) ?_
          exact ih9 _ _ _  h
        refine X_icmp_le (tgt := 41) dX5_lastHour_28 (by decide) h (fun h => ?_) (fun h => ?_)
        · refine X_drop (L' := [some (.ref (45 + 2 * a0)), some (.int x3), some (.int r2), some (.int x4), none]) ⟨rfl, ⟨rfl, ⟨rfl, ⟨rfl, trivial⟩⟩⟩⟩ ?_
          exact j41 _ _  h
        · refine X_iload dX5_lastHour_31 rfl ?_
          refine X_bipush (v := 60) dX5_lastHour_33 bipush_60 ?_
          refine X_icmp_gt (tgt := 41) dX5_lastHour_35 (by decide) h (fun h => ?_) (fun h => ?_)
          · refine X_drop (L' := [some (.ref (45 + 2 * a0)), some (.int x3), some (.int r2), some (.int x4), none]) ⟨rfl, ⟨rfl, ⟨rfl, ⟨rfl, trivial⟩⟩⟩⟩ ?_
            exact j41 _ _  h
          · refine X_iload dX5_lastHour_38 rfl ?_
            refine X_istore_n (L' := [some (.ref (45 + 2 * a0)), some (.int x6), some (.int r2), some (.int x4), some (.int x6)]) dX5_lastHour_40 rfl (by decide) rfl ?_
            refine X_drop (L' := [some (.ref (45 + 2 * a0)), some (.int x6), some (.int r2), some (.int x4), none]) ⟨rfl, ⟨rfl, ⟨rfl, ⟨rfl, trivial⟩⟩⟩⟩ ?_
            exact j41 _ _  h
  exact key9 _ _ _ _  h
def w_X6_followFrom_l17 (a0 : Int32) (c0 : Int32) (Q : Sg → Prop) : Nat → Int32 → Int32 → Sg → Prop
  | 0, _, _, _ => False
  | n17 + 1, x2, x3, σ4 => if c0 ≤ x3 then (Q σ4) else (vp_in a0 6 ∧ w_X3_next (Int32.toNatClampNeg a0) x2 x3 (0 : Int32) σ4 (fun r7 σ6 => vp_in (((a0 * (61 : Int32)) + x3) + (1 : Int32)) 366 ∧ bd (sI σ6 29 (Int32.toNatClampNeg (((a0 * (61 : Int32)) + x3) + (1 : Int32))) r7) fun σ8 => w_X6_followFrom_l17 a0 c0 Q n17 r7 (x3 + 1) σ8))
def w_X6_followFrom (a0 : Int32) (b0 : Int32) (c0 : Int32) (σ : Sg) (Q : Sg → Prop) : Prop := vp_in (a0 * (61 : Int32)) 366 ∧ bd (sI σ 29 (Int32.toNatClampNeg (a0 * (61 : Int32))) b0) fun σ1 => ∃ n, w_X6_followFrom_l17 a0 c0 Q n b0 (0 : Int32) σ1
set_option maxRecDepth 100000 in
set_option maxHeartbeats 4000000 in
theorem s_X6_followFrom (sx : Nat × (Nat → Int32)) (a0 : Int32) (b0 : Int32) (c0 : Int32) (σ : Sg) (Q : Sg → Prop) (h : w_X6_followFrom a0 b0 c0 σ Q) : Ct mX6_followFrom 5 false (0, 0) sx G0 [.ref 28, .int a0, .int b0, .int c0] σ (qV Q) := by
  refine Ct.of (L := [some (.ref 28), some (.int a0), some (.int b0), some (.int c0), none, none]) (by decide) (Nat.le_of_ble_eq_true rfl) rfl ?_
  unfold w_X6_followFrom at h
  refine X_iload_n dX6_followFrom_0 rfl rfl ?_
  refine X_istore (L' := [some (.ref 28), some (.int a0), some (.int b0), some (.int c0), some (.int b0), none]) dX6_followFrom_1 (by decide) rfl ?_
  refine X_aload_n dX6_followFrom_3 rfl rfl ?_
  refine X_get (v := .ref 29) ck_X6 f_X6_11 g_28 rfl (fun _ => rfl) dX6_followFrom_4 ?_
  refine X_iload_n dX6_followFrom_7 rfl rfl ?_
  refine X_bipush (v := 61) dX6_followFrom_8 bipush_61 ?_
  refine X_imul dX6_followFrom_10 ?_
  refine X_iload dX6_followFrom_11 rfl ?_
  refine X_iast g_29 dX6_followFrom_13 h (fun σ1 h => ?_)
  refine X_iconst (v := 0) dX6_followFrom_14 iconst_0 ?_
  refine X_istore (L' := [some (.ref 28), some (.int a0), some (.int b0), some (.int c0), some (.int b0), some (.int (0 : Int32))]) dX6_followFrom_15 (by decide) rfl ?_
  obtain ⟨n17, h⟩ := h
  have key17 : ∀ (n : Nat) (x2 : Int32) (x3 : Int32) (σ4 : Sg) , w_X6_followFrom_l17 a0 c0 Q n x2 x3 σ4 → Ex mX6_followFrom 5 false (0, 0) sx G0 17 [some (.ref 28), some (.int a0), none, some (.int c0), some (.int x2), some (.int x3)] [] σ4 (qV Q) := by
    intro n17
    induction n17 with
    | zero => intro _ _ _  h; exact h.elim
    | succ n17 ih17 =>
      intro x2 x3 σ4  h
      unfold w_X6_followFrom_l17 at h
      refine X_iload dX6_followFrom_17 rfl ?_
      refine X_iload_n dX6_followFrom_19 rfl rfl ?_
      refine X_icmp_ge (tgt := 61) dX6_followFrom_20 (by decide) h (fun h => ?_) (fun h => ?_)
      · exact X_retv rfl dX6_followFrom_61 h
      · refine X_aload_n dX6_followFrom_23 rfl rfl ?_
        refine X_get (v := .ref 15) ck_X6 f_X6_22 g_28 rfl (fun _ => rfl) dX6_followFrom_24 ?_
        refine X_iload_n dX6_followFrom_27 rfl rfl ?_
        have hk5 := vp_lt h.1
        refine X_aald g_15 (Or.inl rfl) dX6_followFrom_28 h (fun q => g_coaches (vp_lt q)) (fun h => ?_)
        refine X_iload dX6_followFrom_29 rfl ?_
        refine X_iload dX6_followFrom_31 rfl ?_
        refine X_iconst (v := 0) dX6_followFrom_33 iconst_0 ?_
        refine X_callVi [.int x2, .int x3, .int (0 : Int32)] [] c_X3_next v_X3_next lk_X6_45 dX6_followFrom_34 (g_coach hk5) rfl rfl rfl (by decide) (Nat.le_of_ble_eq_true rfl) rfl (s_X3_next sx (Int32.toNatClampNeg a0) x2 x3 (0 : Int32) hk5 σ4 _ h) (fun r7 σ6 h => ?_)
        refine X_istore (L' := [some (.ref 28), some (.int a0), none, some (.int c0), some (.int r7), some (.int x3)]) dX6_followFrom_37 (by decide) rfl ?_
        refine X_aload_n dX6_followFrom_39 rfl rfl ?_
        refine X_get (v := .ref 29) ck_X6 f_X6_11 g_28 rfl (fun _ => rfl) dX6_followFrom_40 ?_
        refine X_iload_n dX6_followFrom_43 rfl rfl ?_
        refine X_bipush (v := 61) dX6_followFrom_44 bipush_61 ?_
        refine X_imul dX6_followFrom_46 ?_
        refine X_iload dX6_followFrom_47 rfl ?_
        refine X_iadd dX6_followFrom_49 ?_
        refine X_iconst (v := 1) dX6_followFrom_50 iconst_1 ?_
        refine X_iadd dX6_followFrom_51 ?_
        refine X_iload dX6_followFrom_52 rfl ?_
        refine X_iast g_29 dX6_followFrom_54 h (fun σ8 h => ?_)
        refine X_iinc (v := (x3 + 1)) (L' := [some (.ref 28), some (.int a0), none, some (.int c0), some (.int r7), some (.int (x3 + 1))]) dX6_followFrom_55 rfl rfl (by decide) rfl ?_
        refine X_goto (tgt := 17) dX6_followFrom_58 (by decide) ?_
        exact ih17 _ _ _  h
  refine X_drop (L' := [some (.ref 28), some (.int a0), none, some (.int c0), some (.int b0), some (.int (0 : Int32))]) ⟨rfl, ⟨rfl, ⟨rfl, ⟨rfl, ⟨rfl, trivial⟩⟩⟩⟩⟩ ?_
  exact key17 _ _ _ _  h
