def w_X1_commonDivisor_l9 (J44 : Int64 → Sg → Prop) : Nat → Int64 → Int64 → Int32 → Sg → Prop
  | 0, _, _, _, _ => False
  | n9 + 1, x3, x4, x5, σ6 => if (100 : Int32) ≤ x5 then (J44 x3 σ6) else (if (lg_cmp x4 (0 : Int64)) = 0 then (J44 x3 σ6) else (¬ x4 = 0 ∧ bd (x3 - x3 / x4 * x4) fun x7 => w_X1_commonDivisor_l9 J44 n9 x4 x7 (x5 + 1) σ6))
def w_X1_commonDivisor (a0 : Int64) (b0 : Int64) (σ : Sg) (Q : Int64 → Sg → Prop) : Prop := bd (fun (x1 : Int64) (σ2 : Sg) => Q (lmax (1 : Int64) x1) σ2) fun J44 => ∃ n, w_X1_commonDivisor_l9 J44 n a0 b0 (0 : Int32) σ
set_option maxRecDepth 100000 in
set_option maxHeartbeats 4000000 in
theorem s_X1_commonDivisor (sx : Nat × (Nat → Int32)) (a0 : Int64) (b0 : Int64) (σ : Sg) (Q : Int64 → Sg → Prop) (h : w_X1_commonDivisor a0 b0 σ Q) : Ct mX1_commonDivisor 1 false (0, 0) sx G0 [.long a0, .long b0] σ (qJ Q) := by
  refine Ct.of (L := [some (.long a0), none, some (.long b0), none, none, none, none, none, none, none, none]) (by decide) (Nat.le_of_ble_eq_true rfl) rfl ?_
  unfold w_X1_commonDivisor at h
  refine X_lload_n dX1_commonDivisor_0 rfl rfl ?_
  refine X_lstore (L' := [some (.long a0), none, some (.long b0), none, some (.long a0), none, none, none, none, none, none]) dX1_commonDivisor_1 (by decide) rfl ?_
  refine X_lload_n dX1_commonDivisor_3 rfl rfl ?_
  refine X_lstore (L' := [some (.long a0), none, some (.long b0), none, some (.long a0), none, some (.long b0), none, none, none, none]) dX1_commonDivisor_4 (by decide) rfl ?_
  refine X_iconst (v := 0) dX1_commonDivisor_6 iconst_0 ?_
  refine X_istore (L' := [some (.long a0), none, some (.long b0), none, some (.long a0), none, some (.long b0), none, some (.int (0 : Int32)), none, none]) dX1_commonDivisor_7 (by decide) rfl ?_
  refine bd_j h (fun J44 e44 h => ?_)
  have j44 : ∀ (x1 : Int64) (σ2 : Sg) , J44 x1 σ2 → Ex mX1_commonDivisor 1 false (0, 0) sx G0 44 [none, none, none, none, some (.long x1), none, none, none, none, none, none] [] σ2 (qJ Q) := by
    intro x1 σ2  h
    subst e44
    replace h := h
    refine X_lconst (v := 1) dX1_commonDivisor_44 rfl ?_
    refine X_lload dX1_commonDivisor_45 rfl ?_
    refine X_mlmax lk_X1_99 dX1_commonDivisor_47 (by decide) (Nat.le_of_ble_eq_true rfl) ?_
    exact X_retl rfl dX1_commonDivisor_50 h
  obtain ⟨n9, h⟩ := h
  have key9 : ∀ (n : Nat) (x3 : Int64) (x4 : Int64) (x5 : Int32) (σ6 : Sg) , w_X1_commonDivisor_l9 J44 n x3 x4 x5 σ6 → Ex mX1_commonDivisor 1 false (0, 0) sx G0 9 [none, none, none, none, some (.long x3), none, some (.long x4), none, some (.int x5), none, none] [] σ6 (qJ Q) := by
    intro n9
    induction n9 with
    | zero => intro _ _ _ _  h; exact h.elim
    | succ n9 ih9 =>
      intro x3 x4 x5 σ6  h
      unfold w_X1_commonDivisor_l9 at h
      refine X_iload dX1_commonDivisor_9 rfl ?_
      refine X_bipush (v := 100) dX1_commonDivisor_11 bipush_100 ?_
      refine X_icmp_ge (tgt := 44) dX1_commonDivisor_13 (by decide) h (fun h => ?_) (fun h => ?_)
      · refine X_drop (L' := [none, none, none, none, some (.long x3), none, none, none, none, none, none]) ⟨rfl, trivial⟩ ?_
        exact j44 _ _  h
      · refine X_lload dX1_commonDivisor_16 rfl ?_
        refine X_lconst (v := 0) dX1_commonDivisor_18 rfl ?_
        refine X_lcmp dX1_commonDivisor_19 ?_
        refine X_if_eq (tgt := 44) dX1_commonDivisor_20 (by decide) h (fun h => ?_) (fun h => ?_)
        · refine X_drop (L' := [none, none, none, none, some (.long x3), none, none, none, none, none, none]) ⟨rfl, trivial⟩ ?_
          exact j44 _ _  h
        · refine X_lload dX1_commonDivisor_23 rfl ?_
          refine X_lload dX1_commonDivisor_25 rfl ?_
          obtain ⟨hz, h⟩ := h
          refine X_lrem dX1_commonDivisor_27 hz ?_
          refine X_topJ h (fun x7 h => ?_)
          refine X_lstore (L' := [none, none, none, none, some (.long x3), none, some (.long x4), none, some (.int x5), some (.long x7), none]) dX1_commonDivisor_28 (by decide) rfl ?_
          refine X_lload dX1_commonDivisor_30 rfl ?_
          refine X_lstore (L' := [none, none, none, none, some (.long x4), none, some (.long x4), none, some (.int x5), some (.long x7), none]) dX1_commonDivisor_32 (by decide) rfl ?_
          refine X_lload dX1_commonDivisor_34 rfl ?_
          refine X_lstore (L' := [none, none, none, none, some (.long x4), none, some (.long x7), none, some (.int x5), some (.long x7), none]) dX1_commonDivisor_36 (by decide) rfl ?_
          refine X_iinc (v := (x5 + 1)) (L' := [none, none, none, none, some (.long x4), none, some (.long x7), none, some (.int (x5 + 1)), some (.long x7), none]) dX1_commonDivisor_38 rfl rfl (by decide) rfl ?_
          refine X_goto (tgt := 9) dX1_commonDivisor_41 (by decide) ?_
          refine X_drop (L' := [none, none, none, none, some (.long x4), none, some (.long x7), none, some (.int (x5 + 1)), none, none]) ⟨rfl, ⟨rfl, ⟨rfl, trivial⟩⟩⟩ ?_
          exact ih9 _ _ _ _  h
  refine X_drop (L' := [none, none, none, none, some (.long a0), none, some (.long b0), none, some (.int (0 : Int32)), none, none]) ⟨rfl, ⟨rfl, ⟨rfl, trivial⟩⟩⟩ ?_
  exact key9 _ _ _ _ _  h
