/-! the law's loop -/
theorem sub6 : ∀ L, L < 6 → nI L - (6 : Int32) < 0 := by decide +kernel
theorem sub6_lt {L i : Nat} (hL : L < 1000000) (hi : i < 1000000) : nI L - (6 : Int32) < nI i ↔ L < i + 6 := by
  by_cases g : 6 ≤ L
  · rw [show nI L - (6 : Int32) = nI (L - 6) from nI_sub (b := 6) g hL, nI_ltI (by omega) (by omega)]
    omega
  · have h1 := i32_lt.mp (sub6 L (by omega))
    rw [show (0 : Int32).toInt = 0 by decide] at h1
    refine ⟨fun _ => by omega, fun _ => i32_lt.mpr ?_⟩
    rw [nI_toInt (by omega)]
    omega
theorem lg_rr (x : Int64) : lg_cmp x x = 0 := by
  unfold lg_cmp
  simp
set_option maxHeartbeats 4000000 in
set_option maxRecDepth 100000 in
theorem loop_l {L : Nat} {xs : Nat → Int32} (hL : L ≤ 3072) : ∀ (m N : Nat) (σ : Sg), N ≤ 512 → L < 6 * N + 6 * (m + 1) → Inv N σ → w_L_law_l18 (fun r _ => r = 1) (L, xs) (m + 1) (nI (6 * N)) σ := by
  intro m
  induction m with
  | zero =>
    intro N σ hN0 h hI
    rw [w_L_law_l18, show Int32.ofNat (L, xs).1 = nI L from rfl, if_pos ((sub6_lt (L := L) (i := 6 * N) (by omega) (by omega)).mpr (by omega))]
  | succ m ih =>
    intro N σ hN0 h hI
    by_cases g : L < 6 * N + 6
    · rw [w_L_law_l18, show Int32.ofNat (L, xs).1 = nI L from rfl, if_pos ((sub6_lt (by omega) (by omega)).mpr g)]
    have hN : N < 600 := by omega
    rw [w_L_law_l18, show Int32.ofNat (L, xs).1 = nI L from rfl, if_neg (fun q => g ((sub6_lt (by omega) (by omega)).mp q))]
    dsimp only
    simp only [bd_eq]
    have e1 : nI (6 * N) + (1 : Int32) = nI (6 * N + 1) := nI_lit rfl
    have e2 : nI (6 * N) + (2 : Int32) = nI (6 * N + 2) := nI_lit rfl
    have e3 : nI (6 * N) + (3 : Int32) = nI (6 * N + 3) := nI_lit rfl
    have e4 : nI (6 * N) + (4 : Int32) = nI (6 * N + 4) := nI_lit rfl
    have e5 : nI (6 * N) + (5 : Int32) = nI (6 * N + 5) := nI_lit rfl
    have e6 : nI (6 * N) + (6 : Int32) = nI (6 * (N + 1)) := nI_lit rfl
    have v0 : vp_in (nI (6 * N)) L := nI_in (by omega) (by omega)
    have v1 : vp_in (nI (6 * N + 1)) L := nI_in (by omega) (by omega)
    have v2 : vp_in (nI (6 * N + 2)) L := nI_in (by omega) (by omega)
    have v3 : vp_in (nI (6 * N + 3)) L := nI_in (by omega) (by omega)
    have v4 : vp_in (nI (6 * N + 4)) L := nI_in (by omega) (by omega)
    have v5 : vp_in (nI (6 * N + 5)) L := nI_in (by omega) (by omega)
    rw [e1, e2, e3, e4, e5, e6]
    simp only [v0, v1, v2, v3, v4, v5, true_and]
    have hgo : ∀ τ, Inv (N + 1) τ → w_L_law_l18 (fun r _ => r = 1) (L, xs) (m + 1) (nI (6 * (N + 1))) τ := fun τ q => ih (N + 1) τ (by omega) (by omega) q
    have hI32 : ∀ (r : Int32) (τ : Sg) (A : Prop), Inv (N + 1) τ → if r = r then w_L_law_l18 (fun r _ => r = 1) (L, xs) (m + 1) (nI (6 * (N + 1))) τ else A := fun r τ A q => by rw [if_pos rfl]; exact hgo τ q
    have hI64 : ∀ (r : Int64) (τ : Sg) (A : Prop), Inv (N + 1) τ → if lg_cmp r r = 0 then w_L_law_l18 (fun r _ => r = 1) (L, xs) (m + 1) (nI (6 * (N + 1))) τ else A := fun r τ A q => by rw [if_pos (lg_rr r)]; exact hgo τ q
    generalize xs (Int32.toNatClampNeg (nI (6 * N))) &&& (63 : Int32) = w
    generalize w_L_law_l18 (fun r _ => r = 1) (L, xs) (m + 1) (nI (6 * (N + 1))) = G at hgo hI32 hI64 ⊢
    by_cases g0 : w = (0 : Int32)
    · rw [if_pos g0]
      exact op_carriage hI _ _ (fun r τ q => hI32 r τ _ q)
    rw [if_neg g0]
    by_cases g1 : w = (1 : Int32)
    · rw [if_pos g1]
      exact op_carriages hI _ _ _ (fun r τ q => hI32 r τ _ q)
    rw [if_neg g1]
    by_cases g2 : w = (2 : Int32)
    · rw [if_pos g2]
      exact op_place hI _ (fun r τ q => hI32 r τ _ q)
    rw [if_neg g2]
    by_cases g3 : w = (3 : Int32)
    · rw [if_pos g3]
      exact op_mend hI _ _ _ (fun r τ q => hI32 r τ _ q)
    rw [if_neg g3]
    by_cases g4 : w = (4 : Int32)
    · rw [if_pos g4]
      exact op_of hI _ _ (fun r τ q => hI32 r τ _ q)
    rw [if_neg g4]
    by_cases g5 : w = (5 : Int32)
    · rw [if_pos g5]
      exact op_feed hI _ (fun r τ q => hI32 r τ _ q)
    rw [if_neg g5]
    by_cases g6 : w = (6 : Int32)
    · rw [if_pos g6]
      exact op_law hI (fun r τ q => hI32 r τ _ q)
    rw [if_neg g6]
    by_cases g7 : w = (7 : Int32)
    · rw [if_pos g7]
      exact op_turn hI hN _ (fun r τ q => hI32 r τ _ q)
    rw [if_neg g7]
    by_cases g8 : w = (8 : Int32)
    · rw [if_pos g8]
      exact op_later hI hN _ _ _ (fun r τ q => hI32 r τ _ q)
    rw [if_neg g8]
    by_cases g9 : w = (9 : Int32)
    · rw [if_pos g9]
      exact op_nears hI hN _ _ _ (fun r τ q => hI32 r τ _ q)
    rw [if_neg g9]
    by_cases g10 : w = (10 : Int32)
    · rw [if_pos g10]
      exact op_passes hI hN _ _ _ (fun r τ q => hI32 r τ _ q)
    rw [if_neg g10]
    by_cases g11 : w = (11 : Int32)
    · rw [if_pos g11]
      exact op_meet hI hN _ (fun r τ q => hI32 r τ _ q)
    rw [if_neg g11]
    by_cases g12 : w = (12 : Int32)
    · rw [if_pos g12]
      exact op_often hI hN _ _ (fun r τ q => hI32 r τ _ q)
    rw [if_neg g12]
    by_cases g13 : w = (13 : Int32)
    · rw [if_pos g13]
      exact op_who hI hN _ _ (fun r τ q => hI32 r τ _ q)
    rw [if_neg g13]
    by_cases g14 : w = (14 : Int32)
    · rw [if_pos g14]
      exact op_soonest hI hN _ _ (fun r τ q => hI32 r τ _ q)
    rw [if_neg g14]
    by_cases g15 : w = (15 : Int32)
    · rw [if_pos g15]
      exact op_buy hI hN _ _ _ (fun r τ q => hI32 r τ _ q)
    rw [if_neg g15]
    by_cases g16 : w = (16 : Int32)
    · rw [if_pos g16]
      exact op_judge hI hN _ _ (fun r τ q => hI32 r τ _ q)
    rw [if_neg g16]
    by_cases g17 : w = (17 : Int32)
    · rw [if_pos g17]
      exact op_dined hI hN _ _ _ (fun r τ q => hI32 r τ _ q)
    rw [if_neg g17]
    by_cases g18 : w = (18 : Int32)
    · rw [if_pos g18]
      exact op_reins hI hN _ _ _ (fun r τ q => hI32 r τ _ q)
    rw [if_neg g18]
    by_cases g19 : w = (19 : Int32)
    · rw [if_pos g19]
      exact op_chance hI hN _ _ _ _ (fun r τ q => hI64 r τ _ q)
    rw [if_neg g19]
    by_cases g20 : w = (20 : Int32)
    · rw [if_pos g20]
      exact op_mean hI hN _ _ _ _ (fun r τ q => hI64 r τ _ q)
    rw [if_neg g20]
    by_cases g21 : w = (21 : Int32)
    · rw [if_pos g21]
      exact op_byTurns hI hN _ _ _ (fun r τ q => hI32 r τ _ q)
    rw [if_neg g21]
    by_cases g22 : w = (22 : Int32)
    · rw [if_pos g22]
      exact op_drawn hI hN _ _ _ (fun r τ q => hI32 r τ _ q)
    rw [if_neg g22]
    by_cases g23 : w = (23 : Int32)
    · rw [if_pos g23]
      exact op_hour hI hN (fun r τ q => hI32 r τ _ q)
    rw [if_neg g23]
    by_cases g24 : w = (24 : Int32)
    · rw [if_pos g24]
      exact op_rein hI _ _ (fun r τ q => hI32 r τ _ q)
    rw [if_neg g24]
    by_cases g25 : w = (25 : Int32)
    · rw [if_pos g25]
      exact op_shoe hI _ (fun r τ q => hI32 r τ _ q)
    rw [if_neg g25]
    by_cases g26 : w = (26 : Int32)
    · rw [if_pos g26]
      exact op_buys hI _ (fun r τ q => hI32 r τ _ q)
    rw [if_neg g26]
    by_cases g27 : w = (27 : Int32)
    · rw [if_pos g27]
      exact op_led hI _ (fun r τ q => hI32 r τ _ q)
    rw [if_neg g27]
    by_cases g28 : w = (28 : Int32)
    · rw [if_pos g28]
      exact op_image hI (fun r τ q => hI32 r τ _ q)
    rw [if_neg g28]
    by_cases g29 : w = (29 : Int32)
    · rw [if_pos g29]
      exact op_back hI (fun r τ q => hI32 r τ _ q)
    rw [if_neg g29]
    by_cases g30 : w = (30 : Int32)
    · rw [if_pos g30]
      exact op_undo hI (fun r τ q => hI32 r τ _ q)
    rw [if_neg g30]
    by_cases g31 : w = (31 : Int32)
    · rw [if_pos g31]
      exact op_redo hI (fun r τ q => hI32 r τ _ q)
    rw [if_neg g31]
    by_cases g32 : w = (32 : Int32)
    · rw [if_pos g32]
      exact op_body hI _ (fun r τ q => hI32 r τ _ q)
    rw [if_neg g32]
    by_cases g33 : w = (33 : Int32)
    · rw [if_pos g33]
      exact op_act hI _ _ _ (fun r τ q => hI32 r τ _ q)
    rw [if_neg g33]
    by_cases g34 : w = (34 : Int32)
    · rw [if_pos g34]
      exact op_trace hI _ (fun r τ q => hI32 r τ _ q)
    rw [if_neg g34]
    by_cases g35 : w = (35 : Int32)
    · rw [if_pos g35]
      exact op_keep hI _ _ (fun r τ q => hI32 r τ _ q)
    rw [if_neg g35]
    by_cases g36 : w = (36 : Int32)
    · rw [if_pos g36]
      exact op_row hI _ _ _ (fun r τ q => hI32 r τ _ q)
    rw [if_neg g36]
    by_cases g37 : w = (37 : Int32)
    · rw [if_pos g37]
      exact op_put hI _ _ _ (fun r τ q => hI32 r τ _ q)
    rw [if_neg g37]
    by_cases g38 : w = (38 : Int32)
    · rw [if_pos g38]
      exact op_element hI _ _ (fun r τ q => hI64 r τ _ q)
    rw [if_neg g38]
    by_cases g39 : w = (39 : Int32)
    · rw [if_pos g39]
      exact op_shift hI _ _ _ _ _ (fun r τ q => hI32 r τ _ q)
    rw [if_neg g39]
    by_cases g40 : w = (40 : Int32)
    · rw [if_pos g40]
      exact op_taken hI _ _ (fun r τ q => hI32 r τ _ q)
    rw [if_neg g40]
    by_cases g41 : w = (41 : Int32)
    · rw [if_pos g41]
      exact op_count hI _ (fun r τ q => hI32 r τ _ q)
    rw [if_neg g41]
    exact hgo σ (Inv_up hI)
