/-! hour -/
theorem op_hour {N : Nat} {σ : Sg} (hI : Inv N σ) (hN : N < 600) {Q : Int32 → Int32 → Sg → Prop} (hQ : ∀ r σ', Inv (N + 1) σ' → Q r r σ') : w_X11_hour σ (fun r σ1 => w_X12_hour σ1 (fun r' σ2 => Q r r' σ2)) := by
  obtain ⟨hA, hT, hC, hI2, hB', hS, hK', hL'⟩ := id hI
  obtain ⟨nC, nP, g, hB, hq, h3, hX, hM⟩ := Inv_get hI
  have hK := Inv_K hI
  obtain ⟨hn, hp, en, ep⟩ := hB.1
  have z0 : (Int32.toNatClampNeg 0) = 0 := rfl
  have z2 : (Int32.toNatClampNeg 2) = 2 := rfl
  unfold w_X11_hour w_X4_passHour
  rw [bd_eq]
  refine ⟨nC + 1, hour1_x hB h3 hX nC 0 (16 * N) σ (by omega) ⟨fun _ _ _ _ _ _ => rfl, rfl, rfl, fun k => by rw [if_neg (by omega)], fun k => by rw [if_neg (by omega)], fun k => by rw [if_neg (by omega)], fun j => ?_⟩ hK (by omega) (fun τ hH hKτ => ?_)⟩
  · have : sm (hng g σ) 0 = 0 := rfl
    have : sm (hnp g σ nP) 0 = 0 := rfl
    by_cases e1 : j = 1
    · subst e1; rw [if_pos rfl]; show _ = _ + nI 0; rw [nI_0, Int32.add_zero]
    · rw [if_neg e1]
      by_cases e4 : j = 4
      · subst e4; rw [if_pos rfl]; show _ = _ + nI 0; rw [nI_0, Int32.add_zero]
      · rw [if_neg e4]
  · obtain ⟨h1, h2, h4, h5, h7, h8, h9⟩ := id hH
    rw [bd_eq, bd_eq, z0]
    have e10 : τ.1 1 10 = nI (vN σ 1 10) := by rw [hH.lo (c := 1) (by omega), hB.2.2.2.2.1]
    have hho := hB.2.2.2.2.2
    rw [e10, show (1 : Int32) = nI 1 from rfl, hour_x (by omega) (by decide), rd_ne (show 39 ≠ 1 by decide)]
    generalize hρ : sI (sI τ 1 10 (nI (min 99 (vN σ 1 10 + 1)))) 39 0 (τ.1 39 0 + nI 1) = ρ
    have r1 : ρ.1 1 10 = nI (min 99 (vN σ 1 10 + 1)) := by rw [← hρ, rd_ne (by decide), rd_in, if_pos rfl]
    have rlo : ∀ c, c ≠ 1 → c ≠ 39 → ρ.1 c = τ.1 c := fun c a b => by rw [← hρ, rd_ne b, rd_ne a]
    have r1' : ∀ j, j ≠ 10 → ρ.1 1 j = σ.1 1 j := fun j hj => by rw [← hρ, rd_ne (by decide), rd_in, if_neg hj, hH.lo (c := 1) (by omega)]
    have h90 : τ.1 39 0 = σ.1 39 0 := by rw [h9 0, if_neg (by decide), if_neg (by decide)]
    have r39 : ∀ j, ρ.1 39 j = if j = 0 then σ.1 39 0 + nI 1 else τ.1 39 j := fun j => by rw [← hρ, rd_in, rd_ne (by decide), h90]
    have r2 : ρ.2 = σ.2 := by rw [← hρ, rd_2, rd_2, h4]
    have rσ : ∀ c, (c = 0 ∨ c = 4 ∨ c = 6 ∨ c = 7 ∨ c = 9 ∨ (10 < c ∧ c < 16) ∨ c = 28 ∨ c = 31 ∨ c = 32 ∨ (35 < c ∧ c < 39) ∨ 39 < c) → ρ.1 c = σ.1 c := fun c hc => by rw [rlo c (by omega) (by omega), hH.lo (by omega)]
    show w_X12_hour ρ (fun r' σ2 => Q (ρ.1 1 10) r' σ2)
    rw [r1]
    have hdone : σ.1 84 = σ.1 39 := hI2.1
    have hm0 : HM g nP σ ρ ρ 0 := ⟨fun _ _ _ _ _ _ _ _ => rfl, fun _ _ _ _ => rfl, rfl, fun k => by rw [if_neg (by omega), rσ 61 (by omega), hq.1.1], fun k => by rw [if_neg (by omega), rσ 62 (by omega), hq.1.2.1], fun k => by rw [if_neg (by omega), rσ 64 (by omega), hq.1.2.2.2.1], fun j => by
      rw [rσ 84 (by omega), hdone]
      by_cases e1 : j = 1
      · subst e1; rw [if_pos rfl]; show _ = _ + nI 0; rw [nI_0, Int32.add_zero]
      · rw [if_neg e1]
        by_cases e4 : j = 4
        · subst e4; rw [if_pos rfl]; show _ = _ + nI 0; rw [nI_0, Int32.add_zero]
        · rw [if_neg e4]⟩
    show w_X12_hour ρ (fun r' σ2 => Q (nI (min 99 (vN σ 1 10 + 1))) r' σ2)
    unfold w_X12_hour
    rw [bd_eq]
    refine ⟨nC + 1, hour1_m hB hq h3 hM (fun c hc => rσ c (by omega)) nC 0 ρ (by omega) hm0 (fun υ hU => ?_)⟩
    obtain ⟨u1, u2, u3, u4, u5, u6, u7⟩ := hU
    have key : (fun r3 σ2 => bd (sI σ2 67 (Int32.toNatClampNeg (2 : Int32)) r3) fun σ4 => bd (sI σ4 84 (Int32.toNatClampNeg (0 : Int32)) ((σ4.1 84 (Int32.toNatClampNeg (0 : Int32))) + (1 : Int32))) fun σ5 => Q (nI (min 99 (vN σ 1 10 + 1))) (σ5.1 67 (Int32.toNatClampNeg (2 : Int32))) σ5) (nI (min 99 (vN σ 1 10 + 1))) υ := by
      dsimp only
      rw [bd_eq, bd_eq, z0, z2]
      have y67 : (sI (sI υ 67 2 (nI (min 99 (vN σ 1 10 + 1)))) 84 0 ((sI υ 67 2 (nI (min 99 (vN σ 1 10 + 1)))).1 84 0 + 1)).1 67 2 = nI (min 99 (vN σ 1 10 + 1)) := by rw [rd_ne (by decide), rd_in, if_pos rfl]
      rw [y67]
      apply hQ
      generalize hω : sI (sI υ 67 2 (nI (min 99 (vN σ 1 10 + 1)))) 84 0 ((sI υ 67 2 (nI (min 99 (vN σ 1 10 + 1)))).1 84 0 + 1) = ω
      have w0 : ∀ c, c ≠ 60 → c ≠ 61 → c ≠ 62 → c ≠ 64 → c ≠ 67 → c ≠ 78 → c ≠ 79 → c ≠ 84 → ω.1 c = ρ.1 c := fun c a1 a2 a3 a4 a5 a6 a7 a8 => by rw [← hω, rd_ne a8, rd_ne a5, u1 c a1 a6 a7 a2 a3 a4 a8]
      have wσ : ∀ c, (c = 0 ∨ c = 4 ∨ c = 6 ∨ c = 7 ∨ c = 9 ∨ (10 < c ∧ c < 16) ∨ c = 28 ∨ c = 31 ∨ c = 32 ∨ (35 < c ∧ c < 39) ∨ (39 < c ∧ c < 60) ∨ c = 63 ∨ c = 65 ∨ c = 66 ∨ (67 < c ∧ c < 78) ∨ (79 < c ∧ c < 84) ∨ 84 < c) → ω.1 c = σ.1 c := fun c hc => by rw [w0 c (by omega) (by omega) (by omega) (by omega) (by omega) (by omega) (by omega) (by omega), rσ c (by omega)]
      have w60 : ∀ j, j ≠ 30 → j ≠ 31 → j ≠ 32 → ω.1 60 j = σ.1 60 j := fun j a b c => by rw [← hω, rd_ne (by decide), rd_ne (by decide), u2 j a b c, rσ 60 (by omega)]
      have wc : ∀ c, c ≠ 60 → c ≠ 61 → c ≠ 62 → c ≠ 64 → c ≠ 67 → c ≠ 78 → c ≠ 79 → c ≠ 84 → c ≠ 1 → c ≠ 39 → ω.1 c = τ.1 c := fun c a1 a2 a3 a4 a5 a6 a7 a8 a9 a10 => by rw [w0 c a1 a2 a3 a4 a5 a6 a7 a8, rlo c a9 a10]
      have q61 : ω.1 61 = ω.1 2 := by
        funext k
        rw [← hω, rd_ne (by decide), rd_ne (by decide), u4, hω, wc 2 (by decide) (by decide) (by decide) (by decide) (by decide) (by decide) (by decide) (by decide) (by decide) (by decide), h5]
      have q62 : ω.1 62 = ω.1 3 := by
        funext k
        rw [← hω, rd_ne (by decide), rd_ne (by decide), u5, hω, wc 3 (by decide) (by decide) (by decide) (by decide) (by decide) (by decide) (by decide) (by decide) (by decide) (by decide), h7]
      have q64 : ω.1 64 = ω.1 5 := by
        funext k
        rw [← hω, rd_ne (by decide), rd_ne (by decide), u6, hω, wc 5 (by decide) (by decide) (by decide) (by decide) (by decide) (by decide) (by decide) (by decide) (by decide) (by decide), h8]
      have u70 : υ.1 84 0 = σ.1 39 0 := by rw [u7 0, if_neg (by decide), if_neg (by decide)]
      have q84 : ω.1 84 = ω.1 39 := by
        funext j
        rw [w0 39 (by decide) (by decide) (by decide) (by decide) (by decide) (by decide) (by decide) (by decide), r39, ← hω, rd_in, rd_ne (by decide), u70, u7 j, h9 j]
        by_cases e0 : j = 0
        · rw [if_pos e0, if_pos e0]; rfl
        · rw [if_neg e0, if_neg e0]
      have w1 : ∀ j, j ≠ 10 → ω.1 1 j = σ.1 1 j := fun j hj => by rw [w0 1 (by decide) (by decide) (by decide) (by decide) (by decide) (by decide) (by decide) (by decide), r1' j hj]
      have w110 : ω.1 1 10 = nI (min 99 (vN σ 1 10 + 1)) := by rw [w0 1 (by decide) (by decide) (by decide) (by decide) (by decide) (by decide) (by decide) (by decide), r1]
      have w67 : ∀ j, ω.1 67 j = if j = 2 then nI (min 99 (vN σ 1 10 + 1)) else σ.1 67 j := fun j => by rw [← hω, rd_ne (by decide), rd_in, u1 67 (by decide) (by decide) (by decide) (by decide) (by decide) (by decide) (by decide), rσ 67 (by omega)]
      obtain ⟨⟨a1, a2, a3, a4, a5, a6⟩, ⟨e1, e2, e3, e4, e5⟩, ⟨mC, mP, ⟨hn', en'⟩, ⟨hp', ep'⟩, hr, hq'⟩, s1, s2, s3⟩ := id hA
      have x1 : mC = nC := nI_inj (by omega) (by omega) (en'.symm.trans en)
      have x2 : mP = nP := nI_inj (by omega) (by omega) (ep'.symm.trans ep)
      subst x1; subst x2
      have w8 : ω.1 8 1 = σ.1 8 1 := by rw [wc 8 (by decide) (by decide) (by decide) (by decide) (by decide) (by decide) (by decide) (by decide) (by decide) (by decide), h2]
      have wl : sameLaw σ ω := sameLaw_of (wσ 73 (by omega)) (wσ 74 (by omega)) (wσ 75 (by omega)) (wσ 76 (by omega)) (wσ 77 (by omega)) (w60 29 (by decide) (by decide) (by decide))
      refine ⟨⟨⟨q61, q62, by rw [wσ 63 (by omega), wσ 4 (by omega), a3], q64, by rw [wσ 65 (by omega), wσ 6 (by omega), a5], by rw [wσ 66 (by omega), wσ 7 (by omega), a6]⟩, ⟨by rw [w60 1 (by decide) (by decide) (by decide), w1 4 (by decide), e1], by rw [w60 6 (by decide) (by decide) (by decide), w1 7 (by decide), e2], by rw [w67, if_neg (by decide), w1 8 (by decide), e3], by rw [w67, if_neg (by decide), w1 9 (by decide), e4], by rw [w67, if_pos rfl, w110]⟩, ⟨mC, mP, ⟨hn, by rw [w1 4 (by decide), en]⟩, ⟨hp, by rw [w1 7 (by decide), ep]⟩, fun k hk => ?_, fun q hqq => by rw [wσ 6 (by omega), wσ 7 (by omega)]; exact hq' q hqq⟩, by rw [w1 8 (by decide)]; exact s1, by rw [w1 9 (by decide)]; exact s2, by rw [w110]; exact nI_inR (b := 99) (by omega) (by decide)⟩,
        IT_c hT (by rw [wσ 0 (by omega)]) (w60 17 (by decide) (by decide) (by decide)) (wσ 14 (by omega)) (wσ 72 (by omega)),
        IC_c hC (w1 4 (by decide)) (w1 7 (by decide)) (wσ 36 (by omega)) (wσ 37 (by omega)) (w60 10 (by decide) (by decide) (by decide)) (w60 11 (by decide) (by decide) (by decide)) (wσ 68 (by omega)) (wσ 69 (by omega)) (wσ 70 (by omega)) (wσ 71 (by omega)), ?_,
        IB_c hB' (wσ 89 (by omega)) (wσ 90 (by omega)) (wσ 58 (by omega)) (wσ 59 (by omega)) (by rw [wσ 57 (by omega)]) (by rw [wσ 57 (by omega)]) (w60 47 (by decide) (by decide) (by decide)) (w60 49 (by decide) (by decide) (by decide)),
        IS_c hS (by rw [wσ 57 (by omega)]) (wσ 91 (by omega)) (wσ 92 (by omega)) (fun s hs => wσ _ (by omega)) (by rw [← hω, rd_2, rd_2, u3, r2]), ?_,
        IL_c hL' (wσ 9 (by omega)) w8 wl⟩
      · obtain ⟨b1, b2, b3, b4⟩ := hr k hk
        have hlt : hnx g σ k < 2048 := nx_lt (stN_lt hB hk)
        obtain ⟨_, _, _, c8, c9⟩ := hB.2.1 k hk
        rw [wc 2 (by decide) (by decide) (by decide) (by decide) (by decide) (by decide) (by decide) (by decide) (by decide) (by decide), h5, if_pos hk, wc 3 (by decide) (by decide) (by decide) (by decide) (by decide) (by decide) (by decide) (by decide) (by decide) (by decide), h7, if_pos hk, wσ 4 (by omega), wc 5 (by decide) (by decide) (by decide) (by decide) (by decide) (by decide) (by decide) (by decide) (by decide) (by decide), h8, if_pos hk]
        exact ⟨nI_inR (b := 255) (by omega) (by decide), nI_inR (b := 7) (by omega) (by decide), b3, nI_inR (b := 9) (by omega) (by decide)⟩
      · obtain ⟨_, hcase⟩ := hI2
        refine ⟨q84, ?_⟩
        rw [w60 40 (by decide) (by decide) (by decide), w60 41 (by decide) (by decide) (by decide), w60 42 (by decide) (by decide) (by decide), w1 4 (by decide), wσ 38 (by omega), wσ 40 (by omega), wσ 41 (by omega), wσ 42 (by omega), wσ 43 (by omega), wσ 85 (by omega), wσ 86 (by omega), wσ 87 (by omega), wσ 88 (by omega)]
        exact hcase
      · have := IKb_c (M' := 16 * (N + 1)) (σ' := ω) hKτ (by omega) (fun k hk => ⟨fun j _ => by rw [wc _ (by omega) (by omega) (by omega) (by omega) (by omega) (by omega) (by omega) (by omega) (by omega) (by omega)], wc _ (by omega) (by omega) (by omega) (by omega) (by omega) (by omega) (by omega) (by omega) (by omega) (by omega)⟩)
        exact this
    have e67 : υ.1 67 2 = nI (vN σ 1 10) := by rw [u1 67 (by decide) (by decide) (by decide) (by decide) (by decide) (by decide) (by decide), rσ 67 (by omega), hq.2.2.2.2.2, hB.2.2.2.2.1]
    show w_X12_hourAt 1 υ _
    unfold w_X12_hourAt
    rw [z2, e67, nI_1]
    by_cases hh : vN σ 1 10 + 1 ≤ 99
    · rw [if_pos (show nI (vN σ 1 10 + 1) ≤ 99 from nI_le (b := 99) hh (by decide))]
      rw [Nat.min_eq_right hh] at key
      rw [Nat.min_eq_right hh]
      exact key
    · rw [if_neg (show ¬ nI (vN σ 1 10 + 1) ≤ 99 from nI_ge (a := 99) (by omega) (by omega))]
      rw [Nat.min_eq_left (by omega)] at key
      rw [Nat.min_eq_left (by omega)]
      exact key
