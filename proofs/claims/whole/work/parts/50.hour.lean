/-! an hour passes -/
def sm (G : Nat → Nat) : Nat → Nat
  | 0 => 0
  | n + 1 => sm G n + G n
theorem sm_le {G : Nat → Nat} {b : Nat} : ∀ {n : Nat}, (∀ i, i < n → G i ≤ b) → sm G n ≤ n * b
  | 0, _ => Nat.zero_le _
  | n + 1, h => by
    show sm G n + G n ≤ (n + 1) * b
    have := sm_le (n := n) (fun i hi => h i (by omega))
    have := h n (by omega)
    rw [Nat.succ_mul]
    omega
/-- where a carriage is an hour on, how far it went, how many places are near -/
def hnx (g : Int32 → Int32 → Int32 → Int32 → Int32 → Int32 → Int32) (σ : Sg) (k : Nat) : Nat := nx (lP g σ k (vN σ 4 k)) (vN σ 4 k) (stN σ k) 0 0
def hng (g : Int32 → Int32 → Int32 → Int32 → Int32 → Int32 → Int32) (σ : Sg) (k : Nat) : Nat := ng (lP g σ k (vN σ 4 k)) (vN σ 4 k) (stN σ k) 0 0
def hnp (g : Int32 → Int32 → Int32 → Int32 → Int32 → Int32 → Int32) (σ : Sg) (nP k : Nat) : Nat := cnt (fun q => nr (vN σ 1 8) (hnx g σ k / 8) (vN σ 6 q)) nP
/-- the class's state behind i carriages -/
def HX (g : Int32 → Int32 → Int32 → Int32 → Int32 → Int32 → Int32) (nP : Nat) (σ τ : Sg) (i : Nat) : Prop :=
  (∀ c, ¬ SX c → c ≠ 2 → c ≠ 3 → c ≠ 5 → c ≠ 39 → τ.1 c = σ.1 c) ∧ τ.1 8 1 = σ.1 8 1 ∧ τ.2 = σ.2 ∧
  (∀ k, τ.1 2 k = if k < i then nI (hnx g σ k / 8) else σ.1 2 k) ∧ (∀ k, τ.1 3 k = if k < i then nI (hnx g σ k % 8) else σ.1 3 k) ∧ (∀ k, τ.1 5 k = if k < i then nI (vN σ 5 k - 1) else σ.1 5 k) ∧
  (∀ j, τ.1 39 j = if j = 1 then σ.1 39 1 + nI (sm (hng g σ) i) else if j = 4 then σ.1 39 4 + nI (sm (hnp g σ nP) i) else σ.1 39 j)
theorem HX.lo {g : Int32 → Int32 → Int32 → Int32 → Int32 → Int32 → Int32} {nP i : Nat} {σ τ : Sg} (h : HX g nP σ τ i) {c : Nat} (hc : c = 0 ∨ c = 1 ∨ c = 4 ∨ c = 6 ∨ c = 7 ∨ c = 9 ∨ (10 < c ∧ c < 16) ∨ c = 28 ∨ c = 31 ∨ c = 32 ∨ (35 < c ∧ c < 39) ∨ 39 < c) : τ.1 c = σ.1 c := h.1 c (by unfold SX; omega) (by omega) (by omega) (by omega) (by omega)
theorem hour1_x {g : Int32 → Int32 → Int32 → Int32 → Int32 → Int32 → Int32} {nC nP : Nat} {σ : Sg} {J : Sg → Prop} (hB : Bs σ nC nP) (h3 : G3 g) (hX : XL σ g) : ∀ (d i M : Nat) (τ : Sg), i + d = nC → HX g nP σ τ i → IKb M τ → M + d < 100000 → (∀ τ', HX g nP σ τ' nC → IKb (M + d) τ' → J τ') → w_X4_passHour_l2 J (d + 1) (nI i) τ
  | 0, i, M, τ, h, hH, hK, hM, hJ => by
    have h6 := hB.1.1
    have : i = nC := by omega
    subst this
    unfold w_X4_passHour_l2
    rw [hH.lo (c := 1) (by omega), hB.1.2.2.1, if_pos (nI_le (Nat.le_refl _) (by omega))]
    exact hJ τ hH hK
  | d + 1, i, M, τ, h, hH, hK, hM, hJ => by
    have h6 := hB.1.1
    have hi : i < nC := by omega
    obtain ⟨⟨c1, c2⟩, ⟨c3, c4⟩, ⟨c5, c6, c7⟩, ⟨c8, c9⟩⟩ := hB.2.1 i hi
    obtain ⟨h1, h2, h4, h5, h7, h8, h9⟩ := id hH
    have hv : vp_in (nI i) 6 := vp_nI (by omega) (by decide)
    unfold w_X4_passHour_l2
    rw [hH.lo (c := 1) (by omega), hB.1.2.2.1, if_neg (nI_ge (by omega) (by omega)), cl_nI (by omega), hH.lo (c := 4) (by omega), c5, nI_1]
    refine ⟨hv, hv, start_x (by omega) h3 (XL_c hX (hH.lo (by omega)) h2) (by rw [h8, if_neg (by omega), c8]) c9 (by rw [hH.lo (c := 1) (by omega), hB.2.2.2.2.1]) hB.2.2.2.2.2 hK (by omega) (fun τ1 hs hC hK1 => ?_)⟩
    rw [hH.lo (c := 1) (by omega)] at hC
    refine stand_x (by omega) hC.1.1 (by rw [hs.1 2 (by omega), h5, if_neg (by omega), c1]) (by rw [hs.1 3 (by omega), h7, if_neg (by omega), c3]) ?_
    refine next_x (t := 0) (by omega) hC hK1 (by omega) (stN_lt hB hi) (by decide) (by omega) (Or.inr (Or.inl rfl)) (fun τ2 hf _ hK2 hg => ?_)
    have hlt := nx_lt (l := lw g (σ.1 1 9) (vN σ 5 i) (vN σ 1 10) i (vN σ 4 i)) (p := vN σ 4 i) (t := 0) (b := 0) (stN_lt hB hi)
    have hx' : nx (lw g (σ.1 1 9) (vN σ 5 i) (vN σ 1 10) i (vN σ 4 i)) (vN σ 4 i) (8 * vN σ 2 i + vN σ 3 i) 0 0 = hnx g σ i := rfl
    have hg' : ng (lw g (σ.1 1 9) (vN σ 5 i) (vN σ 1 10) i (vN σ 4 i)) (vN σ 4 i) (8 * vN σ 2 i + vN σ 3 i) 0 0 = hng g σ i := rfl
    rw [hg'] at hg
    rw [hx']
    have hlt' : hnx g σ i < 2048 := hlt
    have o2 : ∀ c, c ≠ 8 → c ≠ 10 → c ≠ 16 + 2 * i → c ≠ 17 + 2 * i → τ2.1 c = τ.1 c := fun c a b e f => by rw [hf.1 c a b e f, hs.1 c e]
    simp only [bd_eq]
    rw [sh3 (by omega), an7 (by omega)]
    have s5 : (sI (sI τ2 2 i (nI (hnx g σ i / 8))) 3 i (nI (hnx g σ i % 8))).1 5 i = nI (vN σ 5 i) := by rw [rd_ne (by decide), rd_ne (by decide), o2 5 (by omega) (by omega) (by omega) (by omega), h8, if_neg (by omega), c8]
    rw [s5, show (1 : Int32) = nI 1 from rfl, shoe_x (by omega) (by decide)]
    refine ⟨hv, hv, hv, hv, ?_⟩
    have s39 : (sI (sI (sI τ2 2 i (nI (hnx g σ i / 8))) 3 i (nI (hnx g σ i % 8))) 5 i (nI (vN σ 5 i - 1))).1 39 = τ.1 39 := by rw [rd_ne (by decide), rd_ne (by decide), rd_ne (by decide), o2 39 (by omega) (by omega) (by omega) (by omega)]
    have s16 : (sI (sI (sI τ2 2 i (nI (hnx g σ i / 8))) 3 i (nI (hnx g σ i % 8))) 5 i (nI (vN σ 5 i - 1))).1 (16 + 2 * i) 6 = nI (hng g σ i) := by rw [rd_ne (by omega), rd_ne (by omega), rd_ne (by omega), hg]
    rw [show (Int32.toNatClampNeg (nI 1)) = 1 from rfl, show (Int32.toNatClampNeg 4) = 4 from rfl, s39, s16]
    have hL : LX (sI (sI (sI (sI τ2 2 i (nI (hnx g σ i / 8))) 3 i (nI (hnx g σ i % 8))) 5 i (nI (vN σ 5 i - 1))) 39 1 (τ.1 39 1 + nI (hng g σ i))) nC nP (vN σ 1 8) (vN σ 6) (vN σ 7) := by
      have q : ∀ c, c = 1 ∨ c = 6 ∨ c = 7 → (sI (sI (sI (sI τ2 2 i (nI (hnx g σ i / 8))) 3 i (nI (hnx g σ i % 8))) 5 i (nI (vN σ 5 i - 1))) 39 1 (τ.1 39 1 + nI (hng g σ i))).1 c = σ.1 c := fun c hc => by rw [rd_ne (by omega), rd_ne (by omega), rd_ne (by omega), rd_ne (by omega), o2 c (by omega) (by omega) (by omega) (by omega), hH.lo (by omega)]
      obtain ⟨⟨b1, b2, b3, b4⟩, b5, b6, b7, b8⟩ := hB
      exact ⟨⟨b1, b2, b7.2⟩, by rw [q 1 (by omega), b3], by rw [q 1 (by omega), b4], fun p hp => by rw [q 6 (by omega)]; exact (b6 p hp).1, fun p hp => by rw [q 7 (by omega)]; exact (b6 p hp).2, by rw [q 1 (by omega), b7.1]⟩
    refine pN_x hL (by omega) ?_
    unfold PN
    have h8' := hB.1.2.1
    rw [bc_x (Nat.lt_of_lt_of_le (bN_lt _ _) (p8 h8')), pc_bN _ h8']
    refine hour1_x hB h3 hX d (i + 1) (M + 1) _ (by omega) ?_ ?_ (by omega) (fun τ' a b => hJ τ' a (by rw [show M + (d + 1) = M + 1 + d by omega]; exact b))
    · refine ⟨fun c n1 n2 n3 n4 n5 => ?_, ?_, ?_, fun k => ?_, fun k => ?_, fun k => ?_, fun j => ?_⟩
      · have : c ≠ 8 ∧ c ≠ 10 ∧ c ≠ 16 + 2 * i ∧ c ≠ 17 + 2 * i := by unfold SX at n1; omega
        rw [rd_ne n5, rd_ne n5, rd_ne n4, rd_ne n3, rd_ne n2, o2 c this.1 this.2.1 this.2.2.1 this.2.2.2, h1 c n1 n2 n3 n4 n5]
      · rw [rd_ne (by decide), rd_ne (by decide), rd_ne (by decide), rd_ne (by decide), rd_ne (by decide), hf.2.1, hs.1 8 (by omega), h2]
      · rw [rd_2, rd_2, rd_2, rd_2, rd_2, hf.2.2.2, hs.2.2, h4]
      · rw [rd_ne (by decide), rd_ne (by decide), rd_ne (by decide), rd_ne (by decide), rd_in, o2 2 (by omega) (by omega) (by omega) (by omega), h5]
        by_cases e : k = i
        · subst e; rw [if_pos rfl, if_pos (by omega)]
        · by_cases e2 : k < i
          · rw [if_neg e, if_pos e2, if_pos (by omega)]
          · rw [if_neg e, if_neg e2, if_neg (by omega)]
      · rw [rd_ne (by decide), rd_ne (by decide), rd_ne (by decide), rd_in, rd_ne (by decide), o2 3 (by omega) (by omega) (by omega) (by omega), h7]
        by_cases e : k = i
        · subst e; rw [if_pos rfl, if_pos (by omega)]
        · by_cases e2 : k < i
          · rw [if_neg e, if_pos e2, if_pos (by omega)]
          · rw [if_neg e, if_neg e2, if_neg (by omega)]
      · rw [rd_ne (by decide), rd_ne (by decide), rd_in, rd_ne (by decide), rd_ne (by decide), o2 5 (by omega) (by omega) (by omega) (by omega), h8]
        by_cases e : k = i
        · subst e; rw [if_pos rfl, if_pos (by omega)]
        · by_cases e2 : k < i
          · rw [if_neg e, if_pos e2, if_pos (by omega)]
          · rw [if_neg e, if_neg e2, if_neg (by omega)]
      · rw [rd_in, rd_in, rd_in, s39, if_neg (show ¬ (4 : Nat) = 1 by decide), h9 1, h9 4, h9 j, if_pos rfl, if_neg (show ¬ (4 : Nat) = 1 by decide), if_pos rfl, add_nI, add_nI]
        by_cases e4 : j = 4
        · rw [if_pos e4, if_neg (by omega), if_pos e4]; rfl
        · rw [if_neg e4]
          by_cases e1 : j = 1
          · rw [if_pos e1, if_pos e1]; rfl
          · rw [if_neg e1, if_neg e1, if_neg e4, if_neg e1, if_neg e4]
    · refine IKb_c hK2 (Nat.le_refl _) (fun k hk => ⟨fun j _ => ?_, ?_⟩)
      · rw [rd_ne (by omega), rd_ne (by omega), rd_ne (by omega), rd_ne (by omega), rd_ne (by omega)]
      · rw [rd_ne (by omega), rd_ne (by omega), rd_ne (by omega), rd_ne (by omega), rd_ne (by omega)]
/-- the reference's state behind i carriages -/
def HM (g : Int32 → Int32 → Int32 → Int32 → Int32 → Int32 → Int32) (nP : Nat) (σ ρ τ : Sg) (i : Nat) : Prop :=
  (∀ c, c ≠ 60 → c ≠ 78 → c ≠ 79 → c ≠ 61 → c ≠ 62 → c ≠ 64 → c ≠ 84 → τ.1 c = ρ.1 c) ∧ (∀ i, i ≠ 30 → i ≠ 31 → i ≠ 32 → τ.1 60 i = ρ.1 60 i) ∧ τ.2 = ρ.2 ∧
  (∀ k, τ.1 61 k = if k < i then nI (hnx g σ k / 8) else σ.1 2 k) ∧ (∀ k, τ.1 62 k = if k < i then nI (hnx g σ k % 8) else σ.1 3 k) ∧ (∀ k, τ.1 64 k = if k < i then nI (vN σ 5 k - 1) else σ.1 5 k) ∧
  (∀ j, τ.1 84 j = if j = 1 then σ.1 39 1 + nI (sm (hng g σ) i) else if j = 4 then σ.1 39 4 + nI (sm (hnp g σ nP) i) else σ.1 39 j)
theorem hour2_m {nC nP r c : Nat} {sp wo : Nat → Nat} {v : Int32} {J : Sg → Prop} (hc : c < 256) (hJ : ∀ τ : Sg, True) : ∀ (d i : Nat) (ρ τ : Sg), i + d = nP → LM ρ nC nP r sp wo → (∀ x, x ≠ 84 → τ.1 x = ρ.1 x) → τ.2 = ρ.2 → ρ.1 60 30 = nI c → (∀ j, τ.1 84 j = if j = 4 then v + nI (cnt (fun q => nr r c (sp q)) i) else ρ.1 84 j) →
    (∀ τ', (∀ x, x ≠ 84 → τ'.1 x = ρ.1 x) → τ'.2 = ρ.2 → (∀ j, τ'.1 84 j = if j = 4 then v + nI (cnt (fun q => nr r c (sp q)) nP) else ρ.1 84 j) → J τ') → w_X12_hour_l78 J (d + 1) (nI i) τ
  | 0, i, ρ, τ, h, hL, h1, h2, h30, h84, hQ => by
    obtain ⟨⟨l1, l2, l3⟩, l4, l5, l6, l7, l8⟩ := id hL
    have : i = nP := by omega
    subst this
    unfold w_X12_hour_l78
    rw [h1 60 (by decide), l5, if_pos (nI_le (Nat.le_refl _) (by omega))]
    exact hQ τ h1 h2 h84
  | d + 1, i, ρ, τ, h, hL, h1, h2, h30, h84, hQ => by
    obtain ⟨⟨l1, l2, l3⟩, l4, l5, l6, l7, l8⟩ := id hL
    unfold w_X12_hour_l78
    rw [h1 60 (by decide), l5, if_neg (nI_ge (by omega) (by omega)), cl_nI (by omega), h30, h1 65 (by decide), (l6 i (by omega)).1, nrM hc (l6 i (by omega)).2 l3 (by rw [h1 67 (by decide), l8]), bd_eq, nI_1]
    refine ⟨vp_nI (by omega) (by decide), ?_⟩
    have e : cnt (fun q => nr r c (sp q)) (i + 1) = cnt (fun q => nr r c (sp q)) i + if nr r c (sp i) = true then 1 else 0 := rfl
    by_cases g : nr r c (sp i) = true
    · rw [if_pos g, if_neg one_ne, bd_eq, show (Int32.toNatClampNeg 4) = 4 from rfl]
      refine hour2_m hc hJ d (i + 1) ρ _ (by omega) hL (fun x hx => by rw [rd_ne hx, h1 x hx]) (by rw [rd_2, h2]) h30 (fun j => ?_) hQ
      rw [e, if_pos g, rd_in, h84 4, if_pos rfl, h84 j]
      by_cases e4 : j = 4
      · rw [if_pos e4, if_pos e4, show (1 : Int32) = nI 1 from rfl, add_nI]
      · rw [if_neg e4, if_neg e4, if_neg e4]
    · rw [if_neg g, if_pos rfl]
      refine hour2_m hc hJ d (i + 1) ρ τ (by omega) hL h1 h2 h30 (fun j => ?_) hQ
      rw [e, if_neg g, Nat.add_zero, h84 j]
theorem hour1_m {g : Int32 → Int32 → Int32 → Int32 → Int32 → Int32 → Int32} {nC nP : Nat} {σ ρ : Sg} {J : Sg → Prop} (hB : Bs σ nC nP) (hq : Mq σ) (h3 : G3 g) (hL : ML σ g) (hρ : ∀ c, 60 ≤ c → ρ.1 c = σ.1 c) : ∀ (d i : Nat) (τ : Sg), i + d = nC → HM g nP σ ρ τ i → (∀ τ', HM g nP σ ρ τ' nC → J τ') → w_X12_hour_l2 J (d + 1) (nI i) τ
  | 0, i, τ, h, hH, hJ => by
    have h6 := hB.1.1
    have : i = nC := by omega
    subst this
    unfold w_X12_hour_l2
    rw [hH.2.1 1 (by decide) (by decide) (by decide), hρ 60 (by decide), hq.2.1, hB.1.2.2.1, if_pos (nI_le (Nat.le_refl _) (by omega))]
    exact hJ τ hH
  | d + 1, i, τ, h, hH, hJ => by
    have h6 := hB.1.1
    have hi : i < nC := by omega
    obtain ⟨⟨c1, c2⟩, ⟨c3, c4⟩, ⟨c5, c6, c7⟩, ⟨c8, c9⟩⟩ := hB.2.1 i hi
    obtain ⟨h1, h2, h4, h5, h7, h8, h9⟩ := id hH
    have hv : vp_in (nI i) 6 := vp_nI (by omega) (by decide)
    have el : ∀ c, (c = 63 ∨ (64 < c ∧ c < 78)) → τ.1 c = σ.1 c := fun c hc => by rw [h1 c (by omega) (by omega) (by omega) (by omega) (by omega) (by omega) (by omega), hρ c (by omega)]
    unfold w_X12_hour_l2
    rw [hH.2.1 1 (by decide) (by decide) (by decide), hρ 60 (by decide), hq.2.1, hB.1.2.2.1, if_neg (nI_ge (by omega) (by omega)), nI_1]
    refine layNow_m (by omega) (c := vN σ 2 i) (w := vN σ 3 i) (by rw [h5, if_neg (by omega), c1]) (by rw [h7, if_neg (by omega), c3]) c4 (fun τ1 hr1 hs1 hA1 => ?_)
    rw [bd_eq]
    have hG : GM (sI τ1 60 32 0) i (vN σ 4 i) (lP g σ i (vN σ 4 i)) := by
      refine ⟨fun t w => lw_3 h3 t w, g, vN σ 5 i, vN σ 1 10, ML_c hL (sameLaw_of ?_ ?_ ?_ ?_ ?_ ?_), ?_, ?_, c9, ?_, hB.2.2.2.2.2, ?_⟩
      · rw [rd_ne (by decide), hs1.1 73 (by decide), el 73 (by decide)]
      · rw [rd_ne (by decide), hs1.1 74 (by decide), el 74 (by decide)]
      · rw [rd_ne (by decide), hs1.1 75 (by decide), el 75 (by decide)]
      · rw [rd_ne (by decide), hs1.1 76 (by decide), el 76 (by decide)]
      · rw [rd_ne (by decide), hs1.1 77 (by decide), el 77 (by decide)]
      · rw [rd_in, if_neg (by decide), hs1.2.1 29 (by decide) (by decide) (by decide), h2 29 (by decide) (by decide) (by decide), hρ 60 (by decide)]
      · rw [rd_ne (by decide), hs1.1 63 (by decide), el 63 (by decide), hq.1.2.2.1, c5]
      · rw [rd_ne (by decide), hs1.1 64 (by decide), h8, if_neg (by omega), c8]
      · rw [rd_ne (by decide), hs1.1 67 (by decide), el 67 (by decide), hq.2.2.2.2.2, hB.2.2.2.2.1]
      · rw [rd_ne (by decide), hs1.1 67 (by decide), el 67 (by decide), hq.2.2.2.2.1]; rfl
    refine hour_m (t := 0) (v := 0) (by omega) hG (stN_lt hB hi) (by decide) (by omega) (Or.inr (Or.inl rfl)) ⟨by rw [rd_in, if_neg (by decide)]; exact hA1.1, by rw [rd_in, if_neg (by decide)]; exact hA1.2⟩ (by rw [rd_in, if_pos rfl]) (fun τ2 hf _ hA2 hg => ?_)
    have hx' : nx (lP g σ i (vN σ 4 i)) (vN σ 4 i) (stN σ i) 0 0 = hnx g σ i := rfl
    have hg' : ng (lP g σ i (vN σ 4 i)) (vN σ 4 i) (stN σ i) 0 0 = hng g σ i := rfl
    rw [hg', Int32.zero_add] at hg
    rw [hx'] at hA2
    have hlt : hnx g σ i < 2048 := nx_lt (stN_lt hB hi)
    have o2 : ∀ c, c ≠ 60 → c ≠ 78 → c ≠ 79 → τ2.1 c = τ.1 c := fun c a b e => by rw [hf.1 c a b e, rd_ne a, hs1.1 c a]
    have o60 : ∀ j, j ≠ 30 → j ≠ 31 → j ≠ 32 → τ2.1 60 j = τ.1 60 j := fun j a b e => by rw [hf.2.1 j a b e, rd_in, if_neg e, hs1.2.1 j a b e]
    rw [cl_nI (by omega), hA2.1]
    refine ⟨hv, ?_⟩
    rw [bd_eq, rd_ne (show 60 ≠ 61 by decide), hA2.2]
    refine ⟨hv, ?_⟩
    rw [bd_eq]
    have s64 : (sI (sI τ2 61 i (nI (hnx g σ i / 8))) 62 i (nI (hnx g σ i % 8))).1 64 i = nI (vN σ 5 i) := by rw [rd_ne (by decide), rd_ne (by decide), o2 64 (by decide) (by decide) (by decide), h8, if_neg (by omega), c8]
    rw [s64]
    refine ⟨hv, ?_⟩
    have key : (fun r14 σ13 => vp_in (nI i) 6 ∧ bd (sI σ13 64 i r14) fun σ15 => bd (sI σ15 84 (Int32.toNatClampNeg (1 : Int32)) ((σ15.1 84 (Int32.toNatClampNeg (1 : Int32))) + (σ15.1 60 32))) fun σ16 => bd (fun (σ17 : Sg) => w_X12_hour_l2 J (d + 1) (nI (i + 1)) σ17) fun J119 => ∃ n, w_X12_hour_l78 J119 n (0 : Int32) σ16) (nI (vN σ 5 i - 1)) (sI (sI τ2 61 i (nI (hnx g σ i / 8))) 62 i (nI (hnx g σ i % 8))) := by
      refine ⟨hv, ?_⟩
      rw [bd_eq, show (Int32.toNatClampNeg 1) = 1 from rfl, bd_eq, bd_eq]
      have s84 : (sI (sI (sI τ2 61 i (nI (hnx g σ i / 8))) 62 i (nI (hnx g σ i % 8))) 64 i (nI (vN σ 5 i - 1))).1 84 = τ.1 84 := by rw [rd_ne (by decide), rd_ne (by decide), rd_ne (by decide), o2 84 (by decide) (by decide) (by decide)]
      have s32 : (sI (sI (sI τ2 61 i (nI (hnx g σ i / 8))) 62 i (nI (hnx g σ i % 8))) 64 i (nI (vN σ 5 i - 1))).1 60 = τ2.1 60 := by rw [rd_ne (by decide), rd_ne (by decide), rd_ne (by decide)]
      rw [s84, s32, hg]
      have hLm : LM (sI (sI (sI (sI τ2 61 i (nI (hnx g σ i / 8))) 62 i (nI (hnx g σ i % 8))) 64 i (nI (vN σ 5 i - 1))) 84 1 (τ.1 84 1 + nI (hng g σ i))) nC nP (vN σ 1 8) (vN σ 6) (vN σ 7) := by
        have q : ∀ c, c = 65 ∨ c = 66 ∨ c = 67 → (sI (sI (sI (sI τ2 61 i (nI (hnx g σ i / 8))) 62 i (nI (hnx g σ i % 8))) 64 i (nI (vN σ 5 i - 1))) 84 1 (τ.1 84 1 + nI (hng g σ i))).1 c = σ.1 c := fun c hc => by rw [rd_ne (by omega), rd_ne (by omega), rd_ne (by omega), rd_ne (by omega), o2 c (by omega) (by omega) (by omega), el c (by omega)]
        have q6 : ∀ j, j = 1 ∨ j = 6 → (sI (sI (sI (sI τ2 61 i (nI (hnx g σ i / 8))) 62 i (nI (hnx g σ i % 8))) 64 i (nI (vN σ 5 i - 1))) 84 1 (τ.1 84 1 + nI (hng g σ i))).1 60 j = σ.1 60 j := fun j hj => by rw [rd_ne (by decide), s32, o60 j (by omega) (by omega) (by omega), h2 j (by omega) (by omega) (by omega), hρ 60 (by decide)]
        obtain ⟨⟨b1, b2, b3, b4⟩, b5, b6, b7, b8⟩ := hB
        exact ⟨⟨b1, b2, b7.2⟩, by rw [q6 1 (by omega), hq.2.1, b3], by rw [q6 6 (by omega), hq.2.2.1, b4], fun p hp => by rw [q 65 (by omega), hq.1.2.2.2.2.1]; exact (b6 p hp).1, fun p hp => by rw [q 66 (by omega), hq.1.2.2.2.2.2]; exact (b6 p hp).2, by rw [q 67 (by omega), hq.2.2.2.1, b7.1]⟩
      refine ⟨nP + 1, hour2_m (nC := nC) (sp := vN σ 6) (wo := vN σ 7) (r := vN σ 1 8) (c := hnx g σ i / 8) (v := τ.1 84 4) (by omega) (fun _ => trivial) nP 0 _ _ (by omega) hLm (fun _ _ => rfl) rfl (by rw [rd_ne (by decide), s32, hA2.1]) (fun j => ?_) (fun τ3 f1 f2 f3 => ?_)⟩
      · rw [rd_in, s84]
        by_cases e4 : j = 4
        · subst e4; rw [if_neg (by decide), if_pos rfl]; show _ = _ + nI 0; rw [nI_0, Int32.add_zero]
        · rw [if_neg e4]
      · refine hour1_m hB hq h3 hL hρ d (i + 1) τ3 (by omega) ⟨fun c n1 n2 n3 n4 n5 n6 n7 => ?_, fun j n1 n2 n3 => ?_, ?_, fun k => ?_, fun k => ?_, fun k => ?_, fun j => ?_⟩ hJ
        · rw [f1 c n7, rd_ne n7, rd_ne n6, rd_ne n5, rd_ne n4, o2 c n1 n2 n3, h1 c n1 n2 n3 n4 n5 n6 n7]
        · rw [f1 60 (by decide), rd_ne (by decide), s32, o60 j n1 n2 n3, h2 j n1 n2 n3]
        · rw [f2, rd_2, rd_2, rd_2, rd_2, hf.2.2, rd_2, hs1.2.2, h4]
        · rw [f1 61 (by decide), rd_ne (by decide), rd_ne (by decide), rd_ne (by decide), rd_in, o2 61 (by decide) (by decide) (by decide), h5]
          by_cases e : k = i
          · subst e; rw [if_pos rfl, if_pos (by omega)]
          · by_cases e2 : k < i
            · rw [if_neg e, if_pos e2, if_pos (by omega)]
            · rw [if_neg e, if_neg e2, if_neg (by omega)]
        · rw [f1 62 (by decide), rd_ne (by decide), rd_ne (by decide), rd_in, rd_ne (by decide), o2 62 (by decide) (by decide) (by decide), h7]
          by_cases e : k = i
          · subst e; rw [if_pos rfl, if_pos (by omega)]
          · by_cases e2 : k < i
            · rw [if_neg e, if_pos e2, if_pos (by omega)]
            · rw [if_neg e, if_neg e2, if_neg (by omega)]
        · rw [f1 64 (by decide), rd_ne (by decide), rd_in, rd_ne (by decide), rd_ne (by decide), o2 64 (by decide) (by decide) (by decide), h8]
          by_cases e : k = i
          · subst e; rw [if_pos rfl, if_pos (by omega)]
          · by_cases e2 : k < i
            · rw [if_neg e, if_pos e2, if_pos (by omega)]
            · rw [if_neg e, if_neg e2, if_neg (by omega)]
        · rw [f3, rd_in, s84, h9 1, h9 4, h9 j, if_pos rfl, if_neg (show ¬ (4 : Nat) = 1 by decide), if_pos rfl, add_nI, add_nI]
          by_cases e4 : j = 4
          · rw [if_pos e4, if_neg (by omega), if_pos e4]; rfl
          · rw [if_neg e4]
            by_cases e1 : j = 1
            · rw [if_pos e1, if_pos e1]; rfl
            · rw [if_neg e1, if_neg e1, if_neg e4, if_neg e1, if_neg e4]
    unfold w_X12_shoeAt
    by_cases hh : vN σ 5 i ≤ 1
    · rw [if_pos (show nI (vN σ 5 i) ≤ 1 from nI_le (b := 1) hh (by decide))]
      rw [show vN σ 5 i - 1 = 0 by omega] at key
      exact key
    · rw [if_neg (show ¬ nI (vN σ 5 i) ≤ 1 from nI_ge (a := 1) (by omega) (by omega)), show (1 : Int32) = nI 1 from rfl, pk_sub (by omega)]
      exact key
