/-! image, back -/
theorem im1_l {nC : Nat} {J : Sg → Prop} (hn : nC ≤ 6) : ∀ (d i : Nat) (σ : Sg), i + d = nC → σ.1 60 1 = nI nC → (∀ σ', (∀ c, c < 85 ∨ 87 < c → σ'.1 c = σ.1 c) → σ'.2 = σ.2 → (∀ k, i ≤ k → k < nC → σ'.1 85 k = σ.1 61 k ∧ σ'.1 86 k = σ.1 62 k ∧ σ'.1 87 k = σ.1 64 k) → (∀ k, k < i → σ'.1 85 k = σ.1 85 k ∧ σ'.1 86 k = σ.1 86 k ∧ σ'.1 87 k = σ.1 87 k) → J σ') → w_X12_image_l25 J (d + 1) (nI i) σ
  | 0, i, σ, h, h1, hJ => by
    unfold w_X12_image_l25
    rw [h1, if_pos (nI_le (by omega) (by omega))]
    exact hJ σ (fun _ _ => rfl) rfl (fun k h1 h2 => by omega) (fun _ _ => ⟨rfl, rfl, rfl⟩)
  | d + 1, i, σ, h, h1, hJ => by
    unfold w_X12_image_l25
    have hv : vp_in (nI i) 6 := vp_nI (by omega) (by decide)
    rw [h1, if_neg (nI_ge (by omega) (by omega)), cl_nI (by omega), bd_eq, bd_eq, bd_eq, nI_1]
    refine ⟨hv, hv, hv, hv, hv, hv, im1_l hn d (i + 1) _ (by omega) (by rw [rd_ne (by decide), rd_ne (by decide), rd_ne (by decide), h1]) (fun σ' e1 e2 e3 e4 => hJ σ' (fun c hc => by rw [e1 c hc, rd_ne (by omega), rd_ne (by omega), rd_ne (by omega)]) (by rw [e2]; rfl) (fun k h1 h2 => ?_) (fun k hk => ?_))⟩
    · by_cases e : k = i
      · subst e
        obtain ⟨q1, q2, q3⟩ := e4 k (by omega)
        rw [q1, q2, q3]
        refine ⟨?_, ?_, ?_⟩
        · rw [rd_ne (by decide), rd_ne (by decide), rd_in, if_pos rfl]
        · rw [rd_ne (by decide), rd_in, if_pos rfl, rd_ne (by decide)]
        · rw [rd_in, if_pos rfl, rd_ne (by decide), rd_ne (by decide)]
      · obtain ⟨q1, q2, q3⟩ := e3 k (by omega) h2
        rw [q1, q2, q3]
        refine ⟨?_, ?_, ?_⟩
        · rw [rd_ne (by decide), rd_ne (by decide), rd_ne (by decide)]
        · rw [rd_ne (by decide), rd_ne (by decide), rd_ne (by decide)]
        · rw [rd_ne (by decide), rd_ne (by decide), rd_ne (by decide)]
    · obtain ⟨q1, q2, q3⟩ := e4 k (by omega)
      rw [q1, q2, q3]
      refine ⟨?_, ?_, ?_⟩
      · rw [rd_ne (by decide), rd_ne (by decide), rd_in, if_neg (by omega)]
      · rw [rd_ne (by decide), rd_in, if_neg (by omega), rd_ne (by decide)]
      · rw [rd_in, if_neg (by omega), rd_ne (by decide), rd_ne (by decide)]
theorem im2_l {J : Sg → Prop} : ∀ (d i : Nat) (σ : Sg), i + d = 5 → (∀ σ', (∀ c, c ≠ 88 → σ'.1 c = σ.1 c) → σ'.2 = σ.2 → (∀ k, i ≤ k → k < 5 → σ'.1 88 k = σ.1 84 k) → (∀ k, k < i → σ'.1 88 k = σ.1 88 k) → J σ') → w_X12_image_l77 J (d + 1) (nI i) σ
  | 0, i, σ, h, hJ => by
    have : i = 5 := by omega
    subst this
    unfold w_X12_image_l77
    rw [if_pos (by decide)]
    exact hJ σ (fun _ _ => rfl) rfl (fun k h1 h2 => by omega) (fun _ _ => rfl)
  | d + 1, i, σ, h, hJ => by
    unfold w_X12_image_l77
    have hv : vp_in (nI i) 5 := vp_nI (by omega) (by decide)
    rw [if_neg (show ¬ (5 : Int32) ≤ nI i from nI_ge (b := 5) (by omega) (by decide)), cl_nI (by omega), bd_eq, nI_1]
    refine ⟨hv, hv, im2_l d (i + 1) _ (by omega) (fun σ' e1 e2 e3 e4 => hJ σ' (fun c hc => by rw [e1 c hc, rd_ne hc]) (by rw [e2]; rfl) (fun k h1 h2 => ?_) (fun k hk => ?_))⟩
    · by_cases e : k = i
      · subst e
        rw [e4 k (by omega), rd_in, if_pos rfl]
      · rw [e3 k (by omega) h2, rd_ne (by decide)]
    · rw [e4 k (by omega), rd_in, if_neg (by omega)]
theorem op_image {N : Nat} {σ : Sg} (hI : Inv N σ) {Q : Int32 → Int32 → Sg → Prop} (hQ : ∀ r σ', Inv (N + 1) σ' → Q r r σ') : w_X11_image σ (fun r σ1 => w_X12_image σ1 (fun r' σ2 => Q r r' σ2)) := by
  obtain ⟨hA, hT, hC, hI2, hB, hS, hK, hL⟩ := id hI
  obtain ⟨⟨a1, a2, a3, a4, a5, a6⟩, ⟨e1, e2, e3, e4, e5⟩, ⟨nC, nP, ⟨hn, en⟩, ⟨hp, ep⟩, hr, hq⟩, r1, r2, r3⟩ := id hA
  have hdone := hI2.1
  unfold w_X11_image w_X4_keepImage
  simp only [bd_eq]
  have z0 : (Int32.toNatClampNeg 0) = 0 := rfl
  have z5 : (Int32.toNatClampNeg 5) = 5 := rfl
  have z6 : (Int32.toNatClampNeg 6) = 6 := rfl
  have hc6 : cpIn (0 : Int32) (0 : Int32) (6 : Int32) 6 6 := ⟨by decide, by decide, by decide, by decide, by decide⟩
  have hc5 : cpIn (0 : Int32) (0 : Int32) (5 : Int32) 5 5 := ⟨by decide, by decide, by decide, by decide, by decide⟩
  simp only [z0, z5, z6, hc6, hc5, true_and, rd_ne, rd_fn, rd_2, rdr_eq, rdr_ne, rdr_2, rj_1, rj_ne, rj_fn, rjr_1, rjr_eq, rjr_ne, ne_eq, not_false_eq_true, reduceCtorEq, Nat.reduceEqDiff, if_true, if_false, ite_true, ite_false]
  have hx : ∀ τ : Sg, (∀ c, c ≠ 38 → c ≠ 40 → c ≠ 41 → c ≠ 42 → c ≠ 43 → τ.1 c = σ.1 c) → τ.2 = σ.2 → τ.1 38 3 = σ.1 1 4 → τ.1 38 4 = σ.1 1 10 → (∀ k, k < 6 → τ.1 40 k = σ.1 2 k ∧ τ.1 41 k = σ.1 3 k ∧ τ.1 42 k = σ.1 5 k) → (∀ k, k < 5 → τ.1 43 k = σ.1 39 k) → w_X12_image τ (fun r' σ2 => Q (σ.1 39 0) r' σ2) := by
    intro τ t1 t2 t3 t4 t5 t6
    unfold w_X12_image
    simp only [bd_eq]
    refine ⟨nC + 1, im1_l (nC := nC) hn nC 0 _ (by omega) ?_ (fun σ1 f1 f2 f3 _ => ⟨6, im2_l 5 0 σ1 (by decide) (fun σ2 g1 g2 g3 _ => ?_)⟩)⟩
    · simp only [rd_ne, rd_fn, rd_2, rdr_eq, rdr_ne, rdr_2, rj_1, rj_ne, rj_fn, rjr_1, rjr_eq, rjr_ne, ne_eq, not_false_eq_true, reduceCtorEq, Nat.reduceEqDiff, if_true, if_false, ite_true, ite_false]
      rw [t1 60 (by decide) (by decide) (by decide) (by decide) (by decide), e1, en]
    · have o : ∀ c, c ≠ 38 → c ≠ 60 → (c < 40 ∨ 43 < c) → (c < 85 ∨ 88 < c) → σ2.1 c = σ.1 c := fun c h1 h2 h3 h4 => by rw [g1 c (by omega), f1 c (by omega), rd_ne h2, rd_ne h2, rd_ne h2, t1 c h1 (by omega) (by omega) (by omega) (by omega)]
      have o60 : ∀ i, i ≠ 40 → i ≠ 41 → i ≠ 42 → σ2.1 60 i = σ.1 60 i := fun i h1 h2 h3 => by rw [g1 60 (by decide), f1 60 (by decide), rd_in, if_neg h3, rd_in, if_neg h2, rd_in, if_neg h1, t1 60 (by decide) (by decide) (by decide) (by decide) (by decide)]
      have o' : ∀ c, (c ≠ 38 ∧ c ≠ 60 ∧ (c < 40 ∨ 43 < c) ∧ (c < 85 ∨ 88 < c)) → σ2.1 c = σ.1 c := fun c h => o c h.1 h.2.1 h.2.2.1 h.2.2.2
      have x4 : ∀ c, c = 38 ∨ c = 40 ∨ c = 41 ∨ c = 42 ∨ c = 43 → σ2.1 c = τ.1 c := fun c h => by rw [g1 c (by omega), f1 c (by omega), rd_ne (by omega), rd_ne (by omega), rd_ne (by omega)]
      have er : σ2.1 84 (Int32.toNatClampNeg 0) = σ.1 39 0 := by rw [z0, o' 84 (by omega), hdone]
      show Q (σ.1 39 0) (σ2.1 84 (Int32.toNatClampNeg 0)) σ2
      rw [er]
      apply hQ
      refine ⟨IA_c hA (o' 1 (by omega)) ⟨o' 2 (by omega), o' 3 (by omega), o' 4 (by omega), o' 5 (by omega), o' 6 (by omega), o' 7 (by omega)⟩ ⟨o' 61 (by omega), o' 62 (by omega), o' 63 (by omega), o' 64 (by omega), o' 65 (by omega), o' 66 (by omega)⟩ (o60 1 (by decide) (by decide) (by decide)) (o60 6 (by decide) (by decide) (by decide)) (o' 67 (by omega)),
        IT_c hT (by rw [o' 0 (by omega)]) (o60 17 (by decide) (by decide) (by decide)) (o' 14 (by omega)) (o' 72 (by omega)),
        IC_c hC (by rw [o' 1 (by omega)]) (by rw [o' 1 (by omega)]) (o' 36 (by omega)) (o' 37 (by omega)) (o60 10 (by decide) (by decide) (by decide)) (o60 11 (by decide) (by decide) (by decide)) (o' 68 (by omega)) (o' 69 (by omega)) (o' 70 (by omega)) (o' 71 (by omega)), ?_,
        IB_c hB (o' 89 (by omega)) (o' 90 (by omega)) (o' 58 (by omega)) (o' 59 (by omega)) (by rw [o' 57 (by omega)]) (by rw [o' 57 (by omega)]) (o60 47 (by decide) (by decide) (by decide)) (o60 49 (by decide) (by decide) (by decide)),
        IS_c hS (by rw [o' 57 (by omega)]) (o' 91 (by omega)) (o' 92 (by omega)) (fun s hs => o' _ (by omega)) (by rw [g2, f2]; exact t2), IK_c hK (fun k hk => ⟨o' _ (by omega), o' _ (by omega)⟩),
        IL_c hL (o' 9 (by omega)) (by rw [o' 8 (by omega)]) (sameLaw_of (o' 73 (by omega)) (o' 74 (by omega)) (o' 75 (by omega)) (o' 76 (by omega)) (o' 77 (by omega)) (o60 29 (by decide) (by decide) (by decide)))⟩
      refine ⟨by rw [o' 84 (by omega), o' 39 (by omega), hdone], Or.inr ⟨?_, nC, nC, by rw [o' 1 (by omega), en], hn, Nat.le_refl _, ?_, ?_, ?_, ?_, fun k hk => ?_, fun k hk => ?_⟩⟩
      · rw [g1 60 (by decide), f1 60 (by decide), rd_in, if_neg (by decide), rd_in, if_neg (by decide), rd_in, if_pos rfl]
      · rw [x4 38 (by omega), t3, en]
      · rw [g1 60 (by decide), f1 60 (by decide), rd_in, if_neg (by decide), rd_in, if_pos rfl, rd_in, if_neg (by decide), t1 60 (by decide) (by decide) (by decide) (by decide) (by decide), e1, en]
      · rw [g1 60 (by decide), f1 60 (by decide), rd_in, if_pos rfl, x4 38 (by omega), t4, rd_ne (by decide), rd_ne (by decide), t1 67 (by decide) (by decide) (by decide) (by decide) (by decide)]; exact e5
      · rw [x4 38 (by omega), t4]; exact r3
      · obtain ⟨p1, p2, p3⟩ := f3 k (Nat.zero_le _) hk
        obtain ⟨q1, q2, q3⟩ := t5 k (by omega)
        obtain ⟨h1, h2, _, h4⟩ := hr k hk
        have tt : ∀ c, 61 ≤ c → c ≤ 64 → (sI (sI (sI τ 60 40 1) 60 41 (nI nC)) 60 42 (σ.1 67 2)).1 c = σ.1 c := fun c hc hc' => by rw [rd_ne (by omega), rd_ne (by omega), rd_ne (by omega), t1 c (by omega) (by omega) (by omega) (by omega) (by omega)]
        refine ⟨?_, ?_, ?_, ?_, ?_, ?_⟩
        · rw [g1 85 (by decide), p1, x4 40 (by omega), q1, rd_ne (by decide), rd_ne (by decide), rd_ne (by decide), t1 61 (by decide) (by decide) (by decide) (by decide) (by decide), a1]
        · rw [g1 86 (by decide), p2, x4 41 (by omega), q2, rd_ne (by decide), rd_ne (by decide), rd_ne (by decide), t1 62 (by decide) (by decide) (by decide) (by decide) (by decide), a2]
        · rw [g1 87 (by decide), p3, x4 42 (by omega), q3, rd_ne (by decide), rd_ne (by decide), rd_ne (by decide), t1 64 (by decide) (by decide) (by decide) (by decide) (by decide), a4]
        · rw [x4 40 (by omega), q1]; exact h1
        · rw [x4 41 (by omega), q2]; exact h2
        · rw [x4 42 (by omega), q3]; exact h4
      · rw [g3 k (Nat.zero_le _) hk, x4 43 (by omega), t6 k hk, f1 84 (by decide), rd_ne (by decide), rd_ne (by decide), rd_ne (by decide), t1 84 (by decide) (by decide) (by decide) (by decide) (by decide), hdone]
  refine hx _ (fun c h1 h2 h3 h4 h5 => ?_) rfl ?_ ?_ (fun k hk => ⟨?_, ?_, ?_⟩) (fun k hk => ?_)
  · rw [rdr_ne h5, rdr_ne h4, rdr_ne h3, rdr_ne h2, rd_ne h1, rd_ne h1]
  · rw [rdr_ne (by decide), rdr_ne (by decide), rdr_ne (by decide), rdr_ne (by decide), rd_in, if_neg (by decide), rd_in, if_pos rfl]
  · rw [rdr_ne (by decide), rdr_ne (by decide), rdr_ne (by decide), rdr_ne (by decide), rd_in, if_pos rfl]
  · rw [rdr_ne (by decide), rdr_ne (by decide), rdr_ne (by decide), rdr_eq]
    unfold va_cpy
    rw [if_pos (by omega)]
    simp
  · rw [rdr_ne (by decide), rdr_ne (by decide), rdr_eq]
    unfold va_cpy
    rw [if_pos (by omega)]
    simp
  · rw [rdr_ne (by decide), rdr_eq]
    unfold va_cpy
    rw [if_pos (by omega)]
    simp
  · rw [rdr_eq]
    unfold va_cpy
    rw [if_pos (by omega)]
    simp
theorem bk1_l {n : Nat} {J : Sg → Prop} (hn : n ≤ 6) : ∀ (d i : Nat) (σ : Sg), i + d = n → σ.1 60 41 = nI n → (∀ σ', (∀ c, c ≠ 61 → c ≠ 62 → c ≠ 64 → σ'.1 c = σ.1 c) → σ'.2 = σ.2 → (∀ k, σ'.1 61 k = if i ≤ k ∧ k < n then σ.1 85 k else σ.1 61 k) → (∀ k, σ'.1 62 k = if i ≤ k ∧ k < n then σ.1 86 k else σ.1 62 k) → (∀ k, σ'.1 64 k = if i ≤ k ∧ k < n then σ.1 87 k else σ.1 64 k) → J σ') → w_X12_back_l22 J (d + 1) (nI i) σ
  | 0, i, σ, h, h1, hJ => by
    unfold w_X12_back_l22
    rw [h1, if_pos (nI_le (by omega) (by omega))]
    exact hJ σ (fun _ _ _ _ => rfl) rfl (fun k => by rw [if_neg (by omega)]) (fun k => by rw [if_neg (by omega)]) (fun k => by rw [if_neg (by omega)])
  | d + 1, i, σ, h, h1, hJ => by
    unfold w_X12_back_l22
    have hv : vp_in (nI i) 6 := vp_nI (by omega) (by decide)
    rw [h1, if_neg (nI_ge (by omega) (by omega)), cl_nI (by omega), bd_eq, bd_eq, bd_eq, nI_1]
    refine ⟨hv, hv, hv, hv, hv, hv, bk1_l hn d (i + 1) _ (by omega) (by rw [rd_ne (by decide), rd_ne (by decide), rd_ne (by decide), h1]) (fun σ' f1 f2 f3 f4 f5 => hJ σ' (fun c hc hc' hc'' => by rw [f1 c hc hc' hc'', rd_ne hc'', rd_ne hc', rd_ne hc]) (by rw [f2]; rfl) (fun k => ?_) (fun k => ?_) (fun k => ?_))⟩
    · rw [f3]
      by_cases e : k = i
      · subst e
        rw [if_neg (by omega), if_pos (by omega), rd_ne (by decide), rd_ne (by decide), rd_in, if_pos rfl]
      · by_cases g : i + 1 ≤ k ∧ k < n
        · rw [if_pos g, if_pos (by omega), rd_ne (by decide), rd_ne (by decide), rd_ne (by decide)]
        · rw [if_neg g, if_neg (by omega), rd_ne (by decide), rd_ne (by decide), rd_in, if_neg e]
    · rw [f4]
      by_cases e : k = i
      · subst e
        rw [if_neg (by omega), if_pos (by omega), rd_ne (by decide), rd_in, if_pos rfl, rd_ne (by decide)]
      · by_cases g : i + 1 ≤ k ∧ k < n
        · rw [if_pos g, if_pos (by omega), rd_ne (by decide), rd_ne (by decide), rd_ne (by decide)]
        · rw [if_neg g, if_neg (by omega), rd_ne (by decide), rd_in, if_neg e, rd_ne (by decide)]
    · rw [f5]
      by_cases e : k = i
      · subst e
        rw [if_neg (by omega), if_pos (by omega), rd_in, if_pos rfl, rd_ne (by decide), rd_ne (by decide)]
      · by_cases g : i + 1 ≤ k ∧ k < n
        · rw [if_pos g, if_pos (by omega), rd_ne (by decide), rd_ne (by decide), rd_ne (by decide)]
        · rw [if_neg g, if_neg (by omega), rd_in, if_neg e, rd_ne (by decide), rd_ne (by decide)]
theorem bk2_l {J : Sg → Prop} : ∀ (d i : Nat) (σ : Sg), i + d = 5 → (∀ σ', (∀ c, c ≠ 84 → σ'.1 c = σ.1 c) → σ'.2 = σ.2 → (∀ k, σ'.1 84 k = if i ≤ k ∧ k < 5 then σ.1 88 k else σ.1 84 k) → J σ') → w_X12_back_l74 J (d + 1) (nI i) σ
  | 0, i, σ, h, hJ => by
    have : i = 5 := by omega
    subst this
    unfold w_X12_back_l74
    rw [if_pos (by decide)]
    exact hJ σ (fun _ _ => rfl) rfl (fun k => by rw [if_neg (by omega)])
  | d + 1, i, σ, h, hJ => by
    unfold w_X12_back_l74
    have hv : vp_in (nI i) 5 := vp_nI (by omega) (by decide)
    rw [if_neg (show ¬ (5 : Int32) ≤ nI i from nI_ge (b := 5) (by omega) (by decide)), cl_nI (by omega), bd_eq, nI_1]
    refine ⟨hv, hv, bk2_l d (i + 1) _ (by omega) (fun σ' f1 f2 f3 => hJ σ' (fun c hc => by rw [f1 c hc, rd_ne hc]) (by rw [f2]; rfl) (fun k => ?_))⟩
    rw [f3]
    by_cases e : k = i
    · subst e
      rw [if_neg (by omega), if_pos (by omega), rd_in, if_pos rfl]
    · by_cases g : i + 1 ≤ k ∧ k < 5
      · rw [if_pos g, if_pos (by omega), rd_ne (by decide)]
      · rw [if_neg g, if_neg (by omega), rd_in, if_neg e]
theorem cpy0 {f g : Nat → Int32} {n k : Nat} : va_cpy f g 0 0 n k = if k < n then f k else g k := by
  unfold va_cpy
  by_cases h : k < n
  · rw [if_pos (by omega), if_pos h]; simp
  · rw [if_neg (by omega), if_neg h]
theorem op_back {N : Nat} {σ : Sg} (hI : Inv N σ) {Q : Int32 → Int32 → Sg → Prop} (hQ : ∀ r σ', Inv (N + 1) σ' → Q r r σ') : w_X11_back σ (fun r σ1 => w_X12_back σ1 (fun r' σ2 => Q r r' σ2)) := by
  obtain ⟨hA, hT, hC, hI2, hB, hS, hK, hL⟩ := id hI
  obtain ⟨⟨a1, a2, a3, a4, a5, a6⟩, ⟨e1, e2, e3, e4, e5⟩, ⟨nC, nP, ⟨hn, en⟩, ⟨hp, ep⟩, hr, hq⟩, r1, r2, r3⟩ := id hA
  obtain ⟨hdone, hcase⟩ := id hI2
  unfold w_X11_back w_X4_layBack
  have z0 : (Int32.toNatClampNeg 0) = 0 := rfl
  have z2 : (Int32.toNatClampNeg 2) = 2 := rfl
  have z5 : (Int32.toNatClampNeg 5) = 5 := rfl
  rcases hcase with ⟨i1, i2⟩ | ⟨i1, mC, n, i2, i3, i4, i5, i6, i7, i8, i9, i10⟩
  · rw [i1, if_pos rfl]
    show w_X12_back σ (fun r' σ2 => Q (-5) r' σ2)
    unfold w_X12_back
    rw [i2, if_pos rfl]
    exact hQ _ _ (Inv_up hI)
  · have x1 : mC = nC := nI_inj (by omega) (by omega) (i2.symm.trans en)
    subst x1
    have hc6 : cpIn (0 : Int32) (0 : Int32) (nI n) 6 6 := ⟨by decide, by decide, nI_pos (by omega), by rw [cl_nI (by omega), z0]; omega, by rw [cl_nI (by omega), z0]; omega⟩
    have hc5 : cpIn (0 : Int32) (0 : Int32) (5 : Int32) 5 5 := ⟨by decide, by decide, by decide, by decide, by decide⟩
    have hne : ¬ nI n = -2 := fun q => by have := congrArg Int32.toInt q; rw [nI_toInt (by omega), show (-2 : Int32).toInt = -2 by decide] at this; omega
    rw [i5, if_neg hne]
    simp only [bd_eq, rd_ne, rd_fn, rd_2, rdr_eq, rdr_ne, rdr_2, rj_1, rj_ne, rj_fn, rjr_1, rjr_eq, rjr_ne, ne_eq, not_false_eq_true, reduceCtorEq, Nat.reduceEqDiff, if_true, if_false, ite_true, ite_false, i5, hc6, hc5, true_and, z0, z5, cl_nI (show n < 1000000 by omega)]
    have hx : ∀ τ : Sg, (∀ c, c ≠ 1 → c ≠ 2 → c ≠ 3 → c ≠ 5 → c ≠ 39 → τ.1 c = σ.1 c) → τ.2 = σ.2 → (∀ k, τ.1 1 k = if k = 10 then σ.1 38 4 else σ.1 1 k) → (∀ k, τ.1 2 k = if k < n then σ.1 40 k else σ.1 2 k) → (∀ k, τ.1 3 k = if k < n then σ.1 41 k else σ.1 3 k) → (∀ k, τ.1 5 k = if k < n then σ.1 42 k else σ.1 5 k) → (∀ k, τ.1 39 k = if k < 5 then σ.1 43 k else σ.1 39 k) → w_X12_back τ (fun r' σ2 => Q (τ.1 39 0) r' σ2) := by
      intro τ t1 t2 t3 t4 t5 t6 t7
      have t60 := t1 60 (by decide) (by decide) (by decide) (by decide) (by decide)
      unfold w_X12_back
      rw [t60, i1, if_neg one_ne, z2]
      simp only [bd_eq]
      refine ⟨n + 1, bk1_l (n := n) (by omega) n 0 _ (by omega) (by rw [rd_ne (by decide), t60, i6]) (fun σ1 f1 f2 f3 f4 f5 => ⟨6, bk2_l 5 0 σ1 (by decide) (fun σ2 g1 g2 g3 => ?_)⟩)⟩
      have o : ∀ c, (c ≠ 1 ∧ c ≠ 2 ∧ c ≠ 3 ∧ c ≠ 5 ∧ c ≠ 39 ∧ c ≠ 61 ∧ c ≠ 62 ∧ c ≠ 64 ∧ c ≠ 67 ∧ c ≠ 84) → σ2.1 c = σ.1 c := fun c h => by rw [g1 c (by omega), f1 c (by omega) (by omega) (by omega), rd_ne (by omega), t1 c (by omega) (by omega) (by omega) (by omega) (by omega)]
      have x4 : ∀ c, c = 1 ∨ c = 2 ∨ c = 3 ∨ c = 5 ∨ c = 39 → σ2.1 c = τ.1 c := fun c h => by rw [g1 c (by omega), f1 c (by omega) (by omega) (by omega), rd_ne (by omega)]
      have y61 : σ2.1 61 = σ2.1 2 := by
        funext k
        rw [x4 2 (by omega), t4, g1 61 (by decide), f3, rd_ne (by decide), rd_ne (by decide), t1 85 (by decide) (by decide) (by decide) (by decide) (by decide), t1 61 (by decide) (by decide) (by decide) (by decide) (by decide), a1]
        by_cases g : k < n
        · rw [if_pos ⟨Nat.zero_le _, g⟩, if_pos g, (i9 k g).1]
        · rw [if_neg (fun q => g q.2), if_neg g]
      have y62 : σ2.1 62 = σ2.1 3 := by
        funext k
        rw [x4 3 (by omega), t5, g1 62 (by decide), f4, rd_ne (by decide), rd_ne (by decide), t1 86 (by decide) (by decide) (by decide) (by decide) (by decide), t1 62 (by decide) (by decide) (by decide) (by decide) (by decide), a2]
        by_cases g : k < n
        · rw [if_pos ⟨Nat.zero_le _, g⟩, if_pos g, (i9 k g).2.1]
        · rw [if_neg (fun q => g q.2), if_neg g]
      have y64 : σ2.1 64 = σ2.1 5 := by
        funext k
        rw [x4 5 (by omega), t6, g1 64 (by decide), f5, rd_ne (by decide), rd_ne (by decide), t1 87 (by decide) (by decide) (by decide) (by decide) (by decide), t1 64 (by decide) (by decide) (by decide) (by decide) (by decide), a4]
        by_cases g : k < n
        · rw [if_pos ⟨Nat.zero_le _, g⟩, if_pos g, (i9 k g).2.2.1]
        · rw [if_neg (fun q => g q.2), if_neg g]
      have y84 : σ2.1 84 = σ2.1 39 := by
        funext k
        rw [x4 39 (by omega), t7, g3, f1 88 (by decide) (by decide) (by decide), f1 84 (by decide) (by decide) (by decide), rd_ne (by decide), rd_ne (by decide), t1 88 (by decide) (by decide) (by decide) (by decide) (by decide), t1 84 (by decide) (by decide) (by decide) (by decide) (by decide), hdone]
        by_cases g : k < 5
        · rw [if_pos ⟨Nat.zero_le _, g⟩, if_pos g, i10 k g]
        · rw [if_neg (fun q => g q.2), if_neg g]
      have y1 : ∀ k, k ≠ 10 → σ2.1 1 k = σ.1 1 k := fun k hk => by rw [x4 1 (by omega), t3, if_neg hk]
      have y67 : ∀ k, σ2.1 67 k = if k = 2 then σ.1 38 4 else σ.1 67 k := fun k => by rw [g1 67 (by decide), f1 67 (by decide) (by decide) (by decide), rd_in, t1 67 (by decide) (by decide) (by decide) (by decide) (by decide), i7]
      show Q (τ.1 39 0) (σ2.1 84 (Int32.toNatClampNeg 0)) σ2
      rw [z0, y84, x4 39 (by omega)]
      apply hQ
      refine ⟨⟨⟨y61, y62, by rw [o 63 (by omega), o 4 (by omega), a3], y64, by rw [o 65 (by omega), o 6 (by omega), a5], by rw [o 66 (by omega), o 7 (by omega), a6]⟩, ⟨by rw [o 60 (by omega), y1 4 (by decide), e1], by rw [o 60 (by omega), y1 7 (by decide), e2], by rw [y67, if_neg (by decide), y1 8 (by decide), e3], by rw [y67, if_neg (by decide), y1 9 (by decide), e4], by rw [y67, if_pos rfl, x4 1 (by omega), t3, if_pos rfl]⟩, ⟨mC, nP, ⟨hn, by rw [y1 4 (by decide), en]⟩, ⟨hp, by rw [y1 7 (by decide), ep]⟩, fun k hk => ?_, fun q hq' => by rw [o 6 (by omega), o 7 (by omega)]; exact hq q hq'⟩, by rw [y1 8 (by decide)]; exact r1, by rw [y1 9 (by decide)]; exact r2, by rw [x4 1 (by omega), t3, if_pos rfl]; exact i8⟩,
        IT_c hT (by rw [o 0 (by omega)]) (by rw [o 60 (by omega)]) (o 14 (by omega)) (o 72 (by omega)),
        IC_c hC (y1 4 (by decide)) (y1 7 (by decide)) (o 36 (by omega)) (o 37 (by omega)) (by rw [o 60 (by omega)]) (by rw [o 60 (by omega)]) (o 68 (by omega)) (o 69 (by omega)) (o 70 (by omega)) (o 71 (by omega)), ?_,
        IB_c hB (o 89 (by omega)) (o 90 (by omega)) (o 58 (by omega)) (o 59 (by omega)) (by rw [o 57 (by omega)]) (by rw [o 57 (by omega)]) (by rw [o 60 (by omega)]) (by rw [o 60 (by omega)]),
        IS_c hS (by rw [o 57 (by omega)]) (o 91 (by omega)) (o 92 (by omega)) (fun s hs => o _ (by omega)) (by rw [g2, f2]; exact t2), IK_c hK (fun k hk => ⟨o _ (by omega), o _ (by omega)⟩),
        IL_c hL (o 9 (by omega)) (by rw [o 8 (by omega)]) (sameLaw_of (o 73 (by omega)) (o 74 (by omega)) (o 75 (by omega)) (o 76 (by omega)) (o 77 (by omega)) (by rw [o 60 (by omega)]))⟩
      · obtain ⟨h1, h2, h3, h4⟩ := hr k hk
        rw [x4 2 (by omega), x4 3 (by omega), x4 5 (by omega), o 4 (by omega), t4, t5, t6]
        by_cases g : k < n
        · obtain ⟨_, _, _, j1, j2, j3⟩ := i9 k g
          rw [if_pos g, if_pos g, if_pos g]
          exact ⟨j1, j2, h3, j3⟩
        · rw [if_neg g, if_neg g, if_neg g]
          exact ⟨h1, h2, h3, h4⟩
      · refine ⟨y84, Or.inr ⟨by rw [o 60 (by omega)]; exact i1, mC, n, by rw [y1 4 (by decide)]; exact i2, i3, i4, by rw [o 38 (by omega)]; exact i5, by rw [o 60 (by omega)]; exact i6, by rw [o 60 (by omega), o 38 (by omega)]; exact i7, by rw [o 38 (by omega)]; exact i8, fun k hk => ?_, fun k hk => ?_⟩⟩
        · rw [o 85 (by omega), o 86 (by omega), o 87 (by omega), o 40 (by omega), o 41 (by omega), o 42 (by omega)]
          exact i9 k hk
        · rw [o 88 (by omega), o 43 (by omega)]
          exact i10 k hk
    refine hx _ (fun c h1 h2 h3 h4 h5 => ?_) rfl (fun k => ?_) (fun k => ?_) (fun k => ?_) (fun k => ?_) (fun k => ?_)
    · rw [rdr_ne h5, rdr_ne h4, rdr_ne h3, rdr_ne h2, rd_ne h1]
    · rw [rdr_ne (by decide), rdr_ne (by decide), rdr_ne (by decide), rdr_ne (by decide), rd_in]
    · rw [rdr_ne (by decide), rdr_ne (by decide), rdr_ne (by decide), rdr_eq, cpy0]
    · rw [rdr_ne (by decide), rdr_ne (by decide), rdr_eq, cpy0]
    · rw [rdr_ne (by decide), rdr_eq, cpy0]
    · rw [rdr_eq, cpy0]
