theorem within_x {v lo hi : Int32} {a b : Int} {σ : Sg} {Q : Int32 → Sg → Prop} (ha : lo.toInt = a) (hb : hi.toInt = b) (h1 : inR v a b → Q 1 σ) (h0 : ¬ inR v a b → Q 0 σ) : w_X11_within v lo hi σ Q := by
  unfold w_X11_within
  by_cases g : v < lo
  · rw [if_pos g]
    have := i32_lt.mp g
    exact h0 (fun h => by have := h.1; omega)
  · rw [if_neg g]
    have g' : ¬ v.toInt < lo.toInt := fun q => g (i32_lt.mpr q)
    by_cases k : hi < v
    · rw [if_pos k]
      have := i32_lt.mp k
      exact h0 (fun h => by have := h.2; omega)
    · rw [if_neg k]
      have k' : ¬ hi.toInt < v.toInt := fun q => k (i32_lt.mpr q)
      exact h1 ⟨by omega, by omega⟩
theorem in_m {v lo hi : Int32} {a b : Int} {σ : Sg} {Q : Int32 → Sg → Prop} (ha : lo.toInt = a) (hb : hi.toInt = b) (h1 : inR v a b → Q 1 σ) (h0 : ¬ inR v a b → Q 0 σ) : w_X12_in v lo hi σ Q := within_x ha hb h1 h0
theorem may_x {w : Nat} {v : Int32} {σ : Sg} {Q : Int32 → Sg → Prop} (hw : w ≤ 8) (h1 : okV w v → Q 1 σ) (h0 : ¬ okV w v → Q 0 σ) : w_X7_mayBe (nI w) v σ Q := by
  unfold w_X7_mayBe
  refine within_x (a := 0) (b := 8) (by decide) (by decide) (fun _ => ?_) (fun h => absurd (nI_inR (b := 8) hw (by decide)) h)
  simp only [one_ne, if_false, vp_nI (show w < 9 by omega) (by decide), true_and, cl_nI (show w < 1000000 by omega)]
  rcases cas9 hw with rfl | rfl | rfl | rfl | rfl | rfl | rfl | rfl | rfl
  · exact within_x (a := 0) (b := 255) (by decide) (by decide) (fun h => by simp only [one_ne, if_false]; exact h1 h) (fun h => by simp only [if_true]; exact h0 h)
  · exact within_x (a := 0) (b := 7) (by decide) (by decide) (fun h => by simp only [one_ne, if_false]; exact h1 h) (fun h => by simp only [if_true]; exact h0 h)
  · exact within_x (a := 1) (b := 4) (by decide) (by decide) (fun h => by simp only [one_ne, if_false]; exact h1 h) (fun h => by simp only [if_true]; exact h0 h)
  · exact within_x (a := 0) (b := 9) (by decide) (by decide) (fun h => by simp only [one_ne, if_false]; exact h1 h) (fun h => by simp only [if_true]; exact h0 h)
  · exact within_x (a := 0) (b := 255) (by decide) (by decide) (fun h => by simp only [one_ne, if_false]; exact h1 h) (fun h => by simp only [if_true]; exact h0 h)
  · exact within_x (a := 0) (b := 9) (by decide) (by decide) (fun h => by simp only [one_ne, if_false]; exact h1 h) (fun h => by simp only [if_true]; exact h0 h)
  · exact within_x (a := 0) (b := 5) (by decide) (by decide) (fun h => by simp only [one_ne, if_false]; exact h1 h) (fun h => by simp only [if_true]; exact h0 h)
  · exact within_x (a := -3) (b := 3) (by decide) (by decide) (fun h => by simp only [one_ne, if_false]; exact h1 h) (fun h => by simp only [if_true]; exact h0 h)
  · exact within_x (a := 0) (b := 99) (by decide) (by decide) (fun h => by simp only [one_ne, if_false]; exact h1 h) (fun h => by simp only [if_true]; exact h0 h)
theorem have_m {w : Nat} {v : Int32} {σ : Sg} {Q : Int32 → Sg → Prop} (hw : w ≤ 8) (h1 : okV w v → Q 1 σ) (h0 : ¬ okV w v → Q 0 σ) : w_X12_mayHave (nI w) v σ Q := by
  unfold w_X12_mayHave
  have t1 : ∀ h : okV w v, ((1 : Int32) = 0 ∨ (1 : Int32) = 1) ∧ Q 1 σ := fun h => ⟨Or.inr rfl, h1 h⟩
  have t0 : ∀ h : ¬ okV w v, ((0 : Int32) = 0 ∨ (0 : Int32) = 1) ∧ Q 0 σ := fun h => ⟨Or.inl rfl, h0 h⟩
  rcases cas9 hw with rfl | rfl | rfl | rfl | rfl | rfl | rfl | rfl | rfl
  all_goals simp only [lit9.1, lit9.2.1, lit9.2.2.1, lit9.2.2.2.1, lit9.2.2.2.2.1, lit9.2.2.2.2.2.1, lit9.2.2.2.2.2.2.1, lit9.2.2.2.2.2.2.2.1, lit9.2.2.2.2.2.2.2.2, bd_eq, show ¬ ((1 : Int32) = 0) by decide, show ¬ ((2 : Int32) = 0) by decide, show ¬ ((2 : Int32) = 1) by decide, show ¬ ((3 : Int32) = 0) by decide, show ¬ ((3 : Int32) = 1) by decide, show ¬ ((3 : Int32) = 2) by decide, show ¬ ((4 : Int32) = 0) by decide, show ¬ ((4 : Int32) = 1) by decide, show ¬ ((4 : Int32) = 2) by decide, show ¬ ((4 : Int32) = 3) by decide, show ¬ ((5 : Int32) = 0) by decide, show ¬ ((5 : Int32) = 1) by decide, show ¬ ((5 : Int32) = 2) by decide, show ¬ ((5 : Int32) = 3) by decide, show ¬ ((5 : Int32) = 4) by decide, show ¬ ((6 : Int32) = 0) by decide, show ¬ ((6 : Int32) = 1) by decide, show ¬ ((6 : Int32) = 2) by decide, show ¬ ((6 : Int32) = 3) by decide, show ¬ ((6 : Int32) = 4) by decide, show ¬ ((6 : Int32) = 5) by decide, show ¬ ((7 : Int32) = 0) by decide, show ¬ ((7 : Int32) = 1) by decide, show ¬ ((7 : Int32) = 2) by decide, show ¬ ((7 : Int32) = 3) by decide, show ¬ ((7 : Int32) = 4) by decide, show ¬ ((7 : Int32) = 5) by decide, show ¬ ((7 : Int32) = 6) by decide, show ¬ ((8 : Int32) = 0) by decide, show ¬ ((8 : Int32) = 1) by decide, show ¬ ((8 : Int32) = 2) by decide, show ¬ ((8 : Int32) = 3) by decide, show ¬ ((8 : Int32) = 4) by decide, show ¬ ((8 : Int32) = 5) by decide, show ¬ ((8 : Int32) = 6) by decide, show ¬ ((8 : Int32) = 7) by decide, if_true, if_false, show ¬ ((0 : Int32) = 1) by decide, show ¬ ((0 : Int32) = 2) by decide, show ¬ ((0 : Int32) = 3) by decide, show ¬ ((0 : Int32) = 5) by decide, show ¬ ((0 : Int32) = 6) by decide, show ¬ ((0 : Int32) = 7) by decide, show ¬ ((0 : Int32) = 8) by decide, show ¬ ((4 : Int32) = 5) by decide, show ¬ ((4 : Int32) = 6) by decide, show ¬ ((4 : Int32) = 7) by decide, show ¬ ((4 : Int32) = 8) by decide]
  · exact in_m (a := 0) (b := 255) (by decide) (by decide) (fun h => ⟨Or.inr rfl, t1 h⟩) (fun h => ⟨Or.inl rfl, t0 h⟩)
  · exact in_m (a := 0) (b := 7) (by decide) (by decide) t1 t0
  · exact in_m (a := 1) (b := 4) (by decide) (by decide) t1 t0
  · exact in_m (a := 0) (b := 9) (by decide) (by decide) t1 t0
  · exact in_m (a := 0) (b := 255) (by decide) (by decide) (fun h => ⟨Or.inr rfl, t1 h⟩) (fun h => ⟨Or.inl rfl, t0 h⟩)
  · exact in_m (a := 0) (b := 9) (by decide) (by decide) t1 t0
  · exact in_m (a := 0) (b := 5) (by decide) (by decide) t1 t0
  · exact in_m (a := -3) (b := 3) (by decide) (by decide) t1 t0
  · exact in_m (a := 0) (b := 99) (by decide) (by decide) t1 t0
def shF (f : Nat → Int32) (i : Nat) : Nat → Int32 := fun j => if i ≤ j + 1 ∧ j < 39 then f (j + 1) else f j
theorem shF_step {f : Nat → Int32} {i : Nat} (h1 : 1 ≤ i) (h2 : i < 40) : shF (fun j => if j = i - 1 then f i else f j) (i + 1) = shF f i := by
  funext j
  unfold shF
  dsimp only
  by_cases hj : j = i - 1
  · subst hj
    rw [if_neg (by omega), if_pos rfl, if_pos (by omega), show i - 1 + 1 = i by omega]
  · by_cases g : i + 1 ≤ j + 1 ∧ j < 39
    · rw [if_pos g, if_neg (by omega), if_pos (by omega)]
    · rw [if_neg g, if_neg hj, if_neg (by omega)]
theorem shF_end {f : Nat → Int32} : shF f 40 = f := by
  funext j
  unfold shF
  rw [if_neg (by omega)]
theorem shift_m {J : Sg → Prop} : ∀ (d i : Nat) (σ : Sg), i + d = 40 → 1 ≤ i → J (sIr (sIr (sIr (sIr σ 68 (shF (σ.1 68) i)) 69 (shF (σ.1 69) i)) 70 (shF (σ.1 70) i)) 71 (shF (σ.1 71) i)) → w_X12_changes_l34 J (d + 1) (nI i) σ
  | 0, i, σ, h, h1, hJ => by
    have : i = 40 := by omega
    subst this
    unfold w_X12_changes_l34
    rw [if_pos (by decide)]
    simp only [shF_end] at hJ
    have e : sIr (sIr (sIr (sIr σ 68 (σ.1 68)) 69 (σ.1 69)) 70 (σ.1 70)) 71 (σ.1 71) = σ := by
      have k : ∀ (τ : Sg) (c : Nat), sIr τ c (τ.1 c) = τ := fun τ c => by
        unfold sIr
        refine Prod.ext ?_ rfl
        funext c'
        by_cases h : c' = c
        · simp [h]
        · simp [h]
      rw [k σ 68, k σ 69, k σ 70, k σ 71]
    rw [e] at hJ
    exact hJ
  | d + 1, i, σ, h, h1, hJ => by
    unfold w_X12_changes_l34
    have g : ¬ (40 : Int32) ≤ nI i := nI_ge (b := 40) (by omega) (by decide)
    have e1 : nI i - 1 = nI (i - 1) := by rw [show i = (i - 1) + 1 by omega, nI_pred]; rfl
    simp only [if_neg g, bd_eq, e1, vp_nI (show i < 40 by omega) (by decide), vp_nI (show i - 1 < 40 by omega) (by decide), true_and, cl_nI (show i < 1000000 by omega), cl_nI (show i - 1 < 1000000 by omega), nI_1, rd_ne, rd_fn, rd_2, rdr_eq, rdr_ne, rdr_2, rj_1, rj_ne, rj_fn, rjr_1, rjr_eq, rjr_ne, ne_eq, not_false_eq_true, reduceCtorEq, Nat.reduceEqDiff, if_true, if_false, ite_true, ite_false]
    refine shift_m d (i + 1) _ (by omega) (by omega) ?_
    simp only [rd_ne, rd_fn, rd_2, rdr_eq, rdr_ne, rdr_2, rj_1, rj_ne, rj_fn, rjr_1, rjr_eq, rjr_ne, ne_eq, not_false_eq_true, reduceCtorEq, Nat.reduceEqDiff, if_true, if_false, ite_true, ite_false, shF_step h1 (show i < 40 by omega)]
    have e : ∀ (f1 f2 f3 f4 : Nat → Int32) (v1 v2 v3 v4 : Int32), sIr (sIr (sIr (sIr (sI (sI (sI (sI σ 68 (i - 1) v1) 69 (i - 1) v2) 70 (i - 1) v3) 71 (i - 1) v4) 68 f1) 69 f2) 70 f3) 71 f4 = sIr (sIr (sIr (sIr σ 68 f1) 69 f2) 70 f3) 71 f4 := by
      intro f1 f2 f3 f4 v1 v2 v3 v4
      refine Prod.ext ?_ rfl
      funext c
      simp only [sIr, sI]
      by_cases h71 : c = 71
      · simp [h71]
      · by_cases h70 : c = 70
        · simp [h70]
        · by_cases h69 : c = 69
          · simp [h69]
          · by_cases h68 : c = 68
            · simp [h68]
            · simp [h71, h70, h69, h68]
    rw [e]
    exact hJ
