def OW (nC nP : Nat) (a b : Int32) : Prop := ∃ w k, b = nI w ∧ a = nI k ∧ okW nC nP w k
theorem lt_lit {b m : Int32} {n : Int} (hm : m.toInt = n) : (b < m) = (b.toInt < n) := by rw [eq_iff_iff, i32_lt, hm]
theorem gt_lit {b m : Int32} {n : Int} (hm : m.toInt = n) : (m < b) = (n < b.toInt) := by rw [eq_iff_iff, i32_lt, hm]
theorem nat_of {b : Int32} {n : Nat} (h0 : 0 ≤ b.toInt) (h1 : b.toInt ≤ n) (hn : n < 1000000) : ∃ w : Nat, w ≤ n ∧ b = nI w ∧ b.toInt = w := ⟨b.toInt.toNat, by omega, toInt_nat (by omega) (by omega), by omega⟩
/-- what a number tells: 0 .. 3, 4 or 5, 6 .. 8, or none of them -/
theorem what_cases (b : Int32) : (∃ w, w ≤ 3 ∧ b = nI w ∧ ¬ b < 0 ∧ ¬ 3 < b) ∨ (∃ w, 4 ≤ w ∧ w ≤ 5 ∧ b = nI w ∧ (b < 0 ∨ 3 < b) ∧ ¬ b < 4 ∧ ¬ 5 < b) ∨ (∃ w, 6 ≤ w ∧ w ≤ 8 ∧ b = nI w ∧ (b < 0 ∨ 3 < b) ∧ (b < 4 ∨ 5 < b) ∧ ¬ b < 6 ∧ ¬ 8 < b) ∨ ((∀ w, w ≤ 8 → b ≠ nI w) ∧ (b < 0 ∨ 3 < b) ∧ (b < 4 ∨ 5 < b) ∧ (b < 6 ∨ 8 < b)) := by
  simp only [lt_lit (show (0 : Int32).toInt = 0 by decide), gt_lit (show (3 : Int32).toInt = 3 by decide), lt_lit (show (4 : Int32).toInt = 4 by decide), gt_lit (show (5 : Int32).toInt = 5 by decide), lt_lit (show (6 : Int32).toInt = 6 by decide), gt_lit (show (8 : Int32).toInt = 8 by decide)]
  by_cases h : 0 ≤ b.toInt ∧ b.toInt ≤ 8
  · obtain ⟨w, hw, e, e2⟩ := nat_of (n := 8) h.1 h.2 (by decide)
    by_cases g1 : w ≤ 3
    · exact Or.inl ⟨w, g1, e, by omega, by omega⟩
    · by_cases g2 : w ≤ 5
      · exact Or.inr (Or.inl ⟨w, by omega, g2, e, by omega, by omega, by omega⟩)
      · exact Or.inr (Or.inr (Or.inl ⟨w, by omega, hw, e, by omega, by omega, by omega, by omega⟩))
  · refine Or.inr (Or.inr (Or.inr ⟨fun w hw e => h ?_, by omega, by omega, by omega⟩))
    rw [e, nI_toInt (by omega)]
    omega
theorem if_or {p q : Prop} [Decidable p] [Decidable q] {A B : Prop} (h : p ∨ q) : (if p then A else if q then A else B) = A := by
  rcases h with h | h
  · rw [if_pos h]
  · by_cases g : p
    · rw [if_pos g]
    · rw [if_neg g, if_pos h]
theorem if_nor {p q : Prop} [Decidable p] [Decidable q] {A B : Prop} (h1 : ¬ p) (h2 : ¬ q) : (if p then A else if q then A else B) = B := by rw [if_neg h1, if_neg h2]
theorem has_x {nC nP : Nat} {a b : Int32} {σ : Sg} {Q : Int32 → Sg → Prop} (hC : nC ≤ 6) (hP : nP ≤ 8) (c1 : σ.1 1 4 = nI nC) (c2 : σ.1 1 7 = nI nP) (h1 : OW nC nP a b → Q 1 σ) (h0 : ¬ OW nC nP a b → Q 0 σ) : w_X7_has a b σ Q := by
  unfold w_X7_has w_X11_within
  rcases what_cases b with ⟨w, hw, e, g1, g2⟩ | ⟨w, hw, hw2, e, g0, g1, g2⟩ | ⟨w, hw, hw2, e, g0, g3, g1, g2⟩ | ⟨hw, g0, g3, g4⟩
  · simp only [if_nor g1 g2, one_ne, if_false, w_X7_hasCarriage, c1]
    rcases num_cases (a := a) (n := nC) (by omega) with h | ⟨h, h'⟩ | ⟨k, hk, ek, h, h'⟩
    · simp only [h, if_true, true_or, true_and]
      refine h0 (fun ⟨w', k', e1, e2, e3⟩ => ?_)
      rw [e2] at h
      exact absurd h (nI_pos (by rcases e3 with q | q | q <;> omega))
    · simp only [h, h', if_true, if_false, true_or, true_and]
      refine h0 (fun ⟨w', k', e1, e2, e3⟩ => ?_)
      have hww : w' = w := nI_inj (by have := w9 e3; omega) (by omega) (e1.symm.trans e)
      rw [e2] at h'
      rcases e3 with q | q | q
      · exact absurd h' (nI_ge q.2 (by omega))
      · omega
      · omega
    · rw [ek]
      simp only [h, h', if_false, or_true, true_and]
      exact h1 ⟨w, k, e, ek, Or.inl ⟨hw, hk⟩⟩
  · simp only [if_or g0, if_nor g1 g2, one_ne, if_false, if_true, w_X7_hasPlace, c2]
    rcases num_cases (a := a) (n := nP) (by omega) with h | ⟨h, h'⟩ | ⟨k, hk, ek, h, h'⟩
    · simp only [h, if_true, true_or, true_and]
      refine h0 (fun ⟨w', k', e1, e2, e3⟩ => ?_)
      rw [e2] at h
      exact absurd h (nI_pos (by rcases e3 with q | q | q <;> omega))
    · simp only [h, h', if_true, if_false, true_or, true_and]
      refine h0 (fun ⟨w', k', e1, e2, e3⟩ => ?_)
      have hww : w' = w := nI_inj (by have := w9 e3; omega) (by omega) (e1.symm.trans e)
      rw [e2] at h'
      rcases e3 with q | q | q
      · omega
      · exact absurd h' (nI_ge q.2.2 (by omega))
      · omega
    · rw [ek]
      simp only [h, h', if_false, or_true, true_and]
      exact h1 ⟨w, k, e, ek, Or.inr (Or.inl ⟨hw, hw2, hk⟩)⟩
  · simp only [if_or g0, if_or g3, if_nor g1 g2, one_ne, if_false, if_true]
    by_cases ha : a = 0
    · simp only [ha, if_true]
      exact h1 ⟨w, 0, e, by rw [ha]; decide, Or.inr (Or.inr ⟨hw, hw2, rfl⟩)⟩
    · simp only [ha, if_false]
      refine h0 (fun ⟨w', k', e1, e2, e3⟩ => ?_)
      have hww : w' = w := nI_inj (by have := w9 e3; omega) (by omega) (e1.symm.trans e)
      rcases e3 with q | q | q
      · omega
      · omega
      · exact ha (by rw [e2, q.2.2]; decide)
  · simp only [if_or g0, if_or g3, if_or g4, if_true]
    exact h0 (fun ⟨w', k', e1, e2, e3⟩ => hw w' (w9 e3) e1)
theorem one_m {nC nP : Nat} {a b : Int32} {σ : Sg} {Q : Int32 → Sg → Prop} (hC : nC ≤ 6) (hP : nP ≤ 8) (c1 : σ.1 60 1 = nI nC) (c2 : σ.1 60 6 = nI nP) (h1 : OW nC nP a b → Q 1 σ) (h0 : ¬ OW nC nP a b → Q 0 σ) : w_X12_isOne a b σ Q := by
  unfold w_X12_isOne w_X12_in
  rcases what_cases b with ⟨w, hw, e, g1, g2⟩ | ⟨w, hw, hw2, e, g0, g1, g2⟩ | ⟨w, hw, hw2, e, g0, g3, g1, g2⟩ | ⟨hw, g0, g3, g4⟩
  · simp only [if_nor g1 g2, one_ne, if_false, w_X12_isCarriage, w_X12_in, c1, le_pred (show nC < 1000000 by omega)]
    rcases num_cases (a := a) (n := nC) (by omega) with h | ⟨h, h'⟩ | ⟨k, hk, ek, h, h'⟩
    · simp only [h, if_true, true_or, true_and]
      refine h0 (fun ⟨w', k', e1, e2, e3⟩ => ?_)
      rw [e2] at h
      exact absurd h (nI_pos (by rcases e3 with q | q | q <;> omega))
    · simp only [h, h', if_true, if_false, true_or, true_and]
      refine h0 (fun ⟨w', k', e1, e2, e3⟩ => ?_)
      have hww : w' = w := nI_inj (by have := w9 e3; omega) (by omega) (e1.symm.trans e)
      rw [e2] at h'
      rcases e3 with q | q | q
      · exact absurd h' (nI_ge q.2 (by omega))
      · omega
      · omega
    · rw [ek]
      simp only [h, h', if_false, or_true, true_and]
      exact h1 ⟨w, k, e, ek, Or.inl ⟨hw, hk⟩⟩
  · simp only [if_or g0, if_nor g1 g2, one_ne, if_false, if_true, w_X12_isPlace, w_X12_in, c2, le_pred (show nP < 1000000 by omega)]
    rcases num_cases (a := a) (n := nP) (by omega) with h | ⟨h, h'⟩ | ⟨k, hk, ek, h, h'⟩
    · simp only [h, if_true, true_or, true_and]
      refine h0 (fun ⟨w', k', e1, e2, e3⟩ => ?_)
      rw [e2] at h
      exact absurd h (nI_pos (by rcases e3 with q | q | q <;> omega))
    · simp only [h, h', if_true, if_false, true_or, true_and]
      refine h0 (fun ⟨w', k', e1, e2, e3⟩ => ?_)
      have hww : w' = w := nI_inj (by have := w9 e3; omega) (by omega) (e1.symm.trans e)
      rw [e2] at h'
      rcases e3 with q | q | q
      · omega
      · exact absurd h' (nI_ge q.2.2 (by omega))
      · omega
    · rw [ek]
      simp only [h, h', if_false, or_true, true_and]
      exact h1 ⟨w, k, e, ek, Or.inr (Or.inl ⟨hw, hw2, hk⟩)⟩
  · simp only [if_or g0, if_or g3, if_nor g1 g2, one_ne, if_false, if_true]
    by_cases ha : a = 0
    · simp only [ha, if_true]
      exact h1 ⟨w, 0, e, by rw [ha]; decide, Or.inr (Or.inr ⟨hw, hw2, rfl⟩)⟩
    · simp only [ha, if_false]
      refine h0 (fun ⟨w', k', e1, e2, e3⟩ => ?_)
      have hww : w' = w := nI_inj (by have := w9 e3; omega) (by omega) (e1.symm.trans e)
      rcases e3 with q | q | q
      · omega
      · omega
      · exact ha (by rw [e2, q.2.2]; decide)
  · simp only [if_or g0, if_or g3, if_or g4, if_true]
    exact h0 (fun ⟨w', k', e1, e2, e3⟩ => hw w' (w9 e3) e1)
theorem op_of {N : Nat} {σ : Sg} (hI : Inv N σ) (a b : Int32) {Q : Int32 → Int32 → Sg → Prop} (hQ : ∀ r σ', Inv (N + 1) σ' → Q r r σ') : w_X11_of a b σ (fun r σ1 => w_X12_of a b σ1 (fun r' σ2 => Q r r' σ2)) := by
  obtain ⟨hA, hT, hC, hI2, hB, hS, hK, hL⟩ := id hI
  obtain ⟨⟨a1, a2, a3, a4, a5, a6⟩, ⟨e1, e2, e3, e4, e5⟩, ⟨nC, nP, ⟨hn, en⟩, ⟨hp, ep⟩, hr, hq⟩, r1, r2, r3⟩ := id hA
  unfold w_X11_of
  refine has_x hn hp en ep (fun hy => ?_) (fun hy => ?_)
  · simp only [one_ne, if_false]
    obtain ⟨w, k, rfl, rfl, hok⟩ := id hy
    refine read_x hok hn hp ?_
    unfold w_X12_of
    refine one_m hn hp (e1.trans en) (e2.trans ep) (fun _ => ?_) (fun h => absurd hy h)
    simp only [one_ne, if_false]
    exact value_m hok hn hp hA (fun _ _ _ => rfl) (hQ _ _ (Inv_up hI))
  · simp only [if_true]
    unfold w_X12_of
    refine one_m hn hp (e1.trans en) (e2.trans ep) (fun h => absurd h hy) (fun _ => ?_)
    simp only [if_true]
    exact hQ _ _ (Inv_up hI)
