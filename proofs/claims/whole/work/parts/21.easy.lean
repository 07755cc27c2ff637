/-! what a call leaves as it was -/
theorem i32_lt {a b : Int32} : a < b ↔ a.toInt < b.toInt := Int32.lt_iff_toInt_lt
theorem i32_le {a b : Int32} : a ≤ b ↔ a.toInt ≤ b.toInt := Int32.le_iff_toInt_le
theorem in_of {a : Int32} {n : Int} {m : Int32} (hm : m.toInt = n) (h1 : ¬ a < 0) (h2 : ¬ m < a) : inR a 0 n := by
  rw [i32_lt, Int32.toInt_zero] at h1
  rw [i32_lt, hm] at h2
  exact ⟨by omega, by omega⟩
theorem op_place {σ : Sg} {a : Int32} {Q : Int32 → Sg → Prop} (hI : IA σ)
    (h1 : Q (-1) σ) (h2 : Q (-3) σ)
    (h3 : ∀ n : Nat, n < 8 → σ.1 1 7 = nI n → inR a 0 255 → ∀ σ', σ' = sI (sI (sI (sI (sI (sI σ 6 n a) 7 n 1) 1 7 (nI (n + 1))) 65 n a) 66 n 1) 60 6 (nI (n + 1)) → Q (nI n) σ') :
    w_X11_place a σ (fun r σ1 => w_X12_place a σ1 (fun r' σ2 => r = r' ∧ Q r σ2)) := by
  obtain ⟨-, ⟨-, e2, -⟩, ⟨nC, nP, -, ⟨hn, en⟩, -⟩, -⟩ := hI
  simp only [w_X11_place, w_X12_place, w_X7_mayBe, w_X12_isCell, w_X11_within, w_X12_in, w_X7_addPlace, bd_eq]
  have e4 : (exC 1) (Int32.toNatClampNeg 4) = 0 := by decide
  have e5 : (exC 2) (Int32.toNatClampNeg 4) = 255 := by decide
  simp only [e4, e5, show ¬ ((4 : Int32) < 0) by decide, show ¬ ((8 : Int32) < 4) by decide, if_false, show ¬ ((1 : Int32) = 0) by decide, show vp_in 4 9 by (unfold vp_in; decide), true_and]
  by_cases ha : a < 0
  · simp only [ha, if_true]
    simp [h1]
  · by_cases hb : 255 < a
    · simp [ha, hb, h1]
    · have hr := in_of (n := 255) (by decide) ha hb
      simp only [ha, hb, if_false, show ¬ ((1 : Int32) = 0) by decide]
      by_cases h8 : nP < 8
      · sorry
      · sorry
