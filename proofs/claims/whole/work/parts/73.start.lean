/-! the start -/
theorem SCz {c : Nat} (h : c ≠ 1 ∧ c ≠ 16 ∧ c ≠ 18 ∧ c ≠ 20 ∧ c ≠ 22 ∧ c ≠ 24 ∧ c ≠ 26 ∧ c ≠ 38 ∧ c ≠ 45 ∧ c ≠ 47 ∧ c ≠ 49 ∧ c ≠ 51 ∧ c ≠ 53 ∧ c ≠ 55 ∧ c ≠ 67 ∧ c ≠ 91) : SC_23.1 c = fun _ => 0 := by
  unfold SC_23 SC_22 SC_21 SC_20 SC_19 SC_18 SC_17 SC_16 SC_15 SC_14 SC_13 SC_12 SC_11 SC_10 SC_9 SC_8 SC_7 SC_6 SC_5 SC_4 SC_3 SC_2 SC_1 SC_0
  rw [rd_ne (by omega), rd_ne (by omega), rd_ne (by omega), rd_ne (by omega), rd_ne (by omega), rd_ne (by omega), rd_ne (by omega), rd_ne (by omega), rd_ne (by omega), rd_ne (by omega), rd_ne (by omega), rd_ne (by omega), rd_ne (by omega), rd_ne (by omega), rd_ne (by omega), rd_ne (by omega), rd_ne (by omega), rd_ne (by omega), rd_ne (by omega), rd_ne (by omega), rd_ne (by omega), rd_ne (by omega), rd_ne (by omega)]
theorem IL_0 : IL SC_23 := by
  refine ⟨fun _ s _ _ _ _ => if s = 0 then 1 else 0, fun w s h d k p => ?_, fun w s h d k p σ' Q e1 e2 hQ => ?_, fun k way shoe hour σ' Q hs hk hQ => ?_⟩
  · dsimp only
    split
    · exact ⟨by decide, by decide⟩
    · exact ⟨by decide, by decide⟩
  · have e : σ'.1 8 1 = 0 := e2.trans (by rw [SCz (by omega)])
    have k1 := hQ σ' ⟨fun _ _ _ => rfl, rfl, rfl⟩
    dsimp only at k1
    unfold w_X8_gives
    rw [if_pos e]
    by_cases g : s = 0
    · rw [if_pos g] at k1 ⊢
      exact k1
    · rw [if_neg g] at k1 ⊢
      exact k1
  · have e : σ'.1 60 29 = 0 := hs.2.2.2.trans (by rw [SCz (by omega)])
    have k1 := hQ σ' ⟨fun _ _ _ => rfl, rfl⟩
    dsimp only at k1
    unfold w_X12_turnBy
    simp only [bd_eq]
    by_cases g : shoe = 0
    · rw [if_pos g] at k1 ⊢
      rw [if_pos e, if_pos (by decide), if_pos (by decide)]
      exact k1
    · rw [if_neg g] at k1 ⊢
      rw [if_pos e, if_pos (by decide), if_pos (by decide)]
      exact k1
theorem SC2 : SC_23.2 = fun _ _ => 0 := rfl
theorem scv : SC_23.1 1 4 = nI 0 ∧ SC_23.1 1 7 = nI 0 ∧ SC_23.1 67 0 = SC_23.1 1 8 ∧ SC_23.1 67 1 = SC_23.1 1 9 ∧ SC_23.1 67 2 = SC_23.1 1 10 ∧ SC_23.1 1 8 = 1 ∧ SC_23.1 1 9 = 0 ∧ SC_23.1 1 10 = 0 ∧ SC_23.1 38 3 = -2 := by decide +kernel
theorem scs : ∀ s, s < 6 → SC_23.1 91 s = -1 ∧ SC_23.1 (45 + 2 * s) 0 = -2 := by decide +kernel
theorem sck : ∀ k, k < 6 → SC_23.1 (16 + 2 * k) 0 = nI k ∧ SC_23.1 (16 + 2 * k) 5 = nI 0 := by decide +kernel
theorem Inv_0 : Inv 0 SC_23 := by
  obtain ⟨a1, a2, a3, a4, a5, a6, a7, a8, a9⟩ := scv
  have z : ∀ c k, (c ≠ 1 ∧ c ≠ 16 ∧ c ≠ 18 ∧ c ≠ 20 ∧ c ≠ 22 ∧ c ≠ 24 ∧ c ≠ 26 ∧ c ≠ 38 ∧ c ≠ 45 ∧ c ≠ 47 ∧ c ≠ 49 ∧ c ≠ 51 ∧ c ≠ 53 ∧ c ≠ 55 ∧ c ≠ 67 ∧ c ≠ 91) → SC_23.1 c k = nI 0 := fun c k h => by rw [SCz h]; rfl
  refine ⟨⟨⟨?_, ?_, ?_, ?_, ?_, ?_⟩, ⟨?_, ?_, a3, a4, a5⟩, ⟨0, 0, ⟨by omega, a1⟩, ⟨by omega, a2⟩, fun k hk => absurd hk (Nat.not_lt_zero _), fun k hk => absurd hk (Nat.not_lt_zero _)⟩, ?_, ?_, ?_⟩, ⟨0, by omega, z 0 4 (by omega), z 60 17 (by omega), fun k hk => absurd hk (Nat.not_lt_zero _)⟩,
    ⟨0, 0, 0, 0, a1, by omega, a2, by omega, by omega, by omega, z 36 2 (by omega), z 36 3 (by omega), z 60 10 (by omega), z 60 11 (by omega), fun k hk => absurd hk (Nat.not_lt_zero _)⟩,
    ⟨?_, Or.inl ⟨a9, (z 60 40 (by omega)).trans rfl⟩⟩, ⟨?_, ?_, 0, 0, by omega, by omega, z 57 1 (by omega), z 60 47 (by omega), z 57 3 (by omega), z 60 49 (by omega), fun k hk => absurd hk (Nat.not_lt_zero _)⟩,
    ⟨0, by omega, z 57 1 (by omega), fun s hs => ⟨Or.inl (scs s hs), fun j _ => by rw [SC2]⟩⟩,
    fun k hk => ⟨(sck k hk).1, 0, by omega, (sck k hk).2, fun i _ => ⟨0, z (17 + 2 * k) i (by omega), by omega⟩⟩, IL_0⟩
  · rw [SCz (by omega), SCz (by omega)]
  · rw [SCz (by omega), SCz (by omega)]
  · rw [SCz (by omega), SCz (by omega)]
  · rw [SCz (by omega), SCz (by omega)]
  · rw [SCz (by omega), SCz (by omega)]
  · rw [SCz (by omega), SCz (by omega)]
  · rw [a1, z 60 1 (by omega)]
  · rw [a2, z 60 6 (by omega)]
  · rw [a6]; exact ⟨by decide, by decide⟩
  · rw [a7]; exact ⟨by decide, by decide⟩
  · rw [a8]; exact ⟨by decide, by decide⟩
  · rw [SCz (by omega), SCz (by omega)]
  · rw [SCz (by omega), SCz (by omega)]
  · rw [SCz (by omega), SCz (by omega)]
theorem pure_main (L : Nat) (xs : Nat → Int32) (hL : L ≤ 3072) : w_L_law (L, xs) SC_23 (fun r _ => r = 1) :=
  ⟨L + 1, loop_l hL L 0 SC_23 (by omega) (by omega) Inv_0⟩
