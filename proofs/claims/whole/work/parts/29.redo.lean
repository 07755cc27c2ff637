theorem nI_sub {a b : Nat} (h : b ≤ a) (ha : a < 1000000) : nI a - nI b = nI (a - b) := by
  apply Int32.toInt_inj.mp
  rw [Jvm.Kit.i32_sub (by rw [nI_toInt (by omega), nI_toInt (by omega)]; omega) (by rw [nI_toInt (by omega), nI_toInt (by omega)]; omega), nI_toInt (by omega), nI_toInt (by omega), nI_toInt (by omega)]
  omega
theorem op_redo {N : Nat} {σ : Sg} (hI : Inv N σ) {Q : Int32 → Int32 → Sg → Prop} (hQ : ∀ r σ', Inv (N + 1) σ' → Q r r σ') : w_X11_redo σ (fun r σ1 => w_X12_redo σ1 (fun r' σ2 => Q r r' σ2)) := by
  obtain ⟨hA, hT, hC, hI2, hB, hS, hK, hL⟩ := id hI
  obtain ⟨⟨a1, a2, a3, a4, a5, a6⟩, ⟨e1, e2, e3, e4, e5⟩, ⟨nC, nP, ⟨hn, en⟩, ⟨hp, ep⟩, hr, hq⟩, r1, r2, r3⟩ := id hA
  obtain ⟨mC, mP, u, k, c1, c1', c2, c2', huk, hk, u1, u2, u3, u4, hch⟩ := id hC
  have x1 : mC = nC := nI_inj (by omega) (by omega) (c1.symm.trans en)
  have x2 : mP = nP := nI_inj (by omega) (by omega) (c2.symm.trans ep)
  subst x1; subst x2
  simp only [w_X11_redo, w_X2_doAgain, u1, u2]
  by_cases huk2 : u = k
  · subst huk2
    simp only [if_true, w_X12_redo, u4, Nat.sub_self, nI_0]
    exact hQ _ _ (Inv_up hI)
  · have g : ¬ nI u = nI k := fun h => huk2 (nI_inj (by omega) (by omega) h)
    have g0 : ¬ nI (k - u) = 0 := nI_ne0 (by omega) (by omega)
    obtain ⟨p1, p2, p3, p4, p5, p6⟩ := hch u (by omega)
    obtain ⟨w, a, ew, ea, hok, hv⟩ := okCh_get p6 hn hp
    simp only [g, if_false, bd_eq, four_nI (show u < 1000 by omega), nI_lit (k := 1) (m := 1) (by decide), nI_lit (k := 3) (m := 3) (by decide), cl_nI (show 4 * u < 1000000 by omega), cl_nI (show 4 * u + 1 < 1000000 by omega), cl_nI (show 4 * u + 3 < 1000000 by omega), ew, ea, vp_nI (show 4 * u < 160 by omega) (by decide), vp_nI (show 4 * u + 1 < 160 by omega) (by decide), vp_nI (show 4 * u + 3 < 160 by omega) (by decide), true_and]
    refine write_x hok hn hp ?_
    have q1 : ∀ c, (c = 0 ∨ 7 < c) → (wrX σ w a (σ.1 37 (4 * u + 3))).1 c = σ.1 c := fun c h' => wrX_ne h'
    have t1 : (wrX σ w a (σ.1 37 (4 * u + 3))).1 1 4 = nI mC := by rw [wrX_1 (by omega), en]
    have t2 : (wrX σ w a (σ.1 37 (4 * u + 3))).1 1 7 = nI mP := by rw [wrX_1 (by omega), ep]
    generalize hτ : wrX σ w a (σ.1 37 (4 * u + 3)) = τ at q1 t1 t2 ⊢
    simp only [rd_ne, rd_fn, rd_2, rdr_eq, rdr_ne, rdr_2, rj_1, rj_ne, rj_fn, rjr_1, rjr_eq, rjr_ne, ne_eq, not_false_eq_true, reduceCtorEq, Nat.reduceEqDiff, if_true, if_false, ite_true, ite_false, q1 36 (by omega), u1, u2, nI_1, nI_sub (show u + 1 ≤ k by omega) (by omega)]
    simp only [w_X12_redo, bd_eq, rd_ne, rd_fn, rd_2, rdr_eq, rdr_ne, rdr_2, rj_1, rj_ne, rj_fn, rjr_1, rjr_eq, rjr_ne, ne_eq, not_false_eq_true, reduceCtorEq, Nat.reduceEqDiff, if_true, if_false, ite_true, ite_false, q1 60 (by omega), q1 68 (by omega), q1 69 (by omega), q1 71 (by omega), u3, u4, g0, if_false, cl_nI (show u < 1000000 by omega), vp_nI (show u < 40 by omega) (by decide), true_and, p1, p2, p4, ew, ea]
    refine lays_m hok hn hp ?_
    have hf2 : ∀ c, c ≠ 36 → (c < 61 ∨ 67 < c) → (wrM (sI τ 36 2 (nI (u + 1))) w a (σ.1 37 (4 * u + 3))).1 c = τ.1 c := fun c h h' => by rw [wrM_ne h', rd_ne h]
    have hf36 : (wrM (sI τ 36 2 (nI (u + 1))) w a (σ.1 37 (4 * u + 3))).1 36 2 = nI (u + 1) := by rw [wrM_ne (by omega), rd_in, if_pos rfl]
    have hf37 : (wrM (sI τ 36 2 (nI (u + 1))) w a (σ.1 37 (4 * u + 3))).1 36 3 = nI k := by rw [wrM_ne (by omega), rd_in, if_neg (by omega), q1 36 (by omega), u2]
    have hfm : ∀ c, 61 ≤ c → c ≤ 67 → (wrM (sI τ 36 2 (nI (u + 1))) w a (σ.1 37 (4 * u + 3))).1 c = (wrM σ w a (σ.1 37 (4 * u + 3))).1 c := fun c h h' => wrM_congr (by rw [rd_ne (by omega), q1 c (by omega)])
    have hfs : (wrM (sI τ 36 2 (nI (u + 1))) w a (σ.1 37 (4 * u + 3))).2 = σ.2 := by rw [wrM_2, rd_2, ← hτ, wrX_2]
    generalize wrM (sI τ 36 2 (nI (u + 1))) w a (σ.1 37 (4 * u + 3)) = ρ at hf2 hf36 hf37 hfm hfs ⊢
    simp only [rd_ne, rd_fn, rd_2, rdr_eq, rdr_ne, rdr_2, rj_1, rj_ne, rj_fn, rjr_1, rjr_eq, rjr_ne, ne_eq, not_false_eq_true, reduceCtorEq, Nat.reduceEqDiff, if_true, if_false, ite_true, ite_false, hf2 60 (by omega) (by omega), q1 60 (by omega), u3, u4, nI_1]
    have hku : nI (k - u) - 1 = nI (k - (u + 1)) := by rw [show k - u = (k - (u + 1)) + 1 by omega, nI_pred]
    rw [hku]
    apply hQ
    refine Inv_wr hI (w := w) (a := a) (v := σ.1 37 (4 * u + 3)) en ep hn hp hok hv (fun c h1 h7 => ?_) (fun c h1 h7 => ?_) (fun i h1 h2 => ?_) (fun c h1 h2 h3 h4 => ?_) ?_ ?_
    · rw [rd_ne (by omega), rd_ne (by omega), hf2 c (by omega) (by omega), ← hτ]
    · rw [rd_ne (by omega), rd_ne (by omega), hfm c h1 h7]
    · rw [rd_in, if_neg h2, rd_in, if_neg h1, hf2 60 (by omega) (by omega), q1 60 (by omega)]
    · rw [rd_ne (by omega), rd_ne (by omega), hf2 c h2 (by omega), q1 c h1]
    · rw [rd_2, rd_2, hfs]
    · refine ⟨mC, mP, u + 1, k, by simp only [rd_ne, rd_fn, rd_2, rdr_eq, rdr_ne, rdr_2, rj_1, rj_ne, rj_fn, rjr_1, rjr_eq, rjr_ne, ne_eq, not_false_eq_true, reduceCtorEq, Nat.reduceEqDiff, if_true, if_false, ite_true, ite_false]; rw [hf2 1 (by omega) (by omega), t1], hn, by simp only [rd_ne, rd_fn, rd_2, rdr_eq, rdr_ne, rdr_2, rj_1, rj_ne, rj_fn, rjr_1, rjr_eq, rjr_ne, ne_eq, not_false_eq_true, reduceCtorEq, Nat.reduceEqDiff, if_true, if_false, ite_true, ite_false]; rw [hf2 1 (by omega) (by omega), t2], hp, by omega, hk, by simp only [rd_ne, rd_fn, rd_2, rdr_eq, rdr_ne, rdr_2, rj_1, rj_ne, rj_fn, rjr_1, rjr_eq, rjr_ne, ne_eq, not_false_eq_true, reduceCtorEq, Nat.reduceEqDiff, if_true, if_false, ite_true, ite_false]; exact hf36, by simp only [rd_ne, rd_fn, rd_2, rdr_eq, rdr_ne, rdr_2, rj_1, rj_ne, rj_fn, rjr_1, rjr_eq, rjr_ne, ne_eq, not_false_eq_true, reduceCtorEq, Nat.reduceEqDiff, if_true, if_false, ite_true, ite_false]; exact hf37, by simp only [rd_ne, rd_fn, rd_2, rdr_eq, rdr_ne, rdr_2, rj_1, rj_ne, rj_fn, rjr_1, rjr_eq, rjr_ne, ne_eq, not_false_eq_true, reduceCtorEq, Nat.reduceEqDiff, if_true, if_false, ite_true, ite_false], by simp only [rd_ne, rd_fn, rd_2, rdr_eq, rdr_ne, rdr_2, rj_1, rj_ne, rj_fn, rjr_1, rjr_eq, rjr_ne, ne_eq, not_false_eq_true, reduceCtorEq, Nat.reduceEqDiff, if_true, if_false, ite_true, ite_false], fun i hi => ?_⟩
      simp only [rd_ne, rd_fn, rd_2, rdr_eq, rdr_ne, rdr_2, rj_1, rj_ne, rj_fn, rjr_1, rjr_eq, rjr_ne, ne_eq, not_false_eq_true, reduceCtorEq, Nat.reduceEqDiff, if_true, if_false, ite_true, ite_false]
      rw [hf2 37 (by omega) (by omega), hf2 68 (by omega) (by omega), hf2 69 (by omega) (by omega), hf2 70 (by omega) (by omega), hf2 71 (by omega) (by omega), q1 37 (by omega), q1 68 (by omega), q1 69 (by omega), q1 70 (by omega), q1 71 (by omega)]
      exact hch i hi
