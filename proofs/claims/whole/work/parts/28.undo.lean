theorem Inv_wr {N : Nat} {σ : Sg} (hI : Inv N σ) {σ' : Sg} {nC nP w a : Nat} {v : Int32} (c1 : σ.1 1 4 = nI nC) (c2 : σ.1 1 7 = nI nP) (hC6 : nC ≤ 6) (hP8 : nP ≤ 8) (hw : okW nC nP w a) (hv : okV w v) (hx : ∀ c, 1 ≤ c → c ≤ 7 → σ'.1 c = (wrX σ w a v).1 c) (hm : ∀ c, 61 ≤ c → c ≤ 67 → σ'.1 c = (wrM σ w a v).1 c)
    (h60 : ∀ k, k ≠ 10 → k ≠ 11 → σ'.1 60 k = σ.1 60 k) (ho : ∀ c, (c = 0 ∨ 7 < c) → c ≠ 36 → c ≠ 37 → (c < 60 ∨ 71 < c) → σ'.1 c = σ.1 c) (h2 : σ'.2 = σ.2) (hIC : IC σ') : Inv (N + 1) σ' := by
  obtain ⟨hA, hT, hC, hI2, hB, hS, hK, hL⟩ := id hI
  have h14 : σ'.1 1 4 = σ.1 1 4 := by rw [hx 1 (by omega) (by omega), wrX_1 (by omega)]
  have o : ∀ c, (c = 0 ∨ 7 < c) ∧ c ≠ 36 ∧ c ≠ 37 ∧ (c < 60 ∨ 71 < c) → σ'.1 c = σ.1 c := fun c h => ho c h.1 h.2.1 h.2.2.1 h.2.2.2
  refine ⟨IA_wr hA c1 c2 hC6 hP8 hw hv hx hm (h60 1 (by omega) (by omega)) (h60 6 (by omega) (by omega)), IT_c hT (by rw [o 0 (by omega)]) (h60 17 (by omega) (by omega)) (o 14 (by omega)) (o 72 (by omega)), hIC,
    II_c hI2 (o 84 (by omega)) (o 39 (by omega)) (o 38 (by omega)) (h60 40 (by omega) (by omega)) (h60 41 (by omega) (by omega)) (h60 42 (by omega) (by omega)) h14 ⟨o 40 (by omega), o 41 (by omega), o 42 (by omega), o 43 (by omega)⟩ ⟨o 85 (by omega), o 86 (by omega), o 87 (by omega), o 88 (by omega)⟩,
    IB_c hB (o 89 (by omega)) (o 90 (by omega)) (o 58 (by omega)) (o 59 (by omega)) (by rw [o 57 (by omega)]) (by rw [o 57 (by omega)]) (h60 47 (by omega) (by omega)) (h60 49 (by omega) (by omega)),
    IS_c hS (by rw [o 57 (by omega)]) (o 91 (by omega)) (o 92 (by omega)) (fun s hs => o _ (by omega)) h2, IK_c hK (fun k hk => ⟨o _ (by omega), o _ (by omega)⟩), IL_c hL (o 9 (by omega)) (by rw [o 8 (by omega)]) (sameLaw_of (o 73 (by omega)) (o 74 (by omega)) (o 75 (by omega)) (o 76 (by omega)) (o 77 (by omega)) (h60 29 (by omega) (by omega)))⟩
theorem four_nI {n : Nat} (h : n < 1000) : 4 * nI n = nI (4 * n) := by
  rw [show (4 : Int32) = nI 4 by decide]
  exact (Int32.ofNat_mul 4 n).symm
theorem nI_lit {n : Nat} {k : Nat} {m : Int32} (hm : m = nI k) : nI n + m = nI (n + k) := by rw [hm, nI_add]
theorem op_undo {N : Nat} {σ : Sg} (hI : Inv N σ) {Q : Int32 → Int32 → Sg → Prop} (hQ : ∀ r σ', Inv (N + 1) σ' → Q r r σ') : w_X11_undo σ (fun r σ1 => w_X12_undo σ1 (fun r' σ2 => Q r r' σ2)) := by
  obtain ⟨hA, hT, hC, hI2, hB, hS, hK, hL⟩ := id hI
  obtain ⟨⟨a1, a2, a3, a4, a5, a6⟩, ⟨e1, e2, e3, e4, e5⟩, ⟨nC, nP, ⟨hn, en⟩, ⟨hp, ep⟩, hr, hq⟩, r1, r2, r3⟩ := id hA
  obtain ⟨mC, mP, u, k, c1, c1', c2, c2', huk, hk, u1, u2, u3, u4, hch⟩ := id hC
  have x1 : mC = nC := nI_inj (by omega) (by omega) (c1.symm.trans en)
  have x2 : mP = nP := nI_inj (by omega) (by omega) (c2.symm.trans ep)
  subst x1; subst x2
  simp only [w_X11_undo, w_X2_takeBack, u1]
  cases u with
  | zero =>
    simp only [nI_0, if_true, w_X12_undo, u3]
    exact hQ _ _ (Inv_up hI)
  | succ j =>
    have g : ¬ nI (j + 1) = 0 := nI_ne0 (by omega) (by omega)
    obtain ⟨p1, p2, p3, p4, p5, p6⟩ := hch j (by omega)
    obtain ⟨w, a, ew, ea, hok, hv⟩ := okCh_get p5 hn hp
    simp only [g, if_false, bd_eq, rd_ne, rd_fn, rd_2, rdr_eq, rdr_ne, rdr_2, rj_1, rj_ne, rj_fn, rjr_1, rjr_eq, rjr_ne, ne_eq, not_false_eq_true, reduceCtorEq, Nat.reduceEqDiff, if_true, if_false, ite_true, ite_false, nI_pred, four_nI (show j < 1000 by omega), nI_lit (k := 1) (m := 1) (by decide), nI_lit (k := 2) (m := 2) (by decide), cl_nI (show 4 * j < 1000000 by omega), cl_nI (show 4 * j + 1 < 1000000 by omega), cl_nI (show 4 * j + 2 < 1000000 by omega), ew, ea, vp_nI (show 4 * j < 160 by omega) (by decide), vp_nI (show 4 * j + 1 < 160 by omega) (by decide), vp_nI (show 4 * j + 2 < 160 by omega) (by decide), true_and]
    refine write_x hok hn hp ?_
    have q1 : ∀ c, c ≠ 36 → (c = 0 ∨ 7 < c) → (wrX (sI σ 36 2 (nI j)) w a (σ.1 37 (4 * j + 2))).1 c = σ.1 c := fun c h h' => by rw [wrX_ne h', rd_ne h]
    have q36 : (wrX (sI σ 36 2 (nI j)) w a (σ.1 37 (4 * j + 2))).1 36 2 = nI j := by rw [wrX_ne (by omega), rd_in, if_pos rfl]
    have q363 : (wrX (sI σ 36 2 (nI j)) w a (σ.1 37 (4 * j + 2))).1 36 3 = nI k := by rw [wrX_ne (by omega), rd_in, if_neg (by omega), u2]
    generalize hτ : wrX (sI σ 36 2 (nI j)) w a (σ.1 37 (4 * j + 2)) = τ at q1 q36 q363 ⊢
    rw [q36]
    simp only [w_X12_undo, q1 60 (by omega) (by omega), u3, g, if_false, bd_eq, rd_ne, rd_fn, rd_2, rdr_eq, rdr_ne, rdr_2, rj_1, rj_ne, rj_fn, rjr_1, rjr_eq, rjr_ne, ne_eq, not_false_eq_true, reduceCtorEq, Nat.reduceEqDiff, if_true, if_false, ite_true, ite_false, nI_pred, q1 68 (by omega) (by omega), q1 69 (by omega) (by omega), q1 70 (by omega) (by omega), cl_nI (show j < 1000000 by omega), vp_nI (show j < 40 by omega) (by decide), true_and, p1, p2, p3, ew, ea, u4]
    refine lays_m hok hn hp ?_
    have hf : (wrM (sI (sI τ 60 10 (nI j)) 60 11 (nI (k - (j + 1)) + 1)) w a (σ.1 37 (4 * j + 2))).1 60 10 = nI j := by rw [wrM_ne (by omega), rd_in, if_neg (by omega), rd_in, if_pos rfl]
    have hf1 : (wrM (sI (sI τ 60 10 (nI j)) 60 11 (nI (k - (j + 1)) + 1)) w a (σ.1 37 (4 * j + 2))).1 60 11 = nI (k - j) := by rw [wrM_ne (by omega), rd_in, if_pos rfl, nI_1, show k - (j + 1) + 1 = k - j by omega]
    have hf2 : ∀ c, c ≠ 60 → (c < 61 ∨ 67 < c) → (wrM (sI (sI τ 60 10 (nI j)) 60 11 (nI (k - (j + 1)) + 1)) w a (σ.1 37 (4 * j + 2))).1 c = τ.1 c := fun c h h' => by rw [wrM_ne h', rd_ne h, rd_ne h]
    rw [hf]
    apply hQ
    refine Inv_wr hI (w := w) (a := a) (v := σ.1 37 (4 * j + 2)) en ep hn hp hok hv (fun c h1 h7 => ?_) (fun c h1 h7 => ?_) (fun i h1 h2 => ?_) (fun c h1 h2 h3 h4 => ?_) ?_ ?_
    · rw [hf2 c (by omega) (by omega), ← hτ]
      exact wrX_congr (rd_ne (by omega))
    · apply wrM_congr
      rw [rd_ne (by omega), rd_ne (by omega), q1 c (by omega) (by omega)]
    · rw [wrM_ne (by omega), rd_in, if_neg h2, rd_in, if_neg h1, q1 60 (by omega) (by omega)]
    · rw [hf2 c (by omega) (by omega), q1 c h2 h1]
    · rw [wrM_2, rd_2, rd_2, ← hτ, wrX_2, rd_2]
    · have t1 : τ.1 1 4 = nI mC := by rw [← hτ, wrX_1 (by omega), rd_ne (by omega), en]
      have t2 : τ.1 1 7 = nI mP := by rw [← hτ, wrX_1 (by omega), rd_ne (by omega), ep]
      refine ⟨mC, mP, j, k, by rw [hf2 1 (by omega) (by omega), t1], hn, by rw [hf2 1 (by omega) (by omega), t2], hp, by omega, hk, by rw [hf2 36 (by omega) (by omega), q36], by rw [hf2 36 (by omega) (by omega), q363], hf, hf1, fun i hi => ?_⟩
      rw [hf2 37 (by omega) (by omega), hf2 68 (by omega) (by omega), hf2 69 (by omega) (by omega), hf2 70 (by omega) (by omega), hf2 71 (by omega) (by omega), q1 37 (by omega) (by omega), q1 68 (by omega) (by omega), q1 69 (by omega) (by omega), q1 70 (by omega) (by omega), q1 71 (by omega) (by omega)]
      exact hch i hi
