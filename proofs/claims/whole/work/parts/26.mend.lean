theorem lays_m {nC nP w a : Nat} (h : okW nC nP w a) (hC : nC ≤ 6) (hP : nP ≤ 8) {v : Int32} {σ : Sg} {Q : Sg → Prop} (hq : Q (wrM σ w a v)) : w_X12_lays (nI w) (nI a) v σ Q := by
  obtain ⟨h1, h2, h3⟩ := okW_a h hC hP
  unfold w_X12_lays
  rcases cas9 (w9 h) with rfl | rfl | rfl | rfl | rfl | rfl | rfl | rfl | rfl
  all_goals simp only [lit9.1, lit9.2.1, lit9.2.2.1, lit9.2.2.2.1, lit9.2.2.2.2.1, lit9.2.2.2.2.2.1, lit9.2.2.2.2.2.2.1, lit9.2.2.2.2.2.2.2.1, lit9.2.2.2.2.2.2.2.2, bd_eq, show ¬ ((1 : Int32) = 0) by decide, show ¬ ((2 : Int32) = 0) by decide, show ¬ ((2 : Int32) = 1) by decide, show ¬ ((3 : Int32) = 0) by decide, show ¬ ((3 : Int32) = 1) by decide, show ¬ ((3 : Int32) = 2) by decide, show ¬ ((4 : Int32) = 0) by decide, show ¬ ((4 : Int32) = 1) by decide, show ¬ ((4 : Int32) = 2) by decide, show ¬ ((4 : Int32) = 3) by decide, show ¬ ((5 : Int32) = 0) by decide, show ¬ ((5 : Int32) = 1) by decide, show ¬ ((5 : Int32) = 2) by decide, show ¬ ((5 : Int32) = 3) by decide, show ¬ ((5 : Int32) = 4) by decide, show ¬ ((6 : Int32) = 0) by decide, show ¬ ((6 : Int32) = 1) by decide, show ¬ ((6 : Int32) = 2) by decide, show ¬ ((6 : Int32) = 3) by decide, show ¬ ((6 : Int32) = 4) by decide, show ¬ ((6 : Int32) = 5) by decide, show ¬ ((7 : Int32) = 0) by decide, show ¬ ((7 : Int32) = 1) by decide, show ¬ ((7 : Int32) = 2) by decide, show ¬ ((7 : Int32) = 3) by decide, show ¬ ((7 : Int32) = 4) by decide, show ¬ ((7 : Int32) = 5) by decide, show ¬ ((7 : Int32) = 6) by decide, show ¬ ((8 : Int32) = 0) by decide, show ¬ ((8 : Int32) = 1) by decide, show ¬ ((8 : Int32) = 2) by decide, show ¬ ((8 : Int32) = 3) by decide, show ¬ ((8 : Int32) = 4) by decide, show ¬ ((8 : Int32) = 5) by decide, show ¬ ((8 : Int32) = 6) by decide, show ¬ ((8 : Int32) = 7) by decide, if_true, if_false]
  · have := h1 (by omega); exact ⟨vp_nI this (by decide), by rw [cl_nI (by omega)]; exact hq⟩
  · have := h1 (by omega); exact ⟨vp_nI this (by decide), by rw [cl_nI (by omega)]; exact hq⟩
  · have := h1 (by omega); exact ⟨vp_nI this (by decide), by rw [cl_nI (by omega)]; exact hq⟩
  · have := h1 (by omega); exact ⟨vp_nI this (by decide), by rw [cl_nI (by omega)]; exact hq⟩
  · have := h2 (by omega) (by omega); exact ⟨vp_nI this (by decide), by rw [cl_nI (by omega)]; exact hq⟩
  · have := h2 (by omega) (by omega); exact ⟨vp_nI this (by decide), by rw [cl_nI (by omega)]; exact hq⟩
  · exact ⟨by unfold vp_in; decide, hq⟩
  · exact ⟨by unfold vp_in; decide, hq⟩
  · exact ⟨by unfold vp_in; decide, hq⟩
theorem read_x {nC nP w a : Nat} (h : okW nC nP w a) (hC : nC ≤ 6) (hP : nP ≤ 8) {σ : Sg} {Q : Int32 → Sg → Prop} (hq : Q (rvX σ w a) σ) : w_X7_read (nI a) (nI w) σ Q := by
  obtain ⟨h1, h2, h3⟩ := okW_a h hC hP
  unfold w_X7_read
  rcases cas9 (w9 h) with rfl | rfl | rfl | rfl | rfl | rfl | rfl | rfl | rfl
  all_goals simp only [lit9.1, lit9.2.1, lit9.2.2.1, lit9.2.2.2.1, lit9.2.2.2.2.1, lit9.2.2.2.2.2.1, lit9.2.2.2.2.2.2.1, lit9.2.2.2.2.2.2.2.1, lit9.2.2.2.2.2.2.2.2, bd_eq, show ¬ ((1 : Int32) = 0) by decide, show ¬ ((2 : Int32) = 0) by decide, show ¬ ((2 : Int32) = 1) by decide, show ¬ ((3 : Int32) = 0) by decide, show ¬ ((3 : Int32) = 1) by decide, show ¬ ((3 : Int32) = 2) by decide, show ¬ ((4 : Int32) = 0) by decide, show ¬ ((4 : Int32) = 1) by decide, show ¬ ((4 : Int32) = 2) by decide, show ¬ ((4 : Int32) = 3) by decide, show ¬ ((5 : Int32) = 0) by decide, show ¬ ((5 : Int32) = 1) by decide, show ¬ ((5 : Int32) = 2) by decide, show ¬ ((5 : Int32) = 3) by decide, show ¬ ((5 : Int32) = 4) by decide, show ¬ ((6 : Int32) = 0) by decide, show ¬ ((6 : Int32) = 1) by decide, show ¬ ((6 : Int32) = 2) by decide, show ¬ ((6 : Int32) = 3) by decide, show ¬ ((6 : Int32) = 4) by decide, show ¬ ((6 : Int32) = 5) by decide, show ¬ ((7 : Int32) = 0) by decide, show ¬ ((7 : Int32) = 1) by decide, show ¬ ((7 : Int32) = 2) by decide, show ¬ ((7 : Int32) = 3) by decide, show ¬ ((7 : Int32) = 4) by decide, show ¬ ((7 : Int32) = 5) by decide, show ¬ ((7 : Int32) = 6) by decide, show ¬ ((8 : Int32) = 0) by decide, show ¬ ((8 : Int32) = 1) by decide, show ¬ ((8 : Int32) = 2) by decide, show ¬ ((8 : Int32) = 3) by decide, show ¬ ((8 : Int32) = 4) by decide, show ¬ ((8 : Int32) = 5) by decide, show ¬ ((8 : Int32) = 6) by decide, show ¬ ((8 : Int32) = 7) by decide, if_true, if_false]
  · have := h1 (by omega); exact ⟨vp_nI this (by decide), by rw [cl_nI (by omega)]; exact hq⟩
  · have := h1 (by omega); exact ⟨vp_nI this (by decide), by rw [cl_nI (by omega)]; exact hq⟩
  · have := h1 (by omega); exact ⟨vp_nI this (by decide), by rw [cl_nI (by omega)]; exact hq⟩
  · have := h1 (by omega); exact ⟨vp_nI this (by decide), by rw [cl_nI (by omega)]; exact hq⟩
  · have := h2 (by omega) (by omega); exact ⟨vp_nI this (by decide), by rw [cl_nI (by omega)]; exact hq⟩
  · have := h2 (by omega) (by omega); exact ⟨vp_nI this (by decide), by rw [cl_nI (by omega)]; exact hq⟩
  · exact hq
  · exact hq
  · exact hq
theorem value_m {nC nP w a : Nat} (h : okW nC nP w a) (hC : nC ≤ 6) (hP : nP ≤ 8) {σ : Sg} (hA : IA σ) {σ' : Sg} (hs : ∀ c, 61 ≤ c → c ≤ 67 → σ'.1 c = σ.1 c) {Q : Int32 → Sg → Prop} (hq : Q (rvX σ w a) σ') : w_X12_valueAt (nI w) (nI a) σ' Q := by
  obtain ⟨h1, h2, h3⟩ := okW_a h hC hP
  obtain ⟨⟨a1, a2, a3, a4, a5, a6⟩, ⟨e1, e2, e3, e4, e5⟩, -⟩ := hA
  unfold w_X12_valueAt
  rw [hs 61 (by omega) (by omega), hs 62 (by omega) (by omega), hs 63 (by omega) (by omega), hs 64 (by omega) (by omega), hs 65 (by omega) (by omega), hs 66 (by omega) (by omega), hs 67 (by omega) (by omega), a1, a2, a3, a4, a5, a6]
  rcases cas9 (w9 h) with rfl | rfl | rfl | rfl | rfl | rfl | rfl | rfl | rfl
  all_goals simp only [lit9.1, lit9.2.1, lit9.2.2.1, lit9.2.2.2.1, lit9.2.2.2.2.1, lit9.2.2.2.2.2.1, lit9.2.2.2.2.2.2.1, lit9.2.2.2.2.2.2.2.1, lit9.2.2.2.2.2.2.2.2, bd_eq, show ¬ ((1 : Int32) = 0) by decide, show ¬ ((2 : Int32) = 0) by decide, show ¬ ((2 : Int32) = 1) by decide, show ¬ ((3 : Int32) = 0) by decide, show ¬ ((3 : Int32) = 1) by decide, show ¬ ((3 : Int32) = 2) by decide, show ¬ ((4 : Int32) = 0) by decide, show ¬ ((4 : Int32) = 1) by decide, show ¬ ((4 : Int32) = 2) by decide, show ¬ ((4 : Int32) = 3) by decide, show ¬ ((5 : Int32) = 0) by decide, show ¬ ((5 : Int32) = 1) by decide, show ¬ ((5 : Int32) = 2) by decide, show ¬ ((5 : Int32) = 3) by decide, show ¬ ((5 : Int32) = 4) by decide, show ¬ ((6 : Int32) = 0) by decide, show ¬ ((6 : Int32) = 1) by decide, show ¬ ((6 : Int32) = 2) by decide, show ¬ ((6 : Int32) = 3) by decide, show ¬ ((6 : Int32) = 4) by decide, show ¬ ((6 : Int32) = 5) by decide, show ¬ ((7 : Int32) = 0) by decide, show ¬ ((7 : Int32) = 1) by decide, show ¬ ((7 : Int32) = 2) by decide, show ¬ ((7 : Int32) = 3) by decide, show ¬ ((7 : Int32) = 4) by decide, show ¬ ((7 : Int32) = 5) by decide, show ¬ ((7 : Int32) = 6) by decide, show ¬ ((8 : Int32) = 0) by decide, show ¬ ((8 : Int32) = 1) by decide, show ¬ ((8 : Int32) = 2) by decide, show ¬ ((8 : Int32) = 3) by decide, show ¬ ((8 : Int32) = 4) by decide, show ¬ ((8 : Int32) = 5) by decide, show ¬ ((8 : Int32) = 6) by decide, show ¬ ((8 : Int32) = 7) by decide, if_true, if_false]
  · have := h1 (by omega); exact ⟨vp_nI this (by decide), by rw [cl_nI (by omega)]; exact hq⟩
  · have := h1 (by omega); exact ⟨vp_nI this (by decide), by rw [cl_nI (by omega)]; exact hq⟩
  · have := h1 (by omega); exact ⟨vp_nI this (by decide), by rw [cl_nI (by omega)]; exact hq⟩
  · have := h1 (by omega); exact ⟨vp_nI this (by decide), by rw [cl_nI (by omega)]; exact hq⟩
  · have := h2 (by omega) (by omega); exact ⟨vp_nI this (by decide), by rw [cl_nI (by omega)]; exact hq⟩
  · have := h2 (by omega) (by omega); exact ⟨vp_nI this (by decide), by rw [cl_nI (by omega)]; exact hq⟩
  · exact ⟨by unfold vp_in; decide, by rw [show (Int32.toNatClampNeg (6 - 6)) = 0 by decide, e3]; exact hq⟩
  · exact ⟨by unfold vp_in; decide, by rw [show (Int32.toNatClampNeg (7 - 6)) = 1 by decide, e4]; exact hq⟩
  · exact ⟨by unfold vp_in; decide, by rw [show (Int32.toNatClampNeg (8 - 6)) = 2 by decide, e5]; exact hq⟩
theorem wrX_ne {σ : Sg} {w a : Nat} {v : Int32} {c : Nat} (h : c = 0 ∨ 7 < c) : (wrX σ w a v).1 c = σ.1 c := by
  unfold wrX
  split <;> exact rd_ne (by omega)
theorem wrX_1 {σ : Sg} {w a : Nat} {v : Int32} {k : Nat} (h : k < 8) : (wrX σ w a v).1 1 k = σ.1 1 k := by
  unfold wrX
  split <;> first | (rw [rd_ne (by omega)]) | (rw [rd_in, if_neg (by omega)])
theorem wrX_2 {σ : Sg} {w a : Nat} {v : Int32} : (wrX σ w a v).2 = σ.2 := by unfold wrX; split <;> rfl
theorem wrM_ne {σ : Sg} {w a : Nat} {v : Int32} {c : Nat} (h : c < 61 ∨ 67 < c) : (wrM σ w a v).1 c = σ.1 c := by
  unfold wrM
  split <;> exact rd_ne (by omega)
theorem wrM_2 {σ : Sg} {w a : Nat} {v : Int32} : (wrM σ w a v).2 = σ.2 := by unfold wrM; split <;> rfl
theorem wrX_congr {σ τ : Sg} {w a : Nat} {v : Int32} {c : Nat} (h : τ.1 c = σ.1 c) : (wrX τ w a v).1 c = (wrX σ w a v).1 c := by
  unfold wrX
  split <;> (simp only [sI]; split <;> simp_all)
theorem wrM_congr {σ τ : Sg} {w a : Nat} {v : Int32} {c : Nat} (h : τ.1 c = σ.1 c) : (wrM τ w a v).1 c = (wrM σ w a v).1 c := by
  unfold wrM
  split <;> (simp only [sI]; split <;> simp_all)
theorem IA_wr {σ σ' : Sg} {nC nP w a : Nat} {v : Int32} (hA : IA σ) (c1 : σ.1 1 4 = nI nC) (c2 : σ.1 1 7 = nI nP) (hC : nC ≤ 6) (hP : nP ≤ 8) (hw : okW nC nP w a) (hv : okV w v) (hx : ∀ c, 1 ≤ c → c ≤ 7 → σ'.1 c = (wrX σ w a v).1 c) (hm : ∀ c, 61 ≤ c → c ≤ 67 → σ'.1 c = (wrM σ w a v).1 c) (h1 : σ'.1 60 1 = σ.1 60 1) (h6 : σ'.1 60 6 = σ.1 60 6) : IA σ' := by
  obtain ⟨⟨a1, a2, a3, a4, a5, a6⟩, ⟨e1, e2, e3, e4, e5⟩, ⟨mC, mP, ⟨hn, en⟩, ⟨hp, ep⟩, hr, hq⟩, r1, r2, r3⟩ := hA
  have x1 : mC = nC := nI_inj (by omega) (by omega) (en.symm.trans c1)
  have x2 : mP = nP := nI_inj (by omega) (by omega) (ep.symm.trans c2)
  subst x1; subst x2
  unfold IA
  rw [hx 1 (by omega) (by omega), hx 2 (by omega) (by omega), hx 3 (by omega) (by omega), hx 4 (by omega) (by omega), hx 5 (by omega) (by omega), hx 6 (by omega) (by omega), hx 7 (by omega) (by omega), hm 61 (by omega) (by omega), hm 62 (by omega) (by omega), hm 63 (by omega) (by omega), hm 64 (by omega) (by omega), hm 65 (by omega) (by omega), hm 66 (by omega) (by omega), hm 67 (by omega) (by omega), h1, h6]
  have hw9 := cas9 (w9 hw)
  have hIa : okV w v := hv
  rcases hw9 with rfl | rfl | rfl | rfl | rfl | rfl | rfl | rfl | rfl
  all_goals simp only [wrX, wrM, rd_ne, rd_fn, rd_2, rdr_eq, rdr_ne, rdr_2, rj_1, rj_ne, rj_fn, rjr_1, rjr_eq, rjr_ne, ne_eq, not_false_eq_true, reduceCtorEq, Nat.reduceEqDiff, if_true, if_false, ite_true, ite_false, a1, a2, a3, a4, a5, a6, e1, e2, e3, e4, e5, Nat.reduceEqDiff, true_and, and_true]
  · refine ⟨⟨mC, mP, ⟨hn, en⟩, ⟨hp, ep⟩, fun k hk => ⟨?_, (hr k hk).2⟩, hq⟩, r1, r2, r3⟩
    split
    · exact hv
    · exact (hr k hk).1
  · refine ⟨⟨mC, mP, ⟨hn, en⟩, ⟨hp, ep⟩, fun k hk => ⟨(hr k hk).1, ?_, (hr k hk).2.2⟩, hq⟩, r1, r2, r3⟩
    split
    · exact hv
    · exact (hr k hk).2.1
  · refine ⟨⟨mC, mP, ⟨hn, en⟩, ⟨hp, ep⟩, fun k hk => ⟨(hr k hk).1, (hr k hk).2.1, ?_, (hr k hk).2.2.2⟩, hq⟩, r1, r2, r3⟩
    split
    · exact hv
    · exact (hr k hk).2.2.1
  · refine ⟨⟨mC, mP, ⟨hn, en⟩, ⟨hp, ep⟩, fun k hk => ⟨(hr k hk).1, (hr k hk).2.1, (hr k hk).2.2.1, ?_⟩, hq⟩, r1, r2, r3⟩
    split
    · exact hv
    · exact (hr k hk).2.2.2
  · refine ⟨⟨mC, mP, ⟨hn, en⟩, ⟨hp, ep⟩, hr, fun k hk => ⟨?_, (hq k hk).2⟩⟩, r1, r2, r3⟩
    split
    · exact hv
    · exact (hq k hk).1
  · refine ⟨⟨mC, mP, ⟨hn, en⟩, ⟨hp, ep⟩, hr, fun k hk => ⟨(hq k hk).1, ?_⟩⟩, r1, r2, r3⟩
    split
    · exact hv
    · exact (hq k hk).2
  · exact ⟨⟨mC, mP, ⟨hn, en⟩, ⟨hp, ep⟩, hr, hq⟩, hv, r2, r3⟩
  · exact ⟨⟨mC, mP, ⟨hn, en⟩, ⟨hp, ep⟩, hr, hq⟩, r1, hv, r3⟩
  · exact ⟨⟨mC, mP, ⟨hn, en⟩, ⟨hp, ep⟩, hr, hq⟩, r1, r2, hv⟩
