/-! put, element, taken, shift -/
theorem m2q : ∀ q, q ≤ 4 → ¬ ((-2 : Int32) - nI q = -1) ∧ ((-2 : Int32) - nI q < 0) ∧ ¬ (0 ≤ (-2 : Int32) - nI q) ∧ (-2 : Int32) - (-2 - nI q) = nI q ∧ ¬ (nI q = -2) ∧ ¬ (nI q = -1) := by
  intro q hq
  have : q = 0 ∨ q = 1 ∨ q = 2 ∨ q = 3 ∨ q = 4 := by omega
  rcases this with rfl | rfl | rfl | rfl | rfl <;> decide
theorem m2i {p q : Nat} (hp : p ≤ 4) (hq : q ≤ 4) (h : (-2 : Int32) - nI p = -2 - nI q) : p = q := by
  have h1 := (m2q p hp).2.2.2.1
  have h2 := (m2q q hq).2.2.2.1
  rw [h, h2] at h1
  exact (nI_inj (by omega) (by omega) h1).symm
theorem nI_n1 {m : Nat} (h : m < 2 ^ 31) : ¬ nI m = -1 ∧ ¬ nI m < 0 ∧ 0 ≤ nI m := ⟨fun q => by have := congrArg Int32.toInt q; rw [nI_toInt h, show (-1 : Int32).toInt = -1 by decide] at this; omega, nI_pos h, nI_pos' h⟩
/-- an element's place: what is wrong with it, if anything -/
theorem ref_x {b s : Nat} {i : Int32} {σ : Sg} {Q : Int32 → Sg → Prop} (hs : s < 6) (h : ShE σ s ∨ (∃ m, ShB σ b s m) ∨ ∃ q n, ShR σ s q n) (hE : ShE σ s → Q (-11) σ) (hB : ∀ m, ShB σ b s m → Q (-12) σ) (hR : ∀ q n, ShR σ s q n → ¬ CR n i → Q (-13) σ) (h0 : ∀ q n, ShR σ s q n → CR n i → Q 0 σ) : w_X11_refusalOfElement (nI s) i σ Q := by
  unfold w_X11_refusalOfElement
  refine shelf_x (fun _ => ?_) (fun q => absurd (nI_inR (b := 5) (by omega) (by decide)) q)
  rw [if_neg one_ne, cl_nI (by omega)]
  refine ⟨vp_nI hs (by decide), ?_⟩
  rcases h with h | ⟨m, h⟩ | ⟨q, n, h⟩
  · rw [h.2, if_pos rfl]
    exact hE h
  · rw [h.2.2.1, if_neg (by decide), if_pos rfl]
    exact hB m h
  · obtain ⟨q1, q2, q3, q4, q5, q6⟩ := id h
    rw [q4, if_neg (m2q q q1).2.2.2.2.1, if_neg (m2q q q1).2.2.2.2.2, q5]
    simp only [w_X11_within, le_pred (show n < 1000000 by omega)]
    exact ltI (by omega) (fun hc => by rw [if_neg one_ne]; exact h0 q n h hc) (fun hc => by rw [if_pos trivial]; exact hR q n h hc)
theorem why_m {b s : Nat} {i : Int32} {σ : Sg} {Q : Int32 → Sg → Prop} (hs : s < 6) (hb : b ≤ 1000) (h : ShE σ s ∨ (∃ m, ShB σ b s m) ∨ ∃ q n, ShR σ s q n) (hE : ShE σ s → Q (-11) σ) (hB : ∀ m, ShB σ b s m → Q (-12) σ) (hR : ∀ q n, ShR σ s q n → ¬ CR n i → Q (-13) σ) (h0 : ∀ q n, ShR σ s q n → CR n i → Q 0 σ) : w_X12_whyNoPlace (nI s) i σ Q := by
  have hv := vp_nI hs (show 6 < 1000000 by decide)
  unfold w_X12_whyNoPlace
  refine shelf_m (fun _ => ?_) (fun q => absurd (nI_inR (b := 5) (by omega) (by decide)) q)
  rw [if_neg one_ne, cl_nI (by omega)]
  refine ⟨hv, ?_⟩
  rcases h with h | ⟨m, h⟩ | ⟨q, n, h⟩
  · rw [h.1, if_pos rfl]
    exact hE h
  · have hm := h.1
    rw [h.2.1, if_neg (nI_n1 (by omega)).1, if_neg (nI_n1 (by omega)).2.1]
    exact ⟨hv, hB m h⟩
  · obtain ⟨q1, q2, q3, q4, q5, q6⟩ := id h
    rw [q3, if_neg (m2q q q1).1, if_pos (m2q q q1).2.1, q6]
    refine ⟨hv, hv, ?_⟩
    simp only [w_X12_in, le_pred (show n < 1000000 by omega)]
    exact ltI (by omega) (fun hc => by rw [if_neg one_ne]; exact h0 q n h hc) (fun hc => by rw [if_pos trivial]; exact hR q n h hc)
theorem ref_b {a i : Int32} {σ : Sg} {Q : Int32 → Sg → Prop} (h : ¬ inR a 0 5) (hQ : Q (-1) σ) : w_X11_refusalOfElement a i σ Q := by
  unfold w_X11_refusalOfElement
  exact shelf_x (fun q => absurd q h) (fun _ => by rw [if_pos rfl]; exact hQ)
theorem why_b {a i : Int32} {σ : Sg} {Q : Int32 → Sg → Prop} (h : ¬ inR a 0 5) (hQ : Q (-1) σ) : w_X12_whyNoPlace a i σ Q := by
  unfold w_X12_whyNoPlace
  exact shelf_m (fun q => absurd q h) (fun _ => by rw [if_pos rfl]; exact hQ)
theorem ex_E {σ : Sg} {b s q n m : Nat} : ¬ (ShE σ s ∧ ShB σ b s m) ∧ ¬ (ShE σ s ∧ ShR σ s q n) ∧ ¬ (ShB σ b s m ∧ ShR σ s q n) := by
  refine ⟨fun ⟨h1, h2⟩ => ?_, fun ⟨h1, h2⟩ => ?_, fun ⟨h1, h2⟩ => ?_⟩
  · have := h1.2.symm.trans h2.2.2.1
    exact absurd this (by decide)
  · have := h1.2.symm.trans h2.2.2.2.1
    exact (m2q q h2.1).2.2.2.2.1 this.symm
  · have := h1.2.2.1.symm.trans h2.2.2.2.1
    exact (m2q q h2.1).2.2.2.2.2 this.symm
theorem op_element {N : Nat} {σ : Sg} (hI : Inv N σ) (a i : Int32) {Q : Int64 → Int64 → Sg → Prop} (hQ : ∀ r σ', Inv (N + 1) σ' → Q r r σ') : w_X11_element a i σ (fun r σ1 => w_X12_element a i σ1 (fun r' σ2 => Q r r' σ2)) := by
  have hS := hI.2.2.2.2.2.1
  have hU := Inv_up hI
  obtain ⟨b, hb, b1, hs⟩ := sh_of hS
  by_cases ha : inR a 0 5
  · obtain ⟨s, hs6, rfl⟩ := s6 ha
    have hc := (hs s hs6).1
    have mbad : (∀ q n, ShR σ s q n → ¬ CR n i) → w_X12_element (nI s) i σ (fun r' σ2 => Q (-9223372036854775808) r' σ2) := by
      intro hn
      unfold w_X12_element
      refine why_m hs6 (by omega) hc (fun _ => ?_) (fun _ _ => ?_) (fun _ _ _ _ => ?_) (fun q n h1 h2 => absurd h2 (hn q n h1))
      · rw [if_neg (by decide)]; exact hQ _ _ hU
      · rw [if_neg (by decide)]; exact hQ _ _ hU
      · rw [if_neg (by decide)]; exact hQ _ _ hU
    unfold w_X11_element
    refine ref_x hs6 hc (fun h => ?_) (fun m h => ?_) (fun q n h hr => ?_) (fun q n h hr => ?_)
    · rw [if_neg (by decide)]
      exact mbad (fun q n h2 => absurd ⟨h, h2⟩ (ex_E (b := b) (m := 0)).2.1)
    · rw [if_neg (by decide)]
      exact mbad (fun q n h2 => absurd ⟨h, h2⟩ ex_E.2.2)
    · rw [if_neg (by decide)]
      refine mbad (fun q' n' h2 hr' => hr ?_)
      have : n' = n := nI_inj (by have := h2.2.1; omega) (by have := h.2.1; omega) (h2.2.2.2.2.1.symm.trans h.2.2.2.2.1)
      rw [← this]; exact hr'
    · rw [if_pos rfl]
      obtain ⟨j, hj, rfl⟩ := id hr
      have hn := h.2.1
      rw [cl_nI (by omega), cl_nI (by omega)]
      refine ⟨vp_nI hs6 (by decide), vp_nI (by omega) (by decide), ?_⟩
      unfold w_X12_element
      refine why_m hs6 (by omega) hc (fun h2 => absurd ⟨h2, h⟩ (ex_E (b := b) (m := 0)).2.1) (fun m h2 => absurd ⟨h2, h⟩ ex_E.2.2) (fun q' n' h2 hr' => absurd ?_ hr') (fun _ _ _ _ => ?_)
      · have : n' = n := nI_inj (by have := h2.2.1; omega) (by have := h.2.1; omega) (h2.2.2.2.2.1.symm.trans h.2.2.2.2.1)
        rw [this]; exact hr
      · rw [if_pos (by decide)]
        have e : ((60 : Int32) * nI s) + nI j = nI (60 * s + j) := by rw [show (60 : Int32) = nI 60 from rfl, pk_mul, nI_add]
        rw [e, cl_nI (by omega), (hs s hs6).2 j (by omega)]
        exact ⟨vp_nI (by omega) (by decide), hQ _ _ hU⟩
  · unfold w_X11_element
    refine ref_b ha ?_
    rw [if_neg (by decide)]
    unfold w_X12_element
    refine why_b ha ?_
    rw [if_neg (by decide)]
    exact hQ _ _ hU
theorem store_x {s q j : Nat} {v : Int64} {σ : Sg} {Q : Sg → Prop} (hq : q ≤ 4) (hs : σ.1 (45 + 2 * s) 0 = nI q) (hj : j < 60) (hQ : Q (sJ σ (46 + 2 * s) j (if q = 0 then Int32.toInt64 (Int8.toInt32 (Int32.toInt8 (Int64.toInt32 v))) else if q = 1 then Int32.toInt64 (Int16.toInt32 (Int32.toInt16 (Int64.toInt32 v))) else if q = 2 then Int32.toInt64 (Int64.toInt32 v) else if q = 3 then v else if lg_cmp v 0 = 0 then 0 else 1))) : w_X10_store s (nI j) v σ Q := by
  have hv : vp_in (nI j) 60 := vp_nI hj (by decide)
  unfold w_X10_store
  rw [hs, cl_nI (by omega)]
  simp only [bd_eq]
  have : q = 0 ∨ q = 1 ∨ q = 2 ∨ q = 3 ∨ q = 4 := by omega
  rcases this with rfl | rfl | rfl | rfl | rfl
  · rw [if_pos (by decide)]
    exact ⟨hv, hQ⟩
  · rw [if_neg (by decide), if_pos (by decide)]
    exact ⟨hv, hQ⟩
  · rw [if_neg (by decide), if_neg (by decide), if_pos (by decide)]
    exact ⟨hv, hQ⟩
  · rw [if_neg (by decide), if_neg (by decide), if_neg (by decide), if_neg (by decide)]
    exact ⟨hv, hQ⟩
  · rw [if_neg (by decide), if_neg (by decide), if_neg (by decide), if_pos (by decide)]
    by_cases g : lg_cmp v 0 = 0
    · rw [if_pos g]
      simp only [g, if_true, show ¬ (4 = 0) by decide, show ¬ (4 = 1) by decide, show ¬ (4 = 2) by decide, show ¬ (4 = 3) by decide, if_false] at hQ
      exact ⟨hv, hQ⟩
    · rw [if_neg g]
      simp only [g, show ¬ (4 = 0) by decide, show ¬ (4 = 1) by decide, show ¬ (4 = 2) by decide, show ¬ (4 = 3) by decide, if_false] at hQ
      exact ⟨hv, hQ⟩
theorem op_put {N : Nat} {σ : Sg} (hI : Inv N σ) (a i : Int32) (v : Int64) {Q : Int32 → Int32 → Sg → Prop} (hQ : ∀ r σ', Inv (N + 1) σ' → Q r r σ') : w_X11_put a i v σ (fun r σ1 => w_X12_put a i v σ1 (fun r' σ2 => Q r r' σ2)) := by
  have hS := hI.2.2.2.2.2.1
  have hU := Inv_up hI
  obtain ⟨b, hb, b1, hs⟩ := sh_of hS
  by_cases ha : inR a 0 5
  · obtain ⟨s, hs6, rfl⟩ := s6 ha
    have hc := (hs s hs6).1
    unfold w_X11_put
    refine ref_x hs6 hc (fun h => ?_) (fun m h => ?_) (fun q n h hr => ?_) (fun q n h hr => ?_)
    · rw [if_neg (by decide)]
      unfold w_X12_put
      refine why_m hs6 (by omega) hc (fun _ => ?_) (fun _ h2 => absurd ⟨h, h2⟩ (ex_E (q := 0) (n := 0)).1) (fun q n h2 _ => absurd ⟨h, h2⟩ (ex_E (b := b) (m := 0)).2.1) (fun q n h2 _ => absurd ⟨h, h2⟩ (ex_E (b := b) (m := 0)).2.1)
      rw [if_neg (by decide)]; exact hQ _ _ hU
    · rw [if_neg (by decide)]
      unfold w_X12_put
      refine why_m hs6 (by omega) hc (fun h2 => absurd ⟨h2, h⟩ (ex_E (q := 0) (n := 0)).1) (fun _ _ => ?_) (fun q n h2 _ => absurd ⟨h, h2⟩ ex_E.2.2) (fun q n h2 _ => absurd ⟨h, h2⟩ ex_E.2.2)
      rw [if_neg (by decide)]; exact hQ _ _ hU
    · rw [if_neg (by decide)]
      unfold w_X12_put
      refine why_m hs6 (by omega) hc (fun h2 => absurd ⟨h2, h⟩ (ex_E (b := b) (m := 0)).2.1) (fun m h2 => absurd ⟨h2, h⟩ ex_E.2.2) (fun _ _ _ _ => ?_) (fun q' n' h2 hr' => absurd ?_ hr)
      · rw [if_neg (by decide)]; exact hQ _ _ hU
      · have : n' = n := nI_inj (by have := h2.2.1; omega) (by have := h.2.1; omega) (h2.2.2.2.2.1.symm.trans h.2.2.2.2.1)
        rw [← this]; exact hr'
    · rw [if_pos rfl]
      obtain ⟨j, hj, rfl⟩ := id hr
      have hn := h.2.1
      have hq := h.1
      rw [cl_nI (by omega)]
      refine ⟨vp_nI hs6 (by decide), store_x hq h.2.2.2.1 (by omega) ?_⟩
      have hc' : ShE (sJ σ (46 + 2 * s) j (if q = 0 then Int32.toInt64 (Int8.toInt32 (Int32.toInt8 (Int64.toInt32 v))) else if q = 1 then Int32.toInt64 (Int16.toInt32 (Int32.toInt16 (Int64.toInt32 v))) else if q = 2 then Int32.toInt64 (Int64.toInt32 v) else if q = 3 then v else if lg_cmp v 0 = 0 then 0 else 1)) s ∨ (∃ m, ShB (sJ σ (46 + 2 * s) j (if q = 0 then Int32.toInt64 (Int8.toInt32 (Int32.toInt8 (Int64.toInt32 v))) else if q = 1 then Int32.toInt64 (Int16.toInt32 (Int32.toInt16 (Int64.toInt32 v))) else if q = 2 then Int32.toInt64 (Int64.toInt32 v) else if q = 3 then v else if lg_cmp v 0 = 0 then 0 else 1)) b s m) ∨ ∃ q' n, ShR (sJ σ (46 + 2 * s) j (if q = 0 then Int32.toInt64 (Int8.toInt32 (Int32.toInt8 (Int64.toInt32 v))) else if q = 1 then Int32.toInt64 (Int16.toInt32 (Int32.toInt16 (Int64.toInt32 v))) else if q = 2 then Int32.toInt64 (Int64.toInt32 v) else if q = 3 then v else if lg_cmp v 0 = 0 then 0 else 1)) s q' n := hc
      generalize hw : (if q = 0 then Int32.toInt64 (Int8.toInt32 (Int32.toInt8 (Int64.toInt32 v))) else if q = 1 then Int32.toInt64 (Int16.toInt32 (Int32.toInt16 (Int64.toInt32 v))) else if q = 2 then Int32.toInt64 (Int64.toInt32 v) else if q = 3 then v else if lg_cmp v 0 = 0 then (0 : Int64) else 1) = w at hc' ⊢
      have hfin : Inv (N + 1) (sJ (sJ σ (46 + 2 * s) j w) 93 (60 * s + j) w) := by
        refine Inv_sh hI (fun _ _ _ _ => rfl) (IS_upd hs6 hS rfl (fun u hu hne => ⟨rfl, rfl, rfl, fun k hk => ?_, fun k hk => ?_⟩) (fun b' h1 h2 => ?_) (fun k hk => ?_))
        · rw [rj_in, if_neg (by omega), rj_ne (by omega)]
        · rw [rj_ne (by omega), rj_ne (by omega)]
        · obtain ⟨b2, h3, h4, h5⟩ := hS
          have : b' = b2 := nI_inj (by omega) (by omega) (h1.symm.trans h4)
          rw [this]
          exact (h5 s hs6).1
        · rw [rj_in, rj_ne (by omega), rj_ne (by omega), rj_in, (hs s hs6).2 k hk]
          by_cases e : k = j
          · rw [if_pos (by omega), if_pos e]
          · rw [if_neg (by omega), if_neg e]
      unfold w_X12_put
      refine why_m hs6 (by omega) hc' (fun h2 => absurd ⟨show ShE σ s from h2, h⟩ (ex_E (b := b) (m := 0)).2.1) (fun m h2 => absurd ⟨show ShB σ b s m from h2, h⟩ ex_E.2.2) (fun q' n' h2 hr' => absurd ?_ hr') (fun _ _ _ _ => ?_)
      · have : n' = n := nI_inj (by have := h2.2.1; omega) (by have := h.2.1; omega) ((show ShR σ s q' n' from h2).2.2.2.2.1.symm.trans h.2.2.2.2.1)
        rw [this]; exact hr
      · rw [if_pos (by decide)]
        have e : ((60 : Int32) * nI s) + nI j = nI (60 * s + j) := by rw [show (60 : Int32) = nI 60 from rfl, pk_mul, nI_add]
        have hv : vp_in (nI (60 * s + j)) 360 := vp_nI (by omega) (by decide)
        have e3 : (-2 : Int32) - ((sJ σ (46 + 2 * s) j w).1 91 (Int32.toNatClampNeg (nI s))) = nI q := by rw [rj_1, cl_nI (by omega), h.2.2.1]; exact (m2q q hq).2.2.2.1
        rw [e3]
        simp only [bd_eq, e, cl_nI (show 60 * s + j < 1000000 by omega)]
        refine ⟨vp_nI hs6 (by decide), ?_⟩
        have : q = 0 ∨ q = 1 ∨ q = 2 ∨ q = 3 ∨ q = 4 := by omega
        rcases this with rfl | rfl | rfl | rfl | rfl
        · rw [if_pos (by decide)]
          rw [if_pos rfl] at hw
          rw [hw]
          exact ⟨hv, hQ _ _ hfin⟩
        · rw [if_neg (by decide), if_pos (by decide)]
          rw [if_neg (by decide), if_pos rfl] at hw
          rw [hw]
          exact ⟨hv, hQ _ _ hfin⟩
        · rw [if_neg (by decide), if_neg (by decide), if_pos (by decide)]
          rw [if_neg (by decide), if_neg (by decide), if_pos rfl] at hw
          rw [hw]
          exact ⟨hv, hQ _ _ hfin⟩
        · rw [if_neg (by decide), if_neg (by decide), if_neg (by decide), if_pos (by decide)]
          rw [if_neg (by decide), if_neg (by decide), if_neg (by decide), if_pos rfl] at hw
          rw [hw]
          exact ⟨hv, hQ _ _ hfin⟩
        · rw [if_neg (by decide), if_neg (by decide), if_neg (by decide), if_neg (by decide)]
          rw [if_neg (by decide), if_neg (by decide), if_neg (by decide), if_neg (by decide)] at hw
          by_cases g : lg_cmp v 0 = 0
          · rw [if_pos g] at hw ⊢
            rw [hw]
            exact ⟨hv, hQ _ _ hfin⟩
          · rw [if_neg g] at hw ⊢
            rw [hw]
            exact ⟨hv, hQ _ _ hfin⟩
  · unfold w_X11_put
    refine ref_b ha ?_
    rw [if_neg (by decide)]
    unfold w_X12_put
    refine why_b ha ?_
    rw [if_neg (by decide)]
    exact hQ _ _ hU
