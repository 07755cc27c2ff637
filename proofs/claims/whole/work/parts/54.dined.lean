/-! judge, dined: the calls -/
/-- what a row of bytes asks: nothing wrong, or -11, -12 -/
theorem fault_m {b s : Nat} {σ : Sg} {Q : Int32 → Sg → Prop} (hs : s < 6) (hb : b ≤ 1000) (h : ShE σ s ∨ (∃ m, ShB σ b s m) ∨ ∃ q n, ShR σ s q n) (hE : ShE σ s → Q (-11) σ) (hB : ∀ m, ShB σ b s m → Q (-12) σ) (hR : ∀ q n, ShR σ s q n → q ≠ 0 → Q (-12) σ) (h0 : ∀ n, ShR σ s 0 n → Q 0 σ) : w_X12_rowFault (nI s) σ Q := by
  have hv := vp_nI hs (show 6 < 1000000 by decide)
  unfold w_X12_rowFault
  rw [cl_nI (by omega)]
  refine ⟨hv, ?_⟩
  rcases h with h | ⟨m, h⟩ | ⟨q, n, h⟩
  · rw [h.1, if_pos rfl]
    exact hE h
  · have hm := h.1
    have hne : ¬ nI m = -2 := fun z => by have := congrArg Int32.toInt z; rw [nI_toInt (by omega), show (-2 : Int32).toInt = -2 by decide] at this; omega
    rw [h.2.1, if_neg (nI_n1 (by omega)).1, if_neg hne]
    exact ⟨hv, hB m h⟩
  · obtain ⟨q1, q2, q3, q4, q5, q6⟩ := id h
    rw [q3, if_neg (m2q q q1).1]
    refine ⟨hv, ?_⟩
    cases q with
    | zero =>
      rw [if_pos (show (-2 : Int32) - nI 0 = -2 by decide)]
      exact h0 n h
    | succ q =>
      have hne : ¬ (-2 : Int32) - nI (q + 1) = -2 := fun z => absurd (m2i (p := q + 1) (q := 0) q1 (Nat.zero_le _) (z.trans (show (-2 : Int32) = -2 - nI 0 by decide))) (Nat.succ_ne_zero q)
      rw [if_neg hne]
      exact hR (q + 1) n h (Nat.succ_ne_zero q)
theorem refu_x {b s : Nat} {σ : Sg} {Q : Int32 → Sg → Prop} (h : ShE σ s ∨ (∃ m, ShB σ b s m) ∨ ∃ q n, ShR σ s q n) (hE : ShE σ s → Q (-11) σ) (hB : ∀ m, ShB σ b s m → Q (-12) σ) (hR : ∀ q n, ShR σ s q n → q ≠ 0 → Q (-12) σ) (h0 : ∀ n, ShR σ s 0 n → Q 0 σ) : w_X10_refusalAsBytes s σ Q := by
  unfold w_X10_refusalAsBytes
  rcases h with h | ⟨m, h⟩ | ⟨q, n, h⟩
  · rw [h.2, if_pos rfl]
    exact hE h
  · rw [h.2.2.1, if_neg (by decide), if_neg (by decide)]
    exact hB m h
  · obtain ⟨q1, q2, q3, q4, q5, q6⟩ := id h
    rw [q4, if_neg (m2q q q1).2.2.2.2.1]
    by_cases g : q = 0
    · subst g
      rw [if_pos (by decide)]
      exact h0 n h
    · rw [if_neg (nI_ne0 (by omega) (by omega))]
      exact hR q n h g
theorem judge_b {nC : Nat} {a k : Int32} {σ : Sg} {Q : Int32 → Sg → Prop} (hn : nC ≤ 6) (e : σ.1 60 1 = nI nC) (h : ¬ (inR a 0 5 ∧ CR nC k)) (hQ : Q (-1) σ) : w_X12_judge a k σ Q := by
  unfold w_X12_judge
  refine shelf_m (fun h1 => ?_) (fun _ => by rw [if_pos rfl]; exact hQ)
  rw [if_neg one_ne]
  exact car_m (by omega) e (fun h2 => absurd ⟨h1, h2⟩ h) (fun _ => by rw [if_pos rfl]; exact hQ)
theorem op_judge {N : Nat} {σ : Sg} (hI : Inv N σ) (hN : N < 600) (a k : Int32) {Q : Int32 → Int32 → Sg → Prop} (hQ : ∀ r σ', Inv (N + 1) σ' → Q r r σ') : w_X11_judge a k σ (fun r σ1 => w_X12_judge a k σ1 (fun r' σ2 => Q r r' σ2)) := by
  obtain ⟨nC, nP, g, hB, hq, h3, hX, hM⟩ := Inv_get hI
  have hK := Inv_K hI
  have hU := Inv_up hI
  obtain ⟨bb, hbb, b1, hsh⟩ := sh_of hI.2.2.2.2.2.1
  obtain ⟨hn, hp, en, ep⟩ := hB.1
  have c60 := c60_x hq hB (Fx.refl σ)
  unfold w_X11_judge
  refine shelf_x (fun h1 => ?_) (fun h => by rw [if_pos rfl]; exact judge_b hn c60.1 (fun q => h q.1) (hQ _ _ hU))
  rw [if_neg one_ne]
  refine car_x (by omega) en (fun h2 => ?_) (fun h => by rw [if_pos rfl]; exact judge_b hn c60.1 (fun q => h q.2) (hQ _ _ hU))
  rw [if_neg one_ne]
  obtain ⟨s, hs, rfl⟩ := s6 h1
  obtain ⟨k, hk, rfl⟩ := id h2
  have hv := vp_nI hs (show 6 < 1000000 by decide)
  have hvk := vp_nI (show k < 6 by omega) (show 6 < 1000000 by decide)
  have mopen : ∀ (τ : Sg) (P : Int32 → Sg → Prop), Fx σ τ → (w_X12_rowFault (nI s) τ (fun r6 σ5 => if 0 ≤ r6 then (w_X12_wrongTwo (nI s) (nI k) σ5 (fun r8 σ7 => P r8 σ7)) else (w_X12_rowFault (nI s) σ5 (fun r10 σ9 => P r10 σ9)))) → w_X12_judge (nI s) (nI k) τ P := by
    intro τ P hF h
    unfold w_X12_judge
    refine shelf_m (fun _ => ?_) (fun z => absurd h1 z)
    rw [if_neg one_ne]
    refine car_m (by omega) (c60_x hq hB hF).1 (fun _ => ?_) (fun z => absurd h2 z)
    rw [if_neg one_ne]
    exact h
  have hsx := (hsh s hs).1
  rw [cl_nI (by omega)]
  refine ⟨hv, refu_x hsx (fun h => ?_) (fun m h => ?_) (fun q n h hq0 => ?_) (fun n h => ?_)⟩
  · rw [if_neg (by decide)]
    refine mopen σ _ (Fx.refl σ) (fault_m hs (by omega) hsx (fun _ => ?_) (fun m h2 => absurd ⟨h, h2⟩ (ex_E (q := 0) (n := 0)).1) (fun q n h2 _ => absurd ⟨h, h2⟩ (ex_E (b := bb) (m := 0)).2.1) (fun n h2 => absurd ⟨h, h2⟩ (ex_E (b := bb) (m := 0)).2.1))
    rw [if_neg (by decide)]
    exact fault_m hs (by omega) hsx (fun _ => hQ _ _ hU) (fun m h2 => absurd ⟨h, h2⟩ (ex_E (q := 0) (n := 0)).1) (fun q n h2 _ => absurd ⟨h, h2⟩ (ex_E (b := bb) (m := 0)).2.1) (fun n h2 => absurd ⟨h, h2⟩ (ex_E (b := bb) (m := 0)).2.1)
  · rw [if_neg (by decide)]
    refine mopen σ _ (Fx.refl σ) (fault_m hs (by omega) hsx (fun h2 => absurd ⟨h2, h⟩ (ex_E (q := 0) (n := 0)).1) (fun _ _ => ?_) (fun q n h2 _ => absurd ⟨h, h2⟩ ex_E.2.2) (fun n h2 => absurd ⟨h, h2⟩ ex_E.2.2))
    rw [if_neg (by decide)]
    exact fault_m hs (by omega) hsx (fun h2 => absurd ⟨h2, h⟩ (ex_E (q := 0) (n := 0)).1) (fun _ _ => hQ _ _ hU) (fun q n h2 _ => absurd ⟨h, h2⟩ ex_E.2.2) (fun n h2 => absurd ⟨h, h2⟩ ex_E.2.2)
  · rw [if_neg (by decide)]
    have hq' : ∀ n', ¬ ShR σ s 0 n' := fun n' h2 => hq0 (nI_inj (by have := h.1; omega) (by decide) (h.2.2.2.1.symm.trans h2.2.2.2.1))
    refine mopen σ _ (Fx.refl σ) (fault_m hs (by omega) hsx (fun h2 => absurd ⟨h2, h⟩ (ex_E (b := bb) (m := 0)).2.1) (fun m h2 => absurd ⟨h2, h⟩ ex_E.2.2) (fun _ _ _ _ => ?_) (fun n' h2 => absurd h2 (hq' n')))
    rw [if_neg (by decide)]
    exact fault_m hs (by omega) hsx (fun h2 => absurd ⟨h2, h⟩ (ex_E (b := bb) (m := 0)).2.1) (fun m h2 => absurd ⟨h2, h⟩ ex_E.2.2) (fun _ _ _ _ => hQ _ _ hU) (fun n' h2 => absurd h2 (hq' n'))
  · rw [if_pos rfl]
    obtain ⟨q1, q2, q3, q4, q5, q6⟩ := id h
    obtain ⟨⟨k1, k2⟩, ⟨k3, k4⟩, ⟨k5, k6, k7⟩, ⟨k8', k9⟩⟩ := hB.2.1 k hk
    refine ⟨hv, ?_⟩
    unfold w_X5_firstWrongNow
    rw [cl_nI (by omega), k5]
    refine ⟨hvk, hvk, start_x (by omega) h3 hX k8' k9 hB.2.2.2.2.1 hB.2.2.2.2.2 hK (by omega) (fun τ1 hst hC hK1 => ⟨hvk, ?_⟩)⟩
    refine stand_x (by omega) hC.1.1 (by rw [hst.1 2 (by omega), k1]) (by rw [hst.1 3 (by omega), k3]) ?_
    have hR : RX σ s n (fun i => Int64.toInt32 (σ.2 (46 + 2 * s) i)) := ⟨q2, q5, fun _ _ => rfl⟩
    have hF1 := hst.x (show k < 6 by omega)
    refine last_x (RX_f hR hF1) ?_
    refine try_x hB hR hk hF1 hC (by omega) hK1 (by omega) (stN_lt hB hk) (fun τ2 hF2 _ hK2 => ?_)
    have hsx2 : ShR τ2 s 0 n := ⟨q1, q2, by rw [hF2.lo (c := 91) (by omega), q3], by rw [hF2.lo (by omega), q4], by rw [hF2.lo (by omega), q5], by rw [hF2.lo (c := 92) (by omega), q6]⟩
    have hRM : RM τ2 s n (fun i => Int64.toInt32 (σ.2 (46 + 2 * s) i)) := ⟨q2, hsx2.2.2.2.2.2, fun i hi => by rw [hF2.2.2.2, (hsh s hs).2 i hi]⟩
    refine mopen τ2 _ hF2 (fault_m (b := bb) hs (by omega) (Or.inr (Or.inr ⟨0, n, hsx2⟩)) (fun h2 => absurd ⟨h2, hsx2⟩ (ex_E (b := bb) (m := 0)).2.1) (fun m h2 => absurd ⟨h2, hsx2⟩ ex_E.2.2) (fun q' n' h2 hq0 => absurd (nI_inj (by have := h2.1; omega) (by decide) (h2.2.2.2.1.symm.trans hsx2.2.2.2.1)) hq0) (fun _ _ => ?_))
    rw [if_pos (by decide)]
    have e : ∀ c, 61 ≤ c → c ≤ 77 → τ2.1 c = σ.1 c := fun c h1 h2 => hF2.lo (by omega)
    exact wrong_m hs (by omega) hRM (LM_of hB hq hF2 (Fm.refl τ2)) (GM_of hB hq h3 hM hk e (by rw [hF2.lo (by omega)])) (by omega) (by rw [e 61 (by decide) (by decide), hq.1.1, k1]) (by rw [e 62 (by decide) (by decide), hq.1.2.1, k3]) k2 k4 (fun τ3 hr => hQ _ _ (th_e hI hF2 hK2 (by omega) hr.m))
theorem dined_b {nC : Nat} {a k c : Int32} {σ : Sg} {Q : Int32 → Sg → Prop} (hn : nC ≤ 6) (e : σ.1 60 1 = nI nC) (h : ¬ (inR a 0 5 ∧ CR nC k ∧ inR c 0 3)) (hQ : Q (-1) σ) : w_X12_dined a k c σ Q := by
  unfold w_X12_dined
  refine shelf_m (fun h1 => ?_) (fun _ => by rw [if_pos rfl]; exact hQ)
  rw [if_neg one_ne]
  refine car_m (by omega) e (fun h2 => ?_) (fun _ => by rw [if_pos rfl]; exact hQ)
  rw [if_neg one_ne]
  exact in_m (a := 0) (b := 3) (by decide) (by decide) (fun h3 => absurd ⟨h1, h2, h3⟩ h) (fun _ => by rw [if_pos rfl]; exact hQ)
theorem four_of {c : Int32} (h : inR c 0 3) : c = 0 ∨ c = 1 ∨ c = 2 ∨ c = 3 := by
  obtain ⟨n, h1, rfl⟩ := inR_num (b := 3) h (by decide)
  have : n = 0 ∨ n = 1 ∨ n = 2 ∨ n = 3 := by omega
  rcases this with rfl | rfl | rfl | rfl
  · exact Or.inl rfl
  · exact Or.inr (Or.inl rfl)
  · exact Or.inr (Or.inr (Or.inl rfl))
  · exact Or.inr (Or.inr (Or.inr rfl))
theorem op_dined {N : Nat} {σ : Sg} (hI : Inv N σ) (hN : N < 600) (a k c : Int32) {Q : Int32 → Int32 → Sg → Prop} (hQ : ∀ r σ', Inv (N + 1) σ' → Q r r σ') : w_X11_dined a k c σ (fun r σ1 => w_X12_dined a k c σ1 (fun r' σ2 => Q r r' σ2)) := by
  obtain ⟨nC, nP, g, hB, hq, h3, hX, hM⟩ := Inv_get hI
  have hK := Inv_K hI
  have hU := Inv_up hI
  obtain ⟨bb, hbb, b1, hsh⟩ := sh_of hI.2.2.2.2.2.1
  obtain ⟨hn, hp, en, ep⟩ := hB.1
  have c60 := c60_x hq hB (Fx.refl σ)
  unfold w_X11_dined
  refine shelf_x (fun h1 => ?_) (fun h => by rw [if_pos rfl]; exact dined_b hn c60.1 (fun q => h q.1) (hQ _ _ hU))
  rw [if_neg one_ne]
  refine car_x (by omega) en (fun h2 => ?_) (fun h => by rw [if_pos rfl]; exact dined_b hn c60.1 (fun q => h q.2.1) (hQ _ _ hU))
  rw [if_neg one_ne]
  refine within_x (a := 0) (b := 3) (by decide) (by decide) (fun h3' => ?_) (fun h => by rw [if_pos rfl]; exact dined_b hn c60.1 (fun q => h q.2.2) (hQ _ _ hU))
  rw [if_neg one_ne]
  obtain ⟨s, hs, rfl⟩ := s6 h1
  obtain ⟨k, hk, rfl⟩ := id h2
  have hv := vp_nI hs (show 6 < 1000000 by decide)
  have hk6 : k < 6 := by omega
  have hvk := vp_nI hk6 (show 6 < 1000000 by decide)
  have mopen : ∀ (τ : Sg) (P : Int32 → Sg → Prop), Fx σ τ → (w_X12_rowFault (nI s) τ (fun r8 σ7 => if 0 ≤ r8 then (if c = (0 : Int32) then (w_X12_dinedWays (nI s) (nI k) σ7 (fun r10 σ9 => P r10 σ9)) else (if c = (1 : Int32) then (w_X12_dinedFrom (nI s) (nI k) (0 : Int32) σ7 (fun r12 σ11 => P r12 σ11)) else (if c = (2 : Int32) then (w_X12_dinedFrom (nI s) (nI k) (1 : Int32) σ7 (fun r14 σ13 => P r14 σ13)) else (w_X12_dinedPaces (nI s) (nI k) σ7 (fun r16 σ15 => P r16 σ15))))) else (w_X12_rowFault (nI s) σ7 (fun r18 σ17 => P r18 σ17)))) → w_X12_dined (nI s) (nI k) c τ P := by
    intro τ P hF h
    unfold w_X12_dined
    refine shelf_m (fun _ => ?_) (fun z => absurd h1 z)
    rw [if_neg one_ne]
    refine car_m (by omega) (c60_x hq hB hF).1 (fun _ => ?_) (fun z => absurd h2 z)
    rw [if_neg one_ne]
    refine in_m (a := 0) (b := 3) (by decide) (by decide) (fun _ => ?_) (fun z => absurd h3' z)
    rw [if_neg one_ne]
    exact h
  have hsx := (hsh s hs).1
  rw [cl_nI (by omega)]
  refine ⟨hv, refu_x hsx (fun h => ?_) (fun m h => ?_) (fun q n h hq0 => ?_) (fun n h => ?_)⟩
  · rw [if_neg (by decide)]
    refine mopen σ _ (Fx.refl σ) (fault_m hs (by omega) hsx (fun _ => ?_) (fun m h2 => absurd ⟨h, h2⟩ (ex_E (q := 0) (n := 0)).1) (fun q n h2 _ => absurd ⟨h, h2⟩ (ex_E (b := bb) (m := 0)).2.1) (fun n h2 => absurd ⟨h, h2⟩ (ex_E (b := bb) (m := 0)).2.1))
    rw [if_neg (by decide)]
    exact fault_m hs (by omega) hsx (fun _ => hQ _ _ hU) (fun m h2 => absurd ⟨h, h2⟩ (ex_E (q := 0) (n := 0)).1) (fun q n h2 _ => absurd ⟨h, h2⟩ (ex_E (b := bb) (m := 0)).2.1) (fun n h2 => absurd ⟨h, h2⟩ (ex_E (b := bb) (m := 0)).2.1)
  · rw [if_neg (by decide)]
    refine mopen σ _ (Fx.refl σ) (fault_m hs (by omega) hsx (fun h2 => absurd ⟨h2, h⟩ (ex_E (q := 0) (n := 0)).1) (fun _ _ => ?_) (fun q n h2 _ => absurd ⟨h, h2⟩ ex_E.2.2) (fun n h2 => absurd ⟨h, h2⟩ ex_E.2.2))
    rw [if_neg (by decide)]
    exact fault_m hs (by omega) hsx (fun h2 => absurd ⟨h2, h⟩ (ex_E (q := 0) (n := 0)).1) (fun _ _ => hQ _ _ hU) (fun q n h2 _ => absurd ⟨h, h2⟩ ex_E.2.2) (fun n h2 => absurd ⟨h, h2⟩ ex_E.2.2)
  · rw [if_neg (by decide)]
    have hq' : ∀ n', ¬ ShR σ s 0 n' := fun n' h2 => hq0 (nI_inj (by have := h.1; omega) (by decide) (h.2.2.2.1.symm.trans h2.2.2.2.1))
    refine mopen σ _ (Fx.refl σ) (fault_m hs (by omega) hsx (fun h2 => absurd ⟨h2, h⟩ (ex_E (b := bb) (m := 0)).2.1) (fun m h2 => absurd ⟨h2, h⟩ ex_E.2.2) (fun _ _ _ _ => ?_) (fun n' h2 => absurd h2 (hq' n')))
    rw [if_neg (by decide)]
    exact fault_m hs (by omega) hsx (fun h2 => absurd ⟨h2, h⟩ (ex_E (b := bb) (m := 0)).2.1) (fun m h2 => absurd ⟨h2, h⟩ ex_E.2.2) (fun _ _ _ _ => hQ _ _ hU) (fun n' h2 => absurd h2 (hq' n'))
  · rw [if_pos rfl]
    obtain ⟨q1, q2, q3, q4, q5, q6⟩ := id h
    obtain ⟨⟨k1, k2⟩, ⟨k3, k4⟩, ⟨k5, k6, k7⟩, ⟨k8', k9⟩⟩ := hB.2.1 k hk
    have hR : RX σ s n (fun i => Int64.toInt32 (σ.2 (46 + 2 * s) i)) := ⟨q2, q5, fun _ _ => rfl⟩
    generalize hf : (fun i => Int64.toInt32 (σ.2 (46 + 2 * s) i)) = f at hR
    -- the reference's side, from what the class left
    have mrun : ∀ (τ : Sg) (M : Nat) (P : Int32 → Sg → Prop), Fx σ τ → IKb M τ → M ≤ 16 * (N + 1) →
        (if c = (0 : Int32) then (w_X12_dinedWays (nI s) (nI k) τ (fun r10 σ9 => P r10 σ9)) else (if c = (1 : Int32) then (w_X12_dinedFrom (nI s) (nI k) (0 : Int32) τ (fun r12 σ11 => P r12 σ11)) else (if c = (2 : Int32) then (w_X12_dinedFrom (nI s) (nI k) (1 : Int32) τ (fun r14 σ13 => P r14 σ13)) else (w_X12_dinedPaces (nI s) (nI k) τ (fun r16 σ15 => P r16 σ15))))) → w_X12_dined (nI s) (nI k) c τ P := by
      intro τ M P hF2 hK2 hMb h
      have hsx2 : ShR τ s 0 n := ⟨q1, q2, by rw [hF2.lo (c := 91) (by omega), q3], by rw [hF2.lo (by omega), q4], by rw [hF2.lo (by omega), q5], by rw [hF2.lo (c := 92) (by omega), q6]⟩
      refine mopen τ _ hF2 (fault_m (b := bb) hs (by omega) (Or.inr (Or.inr ⟨0, n, hsx2⟩)) (fun h2 => absurd ⟨h2, hsx2⟩ (ex_E (b := bb) (m := 0)).2.1) (fun m h2 => absurd ⟨h2, hsx2⟩ ex_E.2.2) (fun q' n' h2 hq0 => absurd (nI_inj (by have := h2.1; omega) (by decide) (h2.2.2.2.1.symm.trans hsx2.2.2.2.1)) hq0) (fun _ _ => ?_))
      rw [if_pos (by decide)]
      exact h
    have hRM : ∀ τ : Sg, Fx σ τ → RM τ s n f := fun τ hF2 => ⟨q2, by rw [hF2.lo (c := 92) (by omega), q6], fun i hi => by rw [hF2.2.2.2, (hsh s hs).2 i hi, ← hf]⟩
    have e : ∀ τ : Sg, Fx σ τ → ∀ c, 61 ≤ c → c ≤ 77 → τ.1 c = σ.1 c := fun τ hF2 c h1 h2 => hF2.lo (by omega)
    have hGM : ∀ τ : Sg, Fx σ τ → GM τ k (vN σ 4 k) (lP g σ k (vN σ 4 k)) := fun τ hF2 => GM_of hB hq h3 hM hk (e τ hF2) (by rw [hF2.lo (by omega)])
    rcases four_of h3' with c0 | c0 | c0 | c0
    · rw [if_pos c0]
      unfold w_X5_waysThatFit
      rw [cl_nI (by omega), k5]
      refine ⟨hvk, hvk, start_x hk6 h3 hX k8' k9 hB.2.2.2.2.1 hB.2.2.2.2.2 hK (by omega) (fun τ1 hst hC hK1 => ?_)⟩
      refine last_x (RX_f hR (hst.x hk6)) ⟨9, ways_x (l := lP g σ k (vN σ 4 k)) hB hR hk (by omega) (by omega) (fun τ2 hF2 hK2 => ?_) 8 0 τ1 (by decide) (hst.x hk6) hC hK1⟩
      refine mrun τ2 _ _ hF2 hK2 (by omega) ?_
      rw [if_pos c0]
      unfold w_X12_dinedWays
      rw [bd_eq, bd_eq, cl_nI (by omega)]
      refine ⟨hvk, 9, ways_m hs hk6 (hRM τ2 hF2) (LM_of hB hq hF2 (Fm.refl τ2)) (hGM τ2 hF2) (by omega) (by rw [e τ2 hF2 61 (by decide) (by decide), hq.1.1, k1]) k2 (fun τ3 hd => ⟨hvk, ?_⟩) 8 0 τ2 (by decide) (Fdn.refl _ _ _)⟩
      rw [bd_eq]
      exact hQ _ _ (th_e hI hF2 hK2 (by omega) (Fdn.back hd (by decide)).m)
    · rw [if_neg (by rw [c0]; decide), if_neg (by rw [c0]; decide), bd_eq, if_neg (by rw [c0]; decide)]
      show w_X5_cellsThatFit s (nI k) 0 σ _
      unfold w_X5_cellsThatFit
      rw [cl_nI (by omega), k5]
      refine ⟨hvk, hvk, start_x hk6 h3 hX k8' k9 hB.2.2.2.2.1 hB.2.2.2.2.2 hK (by omega) (fun τ1 hst hC hK1 => ?_)⟩
      refine last_x (RX_f hR (hst.x hk6)) ?_
      rw [bd_eq]
      refine ⟨257, cellsN_x (l := lP g σ k (vN σ 4 k)) hB hR hk (by omega) (M := 16 * N + 1) (by omega) 256 0 τ1 (by decide) (hst.x hk6) hC hK1 (fun τ2 hF2 hK2 => ⟨fun _ => ?_, fun z => absurd rfl z⟩)⟩
      rw [if_pos rfl]
      refine mrun τ2 _ _ hF2 hK2 (by omega) ?_
      rw [if_neg (by rw [c0]; decide), if_pos c0]
      unfold w_X12_dinedFrom
      rw [bd_eq, bd_eq, cl_nI (by omega)]
      refine ⟨hvk, 257, cells_m (w := vN σ 3 k) hs hk6 (hRM τ2 hF2) (LM_of hB hq hF2 (Fm.refl τ2)) (hGM τ2 hF2) (by omega) (by rw [e τ2 hF2 62 (by decide) (by decide), hq.1.2.1, k3]) k4 (fun τ3 hd => ⟨hvk, ?_⟩) 256 0 τ2 (by decide) (Fdn.refl _ _ _)⟩
      rw [bd_eq, if_pos rfl]
      exact hQ _ _ (th_e hI hF2 hK2 (by omega) (Fdn.back hd (by decide)).m)
    · rw [if_neg (by rw [c0]; decide), if_neg (by rw [c0]; decide), bd_eq, if_pos c0]
      show w_X5_cellsThatFit s (nI k) 1 σ _
      unfold w_X5_cellsThatFit
      rw [cl_nI (by omega), k5]
      refine ⟨hvk, hvk, start_x hk6 h3 hX k8' k9 hB.2.2.2.2.1 hB.2.2.2.2.2 hK (by omega) (fun τ1 hst hC hK1 => ?_)⟩
      refine last_x (RX_f hR (hst.x hk6)) ?_
      rw [bd_eq]
      have fin : ∀ τ2, Fx σ τ2 → IKb (16 * N + 1) τ2 → w_X12_dined (nI s) (nI k) c τ2 (fun r' σ2 => Q (ff (fun c => ftB (wt f n nP (vN σ 1 8) (vN σ 6) (tr (lP g σ k (vN σ 4 k)) (vN σ 4 k) (8 * c + vN σ 3 k)))) 256 0) r' σ2) := by
        intro τ2 hF2 hK2
        refine mrun τ2 _ _ hF2 hK2 (by omega) ?_
        rw [if_neg (by rw [c0]; decide), if_neg (by rw [c0]; decide), if_pos c0]
        unfold w_X12_dinedFrom
        rw [bd_eq, bd_eq, cl_nI (by omega)]
        refine ⟨hvk, 257, cells_m (w := vN σ 3 k) hs hk6 (hRM τ2 hF2) (LM_of hB hq hF2 (Fm.refl τ2)) (hGM τ2 hF2) (by omega) (by rw [e τ2 hF2 62 (by decide) (by decide), hq.1.2.1, k3]) k4 (fun τ3 hd => ⟨hvk, ?_⟩) 256 0 τ2 (by decide) (Fdn.refl _ _ _)⟩
        rw [bd_eq, if_neg one_ne, fN1_all]
        exact hQ _ _ (th_e hI hF2 hK2 (by omega) (Fdn.back hd (by decide)).m)
      refine ⟨257, cellsN_x (l := lP g σ k (vN σ 4 k)) hB hR hk (by omega) (M := 16 * N + 1) (by omega) 256 0 τ1 (by decide) (hst.x hk6) hC hK1 (fun τ2 hF2 hK2 => ⟨fun z => absurd z one_ne, fun _ => ⟨fun z v => ?_, fun z => ?_⟩⟩)⟩
      · rw [if_neg one_ne]
        have := fin τ2 hF2 hK2
        rw [z] at this
        exact this
      · exact fin τ2 hF2 hK2
    · rw [if_neg (by rw [c0]; decide), if_pos c0]
      unfold w_X5_pacesThatFit
      refine last_x hR ⟨5, paces_x hB h3 hX hR hk (M := 16 * N) (by omega) (fun τ2 hF2 hK2 => ?_) 4 1 σ (by decide) (by decide) (Fx.refl σ) hK⟩
      refine mrun τ2 _ _ hF2 hK2 (by omega) ?_
      rw [if_neg (by rw [c0]; decide), if_neg (by rw [c0]; decide), if_neg (by rw [c0]; decide)]
      unfold w_X12_dinedPaces
      rw [bd_eq, bd_eq, cl_nI (by omega)]
      refine ⟨hvk, 5, paces_m hs hB hq h3 hM hF2 hk (hRM τ2 hF2) (fun τ3 hd => ⟨hvk, ?_⟩) 4 1 τ2 (by decide) (by decide) (Fdn.refl _ _ _)⟩
      rw [bd_eq]
      exact hQ _ _ (th_e hI hF2 hK2 (by omega) (Fdn.back hd (by decide)).m)
