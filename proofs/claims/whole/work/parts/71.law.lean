/-! the call -/
theorem okL_pos {l : Option TreeZ × TreeZ} (h : okL l) : 0 < (cd l).length := by
  obtain ⟨t, a⟩ := l
  cases t with
  | none =>
    show 0 < (postZ a).length
    rw [sz_post]
    exact sz_pos h
  | some t =>
    show 0 < (postZ t ++ [ngI 63] ++ postZ a).length
    rw [List.length_append, List.length_append, List.length_cons]
    omega
theorem XL_law {σ : Sg} {ls : List (Option TreeZ × TreeZ)} {l : Option TreeZ × TreeZ} (hL : ∀ x, x ∈ l :: ls → okL x) (hm : (cdsZ (l :: ls)).length ≤ 120) (hs : sg1 (σ.1 9) 0 (cdsZ (l :: ls))) (h8 : σ.1 8 1 = nI (cdsZ (l :: ls)).length) : XL σ (fun w s h d k p => clz (evL (fcs w s h d k p) (l :: ls))) := by
  intro w s h d k p σ' Q e1 e2 hQ
  have h0 : 0 < (cdsZ (l :: ls)).length := by
    rw [cds_cons, List.length_append]
    have := okL_pos (hL l List.mem_cons_self)
    omega
  exact gives_x hL hm (by rw [e1]; exact hs) (e2.trans h8) h0 hQ
theorem Inv_law {N : Nat} {σ τ : Sg} (hI : Inv N σ) (hc : ∀ c, c ≠ 0 → c ≠ 8 → c ≠ 9 → c ≠ 11 → c ≠ 12 → c ≠ 13 → c ≠ 60 → c ≠ 73 → c ≠ 74 → c ≠ 75 → c ≠ 76 → c ≠ 77 → τ.1 c = σ.1 c) (h60 : ∀ k, k ≠ 17 → k ≠ 18 → k ≠ 19 → k ≠ 20 → k ≠ 21 → k ≠ 29 → τ.1 60 k = σ.1 60 k) (h2 : τ.2 = σ.2) (t1 : τ.1 0 4 = nI 0) (t2 : τ.1 60 17 = nI 0) (hL : IL τ) : Inv (N + 1) τ := by
  obtain ⟨hA, hT, hC, hI2, hB, hS, hK, -⟩ := id hI
  have o : ∀ c, (c ≠ 0 ∧ c ≠ 8 ∧ c ≠ 9 ∧ c ≠ 11 ∧ c ≠ 12 ∧ c ≠ 13 ∧ c ≠ 60 ∧ (c < 73 ∨ 77 < c)) → τ.1 c = σ.1 c := fun c h => hc c h.1 h.2.1 h.2.2.1 h.2.2.2.1 h.2.2.2.2.1 h.2.2.2.2.2.1 h.2.2.2.2.2.2.1 (by omega) (by omega) (by omega) (by omega) (by omega)
  have q : ∀ k, k ≠ 17 ∧ k ≠ 18 ∧ k ≠ 19 ∧ k ≠ 20 ∧ k ≠ 21 ∧ k ≠ 29 → τ.1 60 k = σ.1 60 k := fun k h => h60 k h.1 h.2.1 h.2.2.1 h.2.2.2.1 h.2.2.2.2.1 h.2.2.2.2.2
  exact ⟨IA_c hA (o 1 (by omega)) ⟨o 2 (by omega), o 3 (by omega), o 4 (by omega), o 5 (by omega), o 6 (by omega), o 7 (by omega)⟩ ⟨o 61 (by omega), o 62 (by omega), o 63 (by omega), o 64 (by omega), o 65 (by omega), o 66 (by omega)⟩ (q 1 (by omega)) (q 6 (by omega)) (o 67 (by omega)),
    ⟨0, Nat.zero_le _, t1, t2, fun j hj => absurd hj (Nat.not_lt_zero _)⟩,
    IC_c hC (by rw [o 1 (by omega)]) (by rw [o 1 (by omega)]) (o 36 (by omega)) (o 37 (by omega)) (q 10 (by omega)) (q 11 (by omega)) (o 68 (by omega)) (o 69 (by omega)) (o 70 (by omega)) (o 71 (by omega)),
    II_c hI2 (o 84 (by omega)) (o 39 (by omega)) (o 38 (by omega)) (q 40 (by omega)) (q 41 (by omega)) (q 42 (by omega)) (by rw [o 1 (by omega)]) ⟨o 40 (by omega), o 41 (by omega), o 42 (by omega), o 43 (by omega)⟩ ⟨o 85 (by omega), o 86 (by omega), o 87 (by omega), o 88 (by omega)⟩,
    IB_c hB (o 89 (by omega)) (o 90 (by omega)) (o 58 (by omega)) (o 59 (by omega)) (by rw [o 57 (by omega)]) (by rw [o 57 (by omega)]) (q 47 (by omega)) (q 49 (by omega)),
    IS_c hS (by rw [o 57 (by omega)]) (o 91 (by omega)) (o 92 (by omega)) (fun s hs => o _ (by omega)) h2,
    IK_c hK (fun k hk => ⟨o _ (by omega), o _ (by omega)⟩), hL⟩
/-- the tape's letters -/
def ltr (σ : Sg) (n : Nat) (j : Nat) : Nat := if j < n then (σ.1 14 j).toNatClampNeg else 0
theorem become_x {σ : Sg} {L : List Int32} {K : Sg → Prop} (h1 : σ.1 11 1 = nI L.length) (h2 : sg1 (σ.1 12) 0 L) (hl : L.length ≤ 120) (hK : ∀ τ, (∀ c, c ≠ 8 → c ≠ 9 → τ.1 c = σ.1 c) → τ.2 = σ.2 → τ.1 8 1 = nI L.length → sg1 (τ.1 9) 0 L → K τ) : w_X8_become σ K := by
  unfold w_X8_become
  rw [h1]
  simp only [bd_eq]
  rw [show Int32.toNatClampNeg (0 : Int32) = 0 from rfl, cl_nI (by omega)]
  refine ⟨⟨by decide, by decide, nI_pos (by omega), by rw [cl_nI (by omega)]; show 0 + L.length ≤ 120; omega, by rw [cl_nI (by omega)]; show 0 + L.length ≤ 120; omega⟩, hK _ (fun c a b => ?_) ?_ ?_ ?_⟩
  · rw [rd_ne a, rdr_ne b]
  · rfl
  · rw [rd_in, if_pos rfl, rdr_ne (by decide)]
    exact h1
  · rw [rd_ne (by decide), rdr_eq]
    refine sg_c L 0 (fun j _ hj => ?_) h2
    unfold va_cpy
    rw [if_pos (by omega), Nat.zero_add, Nat.sub_zero]
theorem op_law {N : Nat} {σ : Sg} (hI : Inv N σ) {Q : Int32 → Int32 → Sg → Prop} (hQ : ∀ r σ', Inv (N + 1) σ' → Q r r σ') : w_X11_law σ (fun r σ1 => w_X12_law σ1 (fun r' σ2 => Q r r' σ2)) := by
  obtain ⟨hA, hT, hC, hI2, hB, hS, hK, hL⟩ := id hI
  obtain ⟨n, hn, t1, t2, t3⟩ := id hT
  have hlet : ∀ j, j < n → ltr σ n j < 256 ∧ σ.1 14 j = nI (ltr σ n j) := by
    intro j hj
    obtain ⟨m, hm, e⟩ := inR_num (b := 255) (t3 j hj).1 (by decide)
    have e2 : ltr σ n j = m := by
      unfold ltr
      rw [if_pos hj, e, cl_nI (by omega)]
    rw [e2]
    exact ⟨by omega, e⟩
  have ht : txtZ n (ltr σ n) := ⟨hn, fun i hi => by unfold ltr; rw [if_neg (by omega)]⟩
  have hc : ∀ j, ltr σ n j < 256 := by
    intro j
    by_cases g : j < n
    · exact (hlet j g).1
    · rw [ht.2 j (by omega)]
      decide
  have htape : ∀ j, j < n → σ.1 14 j = nI (ltr σ n j) := fun j hj => (hlet j hj).2
  have hTp : ∀ σ1 : Sg, σ1.1 60 = σ.1 60 → σ1.1 72 = σ.1 72 → Tp σ1 n (ltr σ n) := fun σ1 e1 e2 => ⟨ht, hc, by rw [e1]; exact t2, fun j hj => by rw [e2, (t3 j hj).2, htape j hj]⟩
  have hok := tx_ok ht 121 0 (Nat.zero_le _)
  unfold w_X11_law
  rw [t1]
  cases eT : txP n (ltr σ n) 121 0 with
  | inl f =>
    have hf := hok.1 f eT
    have hR : RUN n (ltr σ n) 0 [] [] true false (.inl f) := tx_RUN ht 121 0 [] (.inl f) (by omega) (Nat.zero_le _) (fun x hx => by rw [eT] at hx; cases hx; rfl) (fun k ls h => by rw [eT] at h; cases h)
    refine fault_x ht hc htape hR (fun x hx τ' hF => ?_) (fun L hx => by cases hx)
    cases hx
    rw [bd_eq, if_neg (fun q => by have e := congrArg Int32.toInt q; rw [nI_toInt (by omega), show (-1 : Int32).toInt = -1 by decide] at e; omega)]
    unfold w_X12_law
    have g60 : (sI τ' 0 4 (0 : Int32)).1 60 = σ.1 60 := by rw [rd_ne (by decide)]; exact hF.1 60 (by decide) (by decide) (by decide)
    have gne : ∀ c, c ≠ 0 → c ≠ 11 → c ≠ 12 → c ≠ 13 → (sI τ' 0 4 (0 : Int32)).1 c = σ.1 c := fun c a0 a1 a2 a3 => by rw [rd_ne a0]; exact hF.1 c a1 a2 a3
    refine text_m (hTp _ g60 (gne 72 (by decide) (by decide) (by decide) (by decide))) (fun f' hf' _ τ hw hs h17 => ?_) (fun k ls h => by rw [eT] at h; cases h)
    rw [eT] at hf'
    cases hf'
    rw [if_neg (nI_pos (by omega))]
    refine hQ _ τ (Inv_law hI (fun c a0 a1 a2 a3 a4 a5 a6 a7 a8 a9 b1 b2 => (hw.1 c a6 a7 a8 a9 b1 b2).trans (gne c a0 a3 a4 a5)) (fun k a1 a2 a3 a4 a5 _ => (hw.2.1 k a1 a2 a3 a4 a5).trans (by rw [g60])) (hw.2.2.trans hF.2) ?_ h17 ?_)
    · rw [hw.1 0 (by decide) (by decide) (by decide) (by decide) (by decide) (by decide), rd_in, if_pos rfl]
      rfl
    · have e73 : sameLaw σ (sI τ' 0 4 (0 : Int32)) := sameLaw_of (gne 73 (by decide) (by decide) (by decide) (by decide)) (gne 74 (by decide) (by decide) (by decide) (by decide)) (gne 75 (by decide) (by decide) (by decide) (by decide)) (gne 76 (by decide) (by decide) (by decide) (by decide)) (gne 77 (by decide) (by decide) (by decide) (by decide)) (by rw [g60])
      exact IL_c hL ((hw.1 9 (by decide) (by decide) (by decide) (by decide) (by decide) (by decide)).trans (gne 9 (by decide) (by decide) (by decide) (by decide))) (by rw [hw.1 8 (by decide) (by decide) (by decide) (by decide) (by decide) (by decide), gne 8 (by decide) (by decide) (by decide) (by decide)]) (e73.trans hs)
  | inr kk =>
    obtain ⟨k, ls⟩ := kk
    obtain ⟨r1, r2, r3, r4, r5, r6⟩ := hok.2 k ls eT
    have hR : RUN n (ltr σ n) 0 [] [] true false (.inr (cdsZ ls)) := tx_RUN ht 121 0 [] (.inr (cdsZ ls)) (by omega) (Nat.zero_le _) (fun x hx => by rw [eT] at hx; cases hx) (fun k ls h => by rw [eT] at h; cases h; rfl)
    refine fault_x ht hc htape hR (fun x hx => by cases hx) (fun L hx τ' hF w1 w2 w3 => ?_)
    cases hx
    rw [bd_eq, if_pos rfl]
    have gne : ∀ c, c ≠ 0 → c ≠ 11 → c ≠ 12 → c ≠ 13 → (sI τ' 0 4 (0 : Int32)).1 c = σ.1 c := fun c a0 a1 a2 a3 => by rw [rd_ne a0]; exact hF.1 c a1 a2 a3
    refine become_x (L := cdsZ ls) (by rw [rd_ne (by decide)]; exact w1) (by rw [rd_ne (by decide)]; exact w2) w3 (fun τ2 v1 v2 v3 v4 => ?_)
    have gne2 : ∀ c, c ≠ 0 → c ≠ 8 → c ≠ 9 → c ≠ 11 → c ≠ 12 → c ≠ 13 → τ2.1 c = σ.1 c := fun c a0 a1 a2 a3 a4 a5 => (v1 c a1 a2).trans (gne c a0 a3 a4 a5)
    have g60 := gne2 60 (by decide) (by decide) (by decide) (by decide) (by decide) (by decide)
    unfold w_X12_law
    refine text_m (hTp _ g60 (gne2 72 (by decide) (by decide) (by decide) (by decide) (by decide) (by decide))) (fun f' hf' => by rw [eT] at hf'; cases hf') (fun k' ls' h τ hw hft h17 => ?_)
    rw [eT] at h
    cases h
    rw [if_pos (by decide), bd_eq]
    obtain ⟨l, ls, rfl⟩ := tx_ne _ _ _ _ eT
    have wne : ∀ c, c ≠ 60 → c ≠ 73 → c ≠ 74 → c ≠ 75 → c ≠ 76 → c ≠ 77 → (sI τ 60 29 (1 : Int32)).1 c = τ2.1 c := fun c a1 a2 a3 a4 a5 a6 => by rw [rd_ne a1]; exact hw.1 c a1 a2 a3 a4 a5 a6
    refine hQ _ _ (Inv_law hI (fun c a0 a1 a2 a3 a4 a5 a6 a7 a8 a9 b1 b2 => (wne c a6 a7 a8 a9 b1 b2).trans (gne2 c a0 a1 a2 a3 a4 a5)) (fun k a1 a2 a3 a4 a5 a6 => by rw [rd_in, if_neg a6, hw.2.1 k a1 a2 a3 a4 a5, g60]) (hw.2.2.trans (v2.trans hF.2)) ?_ ?_ ⟨fun w s h d k p => clz (evL (fcs w s h d k p) (l :: ls)), fun w s h d k p => clz_in _, ?_, ?_⟩)
    · rw [wne 0 (by decide) (by decide) (by decide) (by decide) (by decide) (by decide), v1 0 (by decide) (by decide), rd_in, if_pos rfl]
      rfl
    · rw [rd_in, if_neg (by decide)]
      exact h17
    · refine XL_law r4 w3 ?_ ?_
      · rw [wne 9 (by decide) (by decide) (by decide) (by decide) (by decide) (by decide)]
        exact v4
      · rw [wne 8 (by decide) (by decide) (by decide) (by decide) (by decide) (by decide)]
        exact v3
    · refine ML_law r4 (by omega) (by omega) ?_ (by rw [rd_in, if_pos rfl])
      obtain ⟨f1, f2, f3, f4, f5⟩ := hft
      exact ⟨by rw [rd_ne (by decide)]; exact f1, by rw [rd_ne (by decide)]; exact f2, by rw [rd_ne (by decide)]; exact f3, by rw [rd_ne (by decide)]; exact f4, by rw [rd_ne (by decide)]; exact f5⟩
