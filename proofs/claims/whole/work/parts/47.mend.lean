/-! mend -/
def mX (f : Nat → Int32) (u : Nat) : Nat → Int32 := if u < 40 then f else va_cpy f f 4 0 156
def mM (f : Nat → Int32) (u : Nat) : Nat → Int32 := if u < 40 then f else shF f 1
theorem note_1 {u : Nat} {a b c d : Int32} {σ : Sg} {Q : Sg → Prop} (hu : u < 40) (h36 : σ.1 36 2 = nI u)
    (hQ : ∀ σ', (∀ c, c ≠ 36 → c ≠ 37 → σ'.1 c = σ.1 c) → σ'.2 = σ.2 → σ'.1 36 2 = nI (u + 1) → σ'.1 36 3 = nI (u + 1) → (∀ i, σ'.1 37 i = if i = 4 * u + 3 then d else if i = 4 * u + 2 then c else if i = 4 * u + 1 then b else if i = 4 * u then a else σ.1 37 i) → Q σ') :
    (fun (σ1 : Sg) => bd ((4 : Int32) * (σ1.1 36 2)) fun x2 => vp_in x2 160 ∧ bd (sI σ1 37 (Int32.toNatClampNeg x2) a) fun σ3 => vp_in (x2 + (1 : Int32)) 160 ∧ bd (sI σ3 37 (Int32.toNatClampNeg (x2 + (1 : Int32))) b) fun σ4 => vp_in (x2 + (2 : Int32)) 160 ∧ bd (sI σ4 37 (Int32.toNatClampNeg (x2 + (2 : Int32))) c) fun σ5 => vp_in (x2 + (3 : Int32)) 160 ∧ bd (sI σ5 37 (Int32.toNatClampNeg (x2 + (3 : Int32))) d) fun σ6 => bd (sI σ6 36 2 ((σ6.1 36 2) + (1 : Int32))) fun σ7 => bd (sI σ7 36 3 (σ7.1 36 2)) fun σ8 => Q σ8) σ := by
  dsimp only
  rw [h36, four_nI (by omega)]
  simp only [bd_eq, nI_lit (k := 1) (m := 1) (by decide), nI_lit (k := 2) (m := 2) (by decide), nI_lit (k := 3) (m := 3) (by decide), cl_nI (show 4 * u < 1000000 by omega), cl_nI (show 4 * u + 1 < 1000000 by omega), cl_nI (show 4 * u + 2 < 1000000 by omega), cl_nI (show 4 * u + 3 < 1000000 by omega), vp_nI (show 4 * u < 160 by omega) (by decide), vp_nI (show 4 * u + 1 < 160 by omega) (by decide), vp_nI (show 4 * u + 2 < 160 by omega) (by decide), vp_nI (show 4 * u + 3 < 160 by omega) (by decide), true_and]
  refine hQ _ (fun x h h' => by rw [rd_ne h, rd_ne h, rd_ne h', rd_ne h', rd_ne h', rd_ne h']) rfl ?_ ?_ (fun i => ?_)
  · rw [rd_in, if_neg (by decide), rd_in, if_pos rfl, rd_ne (by decide), rd_ne (by decide), rd_ne (by decide), rd_ne (by decide), h36, nI_1]
  · rw [rd_in, if_pos rfl, rd_in, if_pos rfl, rd_ne (by decide), rd_ne (by decide), rd_ne (by decide), rd_ne (by decide), h36, nI_1]
  · rw [rd_ne (by decide), rd_ne (by decide), rd_in, rd_in, rd_in, rd_in]
theorem note_x {u : Nat} {a b c d : Int32} {σ : Sg} {Q : Sg → Prop} (hu : u ≤ 40) (h36 : σ.1 36 2 = nI u)
    (hQ : ∀ σ', (∀ c, c ≠ 36 → c ≠ 37 → σ'.1 c = σ.1 c) → σ'.2 = σ.2 → σ'.1 36 2 = nI (min u 39 + 1) → σ'.1 36 3 = nI (min u 39 + 1) → (∀ i, σ'.1 37 i = if i = 4 * min u 39 + 3 then d else if i = 4 * min u 39 + 2 then c else if i = 4 * min u 39 + 1 then b else if i = 4 * min u 39 then a else mX (σ.1 37) u i) → Q σ') : w_X2_note a b c d σ Q := by
  unfold w_X2_note
  rw [bd_eq, h36]
  by_cases g : u < 40
  · rw [if_pos (show nI u < 40 from nI_lt (b := 40) g (by decide))]
    rw [Nat.min_eq_left (by omega)] at hQ
    unfold mX at hQ
    simp only [if_pos g] at hQ
    exact note_1 g h36 hQ
  · have : u = 40 := by omega
    subst this
    rw [if_neg (by decide), bd_eq, bd_eq]
    refine ⟨⟨by decide, by decide, by decide, by decide, by decide⟩, ?_⟩
    refine note_1 (u := 39) (by decide) (by rw [rd_in, if_pos rfl]; rfl) (fun σ' e1 e2 e3 e4 e5 => hQ σ' (fun x h h' => by rw [e1 x h h', rd_ne h, rdr_ne h']) (by rw [e2, rd_2, rdr_2]) e3 e4 (fun i => ?_))
    rw [e5 i, rd_ne (by decide), rdr_eq]
    unfold mX
    rw [if_neg (show ¬ 40 < 40 by decide)]
    rfl
theorem push_1 {u : Nat} {w a o v : Int32} {σ : Sg} {K : Sg → Prop} (hu : u < 40) (h10 : σ.1 60 10 = nI u)
    (hK : ∀ σ', (∀ c, c ≠ 60 → (c < 68 ∨ 71 < c) → σ'.1 c = σ.1 c) → (∀ i, i ≠ 10 → σ'.1 60 i = σ.1 60 i) → σ'.2 = σ.2 → σ'.1 60 10 = nI (u + 1) → (∀ i, σ'.1 68 i = if i = u then w else σ.1 68 i) → (∀ i, σ'.1 69 i = if i = u then a else σ.1 69 i) → (∀ i, σ'.1 70 i = if i = u then o else σ.1 70 i) → (∀ i, σ'.1 71 i = if i = u then v else σ.1 71 i) → K σ') :
    (fun (σ4 : Sg) => vp_in (σ4.1 60 10) 40 ∧ bd (sI σ4 68 (Int32.toNatClampNeg (σ4.1 60 10)) w) fun σ5 => vp_in (σ5.1 60 10) 40 ∧ bd (sI σ5 69 (Int32.toNatClampNeg (σ5.1 60 10)) a) fun σ6 => vp_in (σ6.1 60 10) 40 ∧ bd (sI σ6 70 (Int32.toNatClampNeg (σ6.1 60 10)) o) fun σ7 => vp_in (σ7.1 60 10) 40 ∧ bd (sI σ7 71 (Int32.toNatClampNeg (σ7.1 60 10)) v) fun σ8 => bd (sI σ8 60 10 ((σ8.1 60 10) + (1 : Int32))) fun σ9 => K σ9) σ := by
  dsimp only
  have hv : vp_in (nI u) 40 := vp_nI hu (by decide)
  simp only [bd_eq, h10, rd_ne, rd_fn, rd_2, rdr_eq, rdr_ne, rdr_2, rj_1, rj_ne, rj_fn, rjr_1, rjr_eq, rjr_ne, ne_eq, not_false_eq_true, reduceCtorEq, Nat.reduceEqDiff, if_true, if_false, ite_true, ite_false, cl_nI (show u < 1000000 by omega), hv, true_and, nI_1]
  refine hK _ (fun c h h' => ?_) (fun i hi => ?_) rfl ?_ (fun i => ?_) (fun i => ?_) (fun i => ?_) (fun i => ?_)
  · rw [rd_ne h, rd_ne (by omega), rd_ne (by omega), rd_ne (by omega), rd_ne (by omega)]
  · rw [rd_in, if_neg hi, rd_ne (by decide), rd_ne (by decide), rd_ne (by decide), rd_ne (by decide)]
  · rw [rd_in, if_pos rfl]
  · rw [rd_ne (by decide), rd_ne (by decide), rd_ne (by decide), rd_ne (by decide), rd_in]
  · rw [rd_ne (by decide), rd_ne (by decide), rd_ne (by decide), rd_in, rd_ne (by decide)]
  · rw [rd_ne (by decide), rd_ne (by decide), rd_in, rd_ne (by decide), rd_ne (by decide)]
  · rw [rd_ne (by decide), rd_in, rd_ne (by decide), rd_ne (by decide), rd_ne (by decide)]
theorem push_m {u : Nat} {w a o v : Int32} {σ : Sg} {K : Sg → Prop} (hu : u ≤ 40) (h10 : σ.1 60 10 = nI u)
    (hK : ∀ σ', (∀ c, c ≠ 60 → (c < 68 ∨ 71 < c) → σ'.1 c = σ.1 c) → (∀ i, i ≠ 10 → σ'.1 60 i = σ.1 60 i) → σ'.2 = σ.2 → σ'.1 60 10 = nI (min u 39 + 1) → (∀ i, σ'.1 68 i = if i = min u 39 then w else mM (σ.1 68) u i) → (∀ i, σ'.1 69 i = if i = min u 39 then a else mM (σ.1 69) u i) → (∀ i, σ'.1 70 i = if i = min u 39 then o else mM (σ.1 70) u i) → (∀ i, σ'.1 71 i = if i = min u 39 then v else mM (σ.1 71) u i) → K σ') :
    bd (fun (σ4 : Sg) => vp_in (σ4.1 60 10) 40 ∧ bd (sI σ4 68 (Int32.toNatClampNeg (σ4.1 60 10)) w) fun σ5 => vp_in (σ5.1 60 10) 40 ∧ bd (sI σ5 69 (Int32.toNatClampNeg (σ5.1 60 10)) a) fun σ6 => vp_in (σ6.1 60 10) 40 ∧ bd (sI σ6 70 (Int32.toNatClampNeg (σ6.1 60 10)) o) fun σ7 => vp_in (σ7.1 60 10) 40 ∧ bd (sI σ7 71 (Int32.toNatClampNeg (σ7.1 60 10)) v) fun σ8 => bd (sI σ8 60 10 ((σ8.1 60 10) + (1 : Int32))) fun σ9 => K σ9) fun J121 => if (σ.1 60 10) = (40 : Int32) then (bd (fun (σ11 : Sg) => bd (sI σ11 60 10 ((σ11.1 60 10) - (1 : Int32))) fun σ12 => J121 σ12) fun J111 => ∃ n, w_X12_changes_l34 J111 n (1 : Int32) σ) else (J121 σ) := by
  rw [bd_eq, h10]
  by_cases g : u < 40
  · rw [if_neg (show ¬ nI u = 40 from fun q => by have := nI_inj (b := 40) (by omega) (by decide) q; omega)]
    rw [Nat.min_eq_left (by omega)] at hK
    unfold mM at hK
    simp only [if_pos g] at hK
    exact push_1 g h10 hK
  · have : u = 40 := by omega
    subst this
    rw [if_pos (by decide), bd_eq]
    refine ⟨40, shift_m 39 1 σ (by decide) (by decide) ?_⟩
    dsimp only
    rw [bd_eq]
    refine push_1 (u := 39) (by decide) (by rw [rd_in, if_pos rfl]; simp only [rd_ne, rd_fn, rd_2, rdr_eq, rdr_ne, rdr_2, rj_1, rj_ne, rj_fn, rjr_1, rjr_eq, rjr_ne, ne_eq, not_false_eq_true, reduceCtorEq, Nat.reduceEqDiff, if_true, if_false, ite_true, ite_false]; rw [h10]; decide) (fun σ' e1 e2 e3 e4 e5 e6 e7 e8 => hK σ' (fun c h h' => ?_) (fun i hi => ?_) ?_ e4 (fun i => ?_) (fun i => ?_) (fun i => ?_) (fun i => ?_))
    · rw [e1 c h h', rd_ne h, rdr_ne (by omega), rdr_ne (by omega), rdr_ne (by omega), rdr_ne (by omega)]
    · rw [e2 i hi, rd_in, if_neg hi, rdr_ne (by decide), rdr_ne (by decide), rdr_ne (by decide), rdr_ne (by decide)]
    · rw [e3]; rfl
    · rw [e5 i, rd_ne (by decide), rdr_ne (by decide), rdr_ne (by decide), rdr_ne (by decide), rdr_eq]; rfl
    · rw [e6 i, rd_ne (by decide), rdr_ne (by decide), rdr_ne (by decide), rdr_eq]; rfl
    · rw [e7 i, rd_ne (by decide), rdr_ne (by decide), rdr_eq]; rfl
    · rw [e8 i, rd_ne (by decide), rdr_eq]; rfl
theorem okV_rv {σ : Sg} {nC nP w a : Nat} (hA : IA σ) (c1 : σ.1 1 4 = nI nC) (c2 : σ.1 1 7 = nI nP) (hC : nC ≤ 6) (hP : nP ≤ 8) (hw : okW nC nP w a) : okV w (rvX σ w a) := by
  obtain ⟨-, -, ⟨mC, mP, ⟨hn, en⟩, ⟨hp, ep⟩, hr, hq⟩, r1, r2, r3⟩ := hA
  have x1 : mC = nC := nI_inj (by omega) (by omega) (en.symm.trans c1)
  have x2 : mP = nP := nI_inj (by omega) (by omega) (ep.symm.trans c2)
  subst x1; subst x2
  have h9 := cas9 (w9 hw)
  rcases h9 with rfl | rfl | rfl | rfl | rfl | rfl | rfl | rfl | rfl
  · exact (hr a (by rcases hw with h | h | h <;> omega)).1
  · exact (hr a (by rcases hw with h | h | h <;> omega)).2.1
  · exact (hr a (by rcases hw with h | h | h <;> omega)).2.2.1
  · exact (hr a (by rcases hw with h | h | h <;> omega)).2.2.2
  · exact (hq a (by rcases hw with h | h | h <;> omega)).1
  · exact (hq a (by rcases hw with h | h | h <;> omega)).2
  · exact r1
  · exact r2
  · exact r3
theorem okCh_put {nC nP w a : Nat} {v : Int32} (hC : nC ≤ 6) (hP : nP ≤ 8) (hw : okW nC nP w a) (hv : okV w v) : okCh nC nP (nI a) (nI w) v := by
  have h9 := cas9 (w9 hw)
  have ta : (nI a).toInt = a := nI_toInt (by rcases hw with h | h | h <;> omega)
  refine ⟨?_, ?_⟩
  · rw [ta]
    unfold inR
    rw [nI_toInt (show w < 2 ^ 31 by rcases hw with h | h | h <;> omega)]
    rcases hw with h | h | h
    · exact Or.inl (by omega)
    · exact Or.inr (Or.inl (by omega))
    · exact Or.inr (Or.inr ⟨by omega, by rw [h.2.2]; rfl⟩)
  · rcases h9 with rfl | rfl | rfl | rfl | rfl | rfl | rfl | rfl | rfl
    · exact Or.inl ⟨rfl, hv⟩
    · exact Or.inr (Or.inl ⟨rfl, hv⟩)
    · exact Or.inr (Or.inr (Or.inl ⟨rfl, hv⟩))
    · exact Or.inr (Or.inr (Or.inr (Or.inl ⟨rfl, hv⟩)))
    · exact Or.inr (Or.inr (Or.inr (Or.inr (Or.inl ⟨rfl, hv⟩))))
    · exact Or.inr (Or.inr (Or.inr (Or.inr (Or.inr (Or.inl ⟨rfl, hv⟩)))))
    · exact Or.inr (Or.inr (Or.inr (Or.inr (Or.inr (Or.inr (Or.inl ⟨rfl, hv⟩))))))
    · exact Or.inr (Or.inr (Or.inr (Or.inr (Or.inr (Or.inr (Or.inr (Or.inl ⟨rfl, hv⟩)))))))
    · exact Or.inr (Or.inr (Or.inr (Or.inr (Or.inr (Or.inr (Or.inr (Or.inr ⟨rfl, hv⟩)))))))
theorem mend_b {nC nP : Nat} {a b c : Int32} {σ : Sg} {Q : Int32 → Sg → Prop} (hC : nC ≤ 6) (hP : nP ≤ 8) (c1 : σ.1 60 1 = nI nC) (c2 : σ.1 60 6 = nI nP) (h : ¬ (OW nC nP a b ∧ ∀ w, b = nI w → w ≤ 8 → okV w c)) (hQ : Q (-2000000000) σ) : w_X12_mend a b c σ Q := by
  unfold w_X12_mend
  refine one_m hC hP c1 c2 (fun h1 => ?_) (fun _ => by rw [if_pos rfl]; exact hQ)
  rw [if_neg one_ne]
  obtain ⟨w, k, rfl, rfl, hw⟩ := id h1
  refine have_m (w9 hw) (fun h2 => ?_) (fun _ => by rw [if_pos rfl]; exact hQ)
  exact absurd ⟨h1, fun w' e h' => by rw [← nI_inj (by have := w9 hw; omega) (by omega) e]; exact h2⟩ h
theorem op_mend {N : Nat} {σ : Sg} (hI : Inv N σ) (a b c : Int32) {Q : Int32 → Int32 → Sg → Prop} (hQ : ∀ r σ', Inv (N + 1) σ' → Q r r σ') : w_X11_mend a b c σ (fun r σ1 => w_X12_mend a b c σ1 (fun r' σ2 => Q r r' σ2)) := by
  obtain ⟨hA, hT, hC, hI2, hB, hS, hK, hL⟩ := id hI
  obtain ⟨⟨a1, a2, a3, a4, a5, a6⟩, ⟨e1, e2, e3, e4, e5⟩, ⟨nC, nP, ⟨hn, en⟩, ⟨hp, ep⟩, hr, hq⟩, r1, r2, r3⟩ := id hA
  obtain ⟨mC, mP, u, k, c1, c1', c2, c2', huk, hk, u1, u2, u3, u4, hch⟩ := id hC
  have x1 : mC = nC := nI_inj (by omega) (by omega) (c1.symm.trans en)
  have x2 : mP = nP := nI_inj (by omega) (by omega) (c2.symm.trans ep)
  subst x1; subst x2
  unfold w_X11_mend
  refine has_x hn hp en ep (fun hy => ?_) (fun hy => by rw [if_pos rfl]; exact mend_b hn hp (e1.trans en) (e2.trans ep) (fun q => hy q.1) (hQ _ _ (Inv_up hI)))
  rw [if_neg one_ne]
  obtain ⟨w, n, rfl, rfl, hok⟩ := id hy
  refine may_x (w9 hok) (fun hv => ?_) (fun hv => by rw [if_pos rfl]; exact mend_b hn hp (e1.trans en) (e2.trans ep) (fun q => hv (q.2 w rfl (w9 hok))) (hQ _ _ (Inv_up hI)))
  rw [if_neg one_ne]
  refine read_x hok hn hp ?_
  have mopen : ∀ (τ : Sg) (P : Int32 → Sg → Prop), τ.1 60 = σ.1 60 → w_X12_changes (nI w) (nI n) c τ (fun r6 σ5 => P r6 σ5) → w_X12_mend (nI n) (nI w) c τ P := by
    intro τ P h60 h
    unfold w_X12_mend
    refine one_m hn hp (by rw [h60, e1, en]) (by rw [h60, e2, ep]) (fun _ => ?_) (fun q => absurd hy q)
    rw [if_neg one_ne]
    refine have_m (w9 hok) (fun _ => ?_) (fun q => absurd hv q)
    rw [if_neg one_ne]
    exact h
  by_cases hs : rvX σ w n = c
  · rw [if_pos hs]
    refine mopen σ _ rfl ?_
    unfold w_X12_changes
    refine value_m hok hn hp hA (fun _ _ _ => rfl) ?_
    rw [if_pos hs]
    exact hQ _ _ (Inv_up hI)
  · rw [if_neg hs]
    refine note_x (by omega) u1 (fun σ1 f1 f2 f3 f4 f5 => write_x hok hn hp ?_)
    have q1 : ∀ c', c' ≠ 36 → c' ≠ 37 → (c' = 0 ∨ 7 < c') → (wrX σ1 w n c).1 c' = σ.1 c' := fun c' h h' h'' => by rw [wrX_ne h'', f1 c' h h']
    refine mopen _ _ (q1 60 (by decide) (by decide) (by decide)) ?_
    unfold w_X12_changes
    refine value_m hok hn hp hA (fun c' h h' => q1 c' (by omega) (by omega) (by omega)) ?_
    rw [if_neg hs, bd_eq]
    refine push_m (u := u) (by omega) (by rw [rd_in, if_neg (by decide), q1 60 (by decide) (by decide) (by decide), u3]) (fun σ2 p1 p2 p3 p4 p5 p6 p7 p8' => lays_m hok hn hp ?_)
    apply hQ
    have r0 : ∀ c', c' ≠ 60 → (c' < 61 ∨ 71 < c') → (wrM σ2 w n c).1 c' = (wrX σ1 w n c).1 c' := fun c' h h' => by rw [wrM_ne (by omega), p1 c' h (by omega), rd_ne h]
    have hm : min u 39 ≤ 39 := Nat.min_le_right _ _
    refine Inv_wr hI (w := w) (a := n) (v := c) en ep hn hp hok hv (fun c' h1 h7 => ?_) (fun c' h1 h7 => ?_) (fun i h1 h2 => ?_) (fun c' h1 h2 h3 h4 => ?_) ?_ ?_
    · rw [r0 c' (by omega) (by omega)]
      exact wrX_congr (f1 c' (by omega) (by omega))
    · apply wrM_congr
      rw [p1 c' (by omega) (by omega), rd_ne (by omega), q1 c' (by omega) (by omega) (by omega)]
    · rw [wrM_ne (by omega), p2 i h1, rd_in, if_neg h2, q1 60 (by decide) (by decide) (by decide)]
    · by_cases e60 : c' = 60
      · omega
      · rw [r0 c' e60 (by omega), q1 c' h2 h3 h1]
    · rw [wrM_2, p3, rd_2, wrX_2, f2]
    · have s1 : (wrM σ2 w n c).1 1 4 = nI mC := by rw [r0 1 (by decide) (by decide), wrX_1 (by decide), f1 1 (by decide) (by decide), en]
      have s2 : (wrM σ2 w n c).1 1 7 = nI mP := by rw [r0 1 (by decide) (by decide), wrX_1 (by decide), f1 1 (by decide) (by decide), ep]
      refine ⟨mC, mP, min u 39 + 1, min u 39 + 1, s1, hn, s2, hp, Nat.le_refl _, by omega, by rw [r0 36 (by decide) (by decide), wrX_ne (by decide), f3], by rw [r0 36 (by decide) (by decide), wrX_ne (by decide), f4], by rw [wrM_ne (by decide), p4], by rw [wrM_ne (by decide), p2 11 (by decide), rd_in, if_pos rfl, Nat.sub_self]; rfl, fun i hi => ?_⟩
      rw [wrM_ne (show 69 < 61 ∨ 67 < 69 by decide), wrM_ne (show 68 < 61 ∨ 67 < 68 by decide), wrM_ne (show 70 < 61 ∨ 67 < 70 by decide), wrM_ne (show 71 < 61 ∨ 67 < 71 by decide), p5, p6, p7, p8', r0 37 (by decide) (by decide), wrX_ne (show 37 = 0 ∨ 7 < 37 by decide), f5, f5, f5, f5]
      rw [rd_ne (show 68 ≠ 60 by decide), rd_ne (show 69 ≠ 60 by decide), rd_ne (show 70 ≠ 60 by decide), rd_ne (show 71 ≠ 60 by decide), q1 68 (by decide) (by decide) (by decide), q1 69 (by decide) (by decide) (by decide), q1 70 (by decide) (by decide) (by decide), q1 71 (by decide) (by decide) (by decide)]
      by_cases ei : i = min u 39
      · rw [if_pos ei, if_pos ei, if_pos ei, if_pos ei, if_neg (by omega), if_neg (by omega), if_neg (by omega), if_pos (by omega), if_neg (by omega), if_neg (by omega), if_pos (by omega), if_neg (by omega), if_pos (by omega), if_pos (by omega)]
        exact ⟨rfl, rfl, rfl, rfl, okCh_put hn hp hok (okV_rv hA en ep hn hp hok), okCh_put hn hp hok hv⟩
      · rw [if_neg ei, if_neg ei, if_neg ei, if_neg ei, if_neg (by omega), if_neg (by omega), if_neg (by omega), if_neg (by omega), if_neg (by omega), if_neg (by omega), if_neg (by omega), if_neg (by omega), if_neg (by omega), if_neg (by omega), if_neg (by omega), if_neg (by omega), if_neg (by omega), if_neg (by omega), if_neg (by omega), if_neg (by omega)]
        unfold mM mX
        by_cases g : u < 40
        · simp only [if_pos g]
          exact hch i (by omega)
        · simp only [if_neg g]
          have h40 : u = 40 := by omega
          have hcc := hch (i + 1) (by omega)
          have z1 : ∀ f : Nat → Int32, shF f 1 i = f (i + 1) := fun f => by unfold shF; rw [if_pos (by omega)]
          have z2 : ∀ j, j < 4 → va_cpy (σ.1 37) (σ.1 37) 4 0 156 (4 * i + j) = σ.1 37 (4 * (i + 1) + j) := fun j hj => by unfold va_cpy; rw [if_pos (by omega), show 4 + (4 * i + j - 0) = 4 * (i + 1) + j by omega]
          have z20 := z2 0 (by decide)
          rw [Nat.add_zero, Nat.add_zero] at z20
          rw [z1, z1, z1, z1, z20, z2 1 (by decide), z2 2 (by decide), z2 3 (by decide)]
          exact hcc
