/-! the reference's rows of where they are -/
theorem GM_of {σ0 σ : Sg} {nC nP k : Nat} {g : Int32 → Int32 → Int32 → Int32 → Int32 → Int32 → Int32} (hB : Bs σ0 nC nP) (hq : Mq σ0) (h3 : G3 g) (hM : ML σ0 g) (hk : k < nC) (e : ∀ c, 61 ≤ c → c ≤ 77 → σ.1 c = σ0.1 c) (e29 : σ.1 60 29 = σ0.1 60 29) : GM σ k (vN σ0 4 k) (lP g σ0 k (vN σ0 4 k)) := by
  obtain ⟨⟨a1, a2, a3, a4, a5, a6⟩, ⟨e1, e2, e3, e4, e5⟩⟩ := hq
  obtain ⟨⟨c1, c2⟩, ⟨c3, c4⟩, ⟨c5, c6, c7⟩, ⟨c8, c9⟩⟩ := hB.2.1 k hk
  refine ⟨fun t w => lw_3 h3 t w, g, vN σ0 5 k, vN σ0 1 10, ML_c hM (sameLaw_of (e 73 (by decide) (by decide)) (e 74 (by decide) (by decide)) (e 75 (by decide) (by decide)) (e 76 (by decide) (by decide)) (e 77 (by decide) (by decide)) e29), ?_, ?_, c9, ?_, hB.2.2.2.2.2, ?_⟩
  · rw [e 63 (by decide) (by decide), a3, c5]
  · rw [e 64 (by decide) (by decide), a4, c8]
  · rw [e 67 (by decide) (by decide), e5, hB.2.2.2.2.1]
  · rw [e 67 (by decide) (by decide), e4]; rfl
/-- the reference's: all but the law's own is as it was -/
def Fr (σ σ' : Sg) : Prop := (∀ c, c ≠ 60 → c ≠ 78 → c ≠ 79 → c ≠ 80 → σ'.1 c = σ.1 c) ∧ (∀ i, i ≠ 30 → i ≠ 31 → i ≠ 32 → σ'.1 60 i = σ.1 60 i) ∧ σ'.2 = σ.2
theorem Fr.refl (σ : Sg) : Fr σ σ := ⟨fun _ _ _ _ _ => rfl, fun _ _ _ _ => rfl, rfl⟩
theorem Fr.trans {a b c : Sg} (h1 : Fr a b) (h2 : Fr b c) : Fr a c := ⟨fun x h h' h'' h3 => (h2.1 x h h' h'' h3).trans (h1.1 x h h' h'' h3), fun x h h' h'' => (h2.2.1 x h h' h'').trans (h1.2.1 x h h' h''), h2.2.2.trans h1.2.2⟩
theorem Fh.r {a b : Sg} (h : Fh a b) : Fr a b := ⟨fun c h1 h2 h3 _ => h.1 c h1 h2 h3, h.2.1, h.2.2⟩
theorem Fr.set {σ : Sg} {i : Nat} {v : Int32} : Fr σ (sI σ 80 i v) := ⟨fun c _ _ _ h => rd_ne h, fun i _ _ _ => by rw [rd_ne (by decide)], rfl⟩
theorem Fr.set6 {σ : Sg} {i : Nat} {v : Int32} (h : i = 30 ∨ i = 31 ∨ i = 32) : Fr σ (sI σ 60 i v) := ⟨fun c h _ _ _ => rd_ne h, fun j _ _ _ => by rw [rd_in, if_neg (by omega)], rfl⟩
theorem Fr.m {a b : Sg} (h : Fr a b) : Fm a b := ⟨fun c h1 h2 => h.1 c h1 (by omega) (by omega) (by omega), h.2.1, fun c _ => by rw [h.2.2]⟩
theorem GM_m {σ σ' : Sg} {k p : Nat} {l : Nat → Nat → Int32} (h : GM σ k p l) (f : Fm σ σ') : GM σ' k p l := GM_c h f.law (by rw [f.1 63 (by decide) (by decide)]) (by rw [f.1 64 (by decide) (by decide)]) (f.1 67 (by decide) (by decide))
theorem layNow_m {k c w : Nat} {σ : Sg} {Q : Sg → Prop} (hk : k < 6) (h1 : σ.1 61 k = nI c) (h2 : σ.1 62 k = nI w) (hw : w < 8) (hQ : ∀ σ', Fr σ σ' → Fs σ σ' → At σ' (8 * c + w) → Q σ') : w_X12_layNow (nI k) σ Q := by
  unfold w_X12_layNow
  simp only [bd_eq]
  rw [cl_nI (by omega), rd_ne (show 62 ≠ 60 by decide), h1, h2]
  refine ⟨vp_nI hk (by decide), vp_nI hk (by decide), hQ _ ((Fr.set6 (Or.inl rfl)).trans (Fr.set6 (Or.inr (Or.inl rfl)))) ((Fs.set (Or.inl rfl)).trans (Fs.set (Or.inr (Or.inl rfl)))) ⟨?_, ?_⟩⟩
  · rw [rd_in, if_neg (by decide), rd_in, if_pos rfl]; congr 1; omega
  · rw [rd_in, if_pos rfl]; congr 1; omega
theorem hour_q {k p s t : Nat} {l : Nat → Nat → Int32} {b : Int32} {σ : Sg} {Q : Sg → Prop} (hk : k < 6) (hG : GM σ k p l) (hs : s < 2048) (ht : t < 1000) (hp : p < 1000) (hb : t3 b) (hA : At σ s)
    (hQ : ∀ σ', Fh σ σ' → GM σ' k p l → At σ' (nx l p s t b) → Q σ') : w_X12_goHour (nI k) (nI t) b σ Q := hour_m (v := σ.1 60 32) hk hG hs ht hp hb hA rfl (fun σ' a b c _ => hQ σ' a b c)
theorem lay_l {k p s0 : Nat} {l : Nat → Nat → Int32} {J : Sg → Prop} (hk : k < 6) (hs : s0 < 2048) (hp : p < 1000) : ∀ (d i : Nat) (σ : Sg), i + d = 61 → GM σ k p l → At σ (tr l p s0 i) →
    (∀ σ', Fr σ σ' → (∀ t, i ≤ t → t < 61 → σ'.1 80 (61 * k + t) = nI (tr l p s0 t / 8)) → (∀ j, j < 61 * k + i ∨ 61 * k + 61 ≤ j → σ'.1 80 j = σ.1 80 j) → J σ') → w_X12_layAll_l17 (nI k) J (d + 1) (nI i) σ
  | 0, i, σ, h, hG, hA, hJ => by
    have : i = 61 := by omega
    subst this
    unfold w_X12_layAll_l17
    rw [if_pos (by decide)]
    exact hJ σ (Fr.refl _) (fun t h1 h2 => by omega) (fun _ _ => rfl)
  | d + 1, i, σ, h, hG, hA, hJ => by
    unfold w_X12_layAll_l17
    have ei : ((61 : Int32) * nI k) + nI i = nI (61 * k + i) := by rw [show (61 : Int32) = nI 61 from rfl, pk_mul, nI_add]
    rw [if_neg (show ¬ (60 : Int32) < nI i from nI_nlt (a := 60) (b := i) (by omega) (by decide)), ei, cl_nI (by omega), hA.1, bd_eq, nI_1]
    refine ⟨vp_nI (by omega) (by decide), hour_q hk (GM_m hG Fr.set.m) (tr_lt hs i) (by omega) hp (Or.inr (Or.inl rfl)) ⟨by rw [rd_ne (by decide)]; exact hA.1, by rw [rd_ne (by decide)]; exact hA.2⟩ (fun σ1 hf hG1 hA1 => ?_)⟩
    refine lay_l hk hs hp d (i + 1) σ1 (by omega) hG1 hA1 (fun σ' hr ht ho => hJ σ' (Fr.set.trans (hf.r.trans hr)) (fun t h1 h2 => ?_) (fun j hj => ?_))
    · by_cases e : t = i
      · subst e
        rw [ho _ (by omega), hf.1 80 (by decide) (by decide) (by decide), rd_in, if_pos rfl]
      · exact ht t (by omega) h2
    · rw [ho j (by omega), hf.1 80 (by decide) (by decide) (by decide), rd_in, if_neg (by omega)]
theorem layAll_l {nC nP : Nat} {g : Int32 → Int32 → Int32 → Int32 → Int32 → Int32 → Int32} {σ0 σx : Sg} {Q : Sg → Prop} (hB : Bs σ0 nC nP) (hq : Mq σ0) (h3 : G3 g) (hL : ML σ0 g) (hF : Fx σ0 σx) : ∀ (d i : Nat) (σ : Sg), i + d = nC → Fr σx σ → (∀ k, k < i → ∀ t, t < 61 → σ.1 80 (61 * k + t) = nI (TR g σ0 k t / 8)) →
    (∀ σ', Fr σx σ' → (∀ k, k < nC → ∀ t, t < 61 → σ'.1 80 (61 * k + t) = nI (TR g σ0 k t / 8)) → Q σ') → w_X12_layAll_l2 Q (d + 1) (nI i) σ
  | 0, i, σ, h, hR, ht, hQ => by
    unfold w_X12_layAll_l2
    rw [hR.2.1 1 (by decide) (by decide) (by decide), hF.lo (c := 60) (by omega), hq.2.1, hB.1.2.2.1, if_pos (nI_le (by omega) (by have := hB.1.1; omega))]
    exact hQ σ hR (fun k hk => ht k (by omega))
  | d + 1, i, σ, h, hR, ht, hQ => by
    have h6 := hB.1.1
    unfold w_X12_layAll_l2
    rw [hR.2.1 1 (by decide) (by decide) (by decide), hF.lo (c := 60) (by omega), hq.2.1, hB.1.2.2.1, if_neg (nI_ge (by omega) (by omega)), nI_1]
    have e : ∀ c, 61 ≤ c → c ≤ 77 → σ.1 c = σ0.1 c := fun c h1 h2 => by rw [hR.1 c (by omega) (by omega) (by omega) (by omega), hF.lo (by omega)]
    have e29 : σ.1 60 29 = σ0.1 60 29 := by rw [hR.2.1 29 (by decide) (by decide) (by decide), hF.lo (by omega)]
    have hi : i < nC := by omega
    obtain ⟨⟨c1, c2⟩, ⟨c3, c4⟩, ⟨c5, c6, c7⟩, ⟨c8, c9⟩⟩ := hB.2.1 i hi
    refine layNow_m (by omega) (c := vN σ0 2 i) (w := vN σ0 3 i) (by rw [e 61 (by decide) (by decide), hq.1.1, c1]) (by rw [e 62 (by decide) (by decide), hq.1.2.1, c3]) c4 (fun σ1 hr1 hs1 hA1 => ?_)
    rw [bd_eq]
    refine ⟨62, lay_l (s0 := stN σ0 i) (l := lP g σ0 i (vN σ0 4 i)) (p := vN σ0 4 i) (by omega) (stN_lt hB hi) (by omega) 61 0 σ1 (by omega) (GM_m (GM_of hB hq h3 hL hi e e29) hr1.m) hA1 (fun σ2 hr2 ht2 ho2 => ?_)⟩
    refine layAll_l hB hq h3 hL hF d (i + 1) σ2 (by omega) (hR.trans (hr1.trans hr2)) (fun k hk t hT => ?_) hQ
    by_cases ek : k = i
    · subst ek; exact ht2 t (Nat.zero_le _) hT
    · rw [ho2 _ (by omega), hs1.1 80 (by decide)]
      exact ht k (by omega) t hT
theorem layAll_m {nC nP : Nat} {g : Int32 → Int32 → Int32 → Int32 → Int32 → Int32 → Int32} {σ0 σx : Sg} {Q : Sg → Prop} (hB : Bs σ0 nC nP) (hq : Mq σ0) (h3 : G3 g) (hL : ML σ0 g) (hF : Fx σ0 σx)
    (hQ : ∀ σ', Fr σx σ' → (∀ k, k < nC → ∀ t, t < 61 → σ'.1 80 (61 * k + t) = nI (TR g σ0 k t / 8)) → Q σ') : w_X12_layAll σx Q := ⟨nC + 1, layAll_l hB hq h3 hL hF nC 0 σx (by omega) (Fr.refl _) (fun k hk => by omega) hQ⟩
theorem goTo_l {k p s0 n : Nat} {l : Nat → Nat → Int32} {Q : Sg → Prop} (hk : k < 6) (hs : s0 < 2048) (hp : p < 1000) (hn : n ≤ 60) : ∀ (d i : Nat) (σ : Sg), i + d = n → GM σ k p l → At σ (tr l p s0 i) → (∀ σ', Fh σ σ' → At σ' (tr l p s0 n) → Q σ') → w_X12_goTo_l7 (nI k) (nI n) Q (d + 1) (nI i) σ
  | 0, i, σ, h, hG, hA, hQ => by
    have : i = n := by omega
    subst this
    unfold w_X12_goTo_l7
    rw [if_pos (nI_le (Nat.le_refl _) (by omega))]
    exact hQ σ (Fh.refl _) hA
  | d + 1, i, σ, h, hG, hA, hQ => by
    unfold w_X12_goTo_l7
    rw [if_neg (nI_ge (by omega) (by omega)), nI_1]
    exact hour_q hk hG (tr_lt hs i) (by omega) hp (Or.inr (Or.inl rfl)) hA (fun σ1 hf hG1 hA1 => goTo_l hk hs hp hn d (i + 1) σ1 (by omega) hG1 hA1 (fun σ' hf' hA' => hQ σ' (hf.trans hf') hA'))
theorem goTo_m {nC nP k n : Nat} {g : Int32 → Int32 → Int32 → Int32 → Int32 → Int32 → Int32} {σ0 σx : Sg} {Q : Sg → Prop} (hB : Bs σ0 nC nP) (hq : Mq σ0) (h3 : G3 g) (hL : ML σ0 g) (hF : Fx σ0 σx) (hk : k < nC) (hn : n ≤ 60)
    (hQ : ∀ σ', Fr σx σ' → At σ' (TR g σ0 k n) → Q σ') : w_X12_goTo (nI k) (nI n) σx Q := by
  have h6 := hB.1.1
  have e : ∀ c, 61 ≤ c → c ≤ 77 → σx.1 c = σ0.1 c := fun c h1 h2 => hF.lo (by omega)
  have e29 : σx.1 60 29 = σ0.1 60 29 := by rw [hF.lo (by omega)]
  obtain ⟨⟨c1, c2⟩, ⟨c3, c4⟩, ⟨c5, c6, c7⟩, ⟨c8, c9⟩⟩ := hB.2.1 k hk
  unfold w_X12_goTo
  refine layNow_m (by omega) (c := vN σ0 2 k) (w := vN σ0 3 k) (by rw [e 61 (by decide) (by decide), hq.1.1, c1]) (by rw [e 62 (by decide) (by decide), hq.1.2.1, c3]) c4 (fun σ1 hr1 _ hA1 => ?_)
  exact ⟨n + 1, goTo_l (s0 := stN σ0 k) (by omega) (stN_lt hB hk) (by omega) hn n 0 σ1 (by omega) (GM_m (GM_of hB hq h3 hL hk e e29) hr1.m) hA1 (fun σ' hf hA => hQ σ' (hr1.trans hf.r) hA)⟩
