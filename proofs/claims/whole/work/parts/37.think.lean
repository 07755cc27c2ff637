/-! hours in thought: turn, later, nears, passes, meet, often, who -/
theorem th_e {N : Nat} {σ : Sg} (hI : Inv N σ) {σ1 σ2 : Sg} {M : Nat} (h1 : Fx σ σ1) (hK : IKb M σ1) (hM : M ≤ 16 * (N + 1)) (h2 : Fm σ1 σ2) : Inv (N + 1) σ2 := Inv_th hI h1 h2 (IKb_c hK hM (fun _ _ => ⟨fun _ _ => rfl, rfl⟩))
theorem c60_x {σ σ1 : Sg} (hq : Mq σ) {nC nP : Nat} (hB : Bs σ nC nP) (h : Fx σ σ1) : σ1.1 60 1 = nI nC ∧ σ1.1 60 6 = nI nP := ⟨by rw [h.lo (by omega), hq.2.1, hB.1.2.2.1], by rw [h.lo (by omega), hq.2.2.1, hB.1.2.2.2]⟩
theorem op_turn {N : Nat} {σ : Sg} (hI : Inv N σ) (hN : N < 600) (a : Int32) {Q : Int32 → Int32 → Sg → Prop} (hQ : ∀ r σ', Inv (N + 1) σ' → Q r r σ') : w_X11_turn a σ (fun r σ1 => w_X12_turn a σ1 (fun r' σ2 => Q r r' σ2)) := by
  obtain ⟨nC, nP, g, hB, hq, h3, hX, hM⟩ := Inv_get hI
  have hK := Inv_K hI
  obtain ⟨hn, hp, en, ep⟩ := hB.1
  have c60 := c60_x hq hB (Fx.refl σ)
  unfold w_X11_turn
  refine car_x (by omega) en (fun hc => ?_) (fun hc => ?_)
  · rw [if_neg one_ne]
    obtain ⟨k, hk, rfl⟩ := id hc
    obtain ⟨⟨k1, k2⟩, ⟨k3, k4⟩, ⟨k5, k6, k7⟩, ⟨k8, k9⟩⟩ := hB.2.1 k hk
    have hk6 : k < 6 := by omega
    have hv : vp_in (nI k) 6 := vp_nI hk6 (by decide)
    rw [cl_nI (by omega), k5]
    refine ⟨hv, hv, start_x hk6 h3 hX k8 k9 hB.2.2.2.2.1 hB.2.2.2.2.2 hK (by omega) (fun σ1 hs hC hK1 => ⟨hv, ?_⟩)⟩
    rw [hs.1 3 (by omega), k3]
    refine lawB_x (t := 0) hk6 hC hK1 (by omega) (by decide) k4 (fun σ2 hf hC2 hK2 => ?_)
    have hF : Fx σ σ2 := (hs.x hk6).trans (Fx.of_k hk6 hf)
    have c60' := c60_x hq hB hF
    unfold w_X12_turn
    refine car_m (by omega) c60'.1 (fun _ => ?_) (fun h => absurd hc h)
    rw [if_neg one_ne]
    refine ⟨hv, hv, ?_⟩
    rw [cl_nI (by omega), hF.lo (c := 62) (by omega), hF.lo (c := 64) (by omega), hF.lo (c := 67) (by omega), hq.1.2.1, hq.1.2.2.2.1, show (Int32.toNatClampNeg 2) = 2 from rfl, hq.2.2.2.2.2]
    have hM2 : ML σ2 g := ML_c hM (sameLaw_of (hF.lo (by omega)) (hF.lo (by omega)) (hF.lo (by omega)) (hF.lo (by omega)) (hF.lo (by omega)) (by rw [hF.lo (by omega)]))
    refine hM2 _ _ _ _ _ _ ⟨fun _ _ => ⟨rfl, rfl⟩, rfl, fun _ _ => ⟨rfl, rfl⟩, rfl⟩ hv (fun σ3 ho => ?_)
    rw [cl_nI (by omega), hF.lo (c := 63) (by omega), hF.lo (c := 67) (by omega), hq.1.2.2.1, hq.2.2.2.2.1]
    have el : lw g (σ.1 1 9) (vN σ 5 k) (vN σ 1 10) k (vN σ 4 k) 0 (vN σ 3 k) = g (σ.1 1 9) (σ.1 5 k) (σ.1 1 10) (σ.1 3 k) (nI k) (σ.1 4 k) := by
      rw [k8, k3, k5, hB.2.2.2.2.1]
      unfold lw
      rw [Nat.sub_zero, Nat.add_zero, Nat.min_eq_right hB.2.2.2.2.2]
    rw [el]
    apply hQ
    exact th_e hI hF hK2 (by omega) ⟨fun c h h' => ho.1 c (by omega) (by omega), fun i _ _ _ => by rw [ho.1 60 (by decide) (by decide)], fun c _ => by rw [ho.2]⟩
  · rw [if_pos rfl]
    unfold w_X12_turn
    exact car_m (by omega) c60.1 (fun h => absurd h hc) (fun _ => by rw [if_pos rfl]; exact hQ _ _ (Inv_up hI))
theorem later_b {nC : Nat} {a b c : Int32} {σ : Sg} {Q : Int32 → Sg → Prop} (hn : nC ≤ 6) (e : σ.1 60 1 = nI nC) (h : ¬ (CR nC a ∧ inR b 0 60 ∧ inR c 0 2)) (hQ : Q (-1) σ) : w_X12_later a b c σ Q := by
  unfold w_X12_later
  refine car_m (by omega) e (fun h1 => ?_) (fun _ => by rw [if_pos rfl]; exact hQ)
  rw [if_neg one_ne]
  refine hours_m (fun h2 => ?_) (fun _ => by rw [if_pos rfl]; exact hQ)
  rw [if_neg one_ne]
  exact in_m (a := 0) (b := 2) (by decide) (by decide) (fun h3 => absurd ⟨h1, h2, h3⟩ h) (fun _ => by rw [if_pos rfl]; exact hQ)
theorem op_later {N : Nat} {σ : Sg} (hI : Inv N σ) (hN : N < 600) (a b c : Int32) {Q : Int32 → Int32 → Sg → Prop} (hQ : ∀ r σ', Inv (N + 1) σ' → Q r r σ') : w_X11_later a b c σ (fun r σ1 => w_X12_later a b c σ1 (fun r' σ2 => Q r r' σ2)) := by
  obtain ⟨nC, nP, g, hB, hq, h3, hX, hM⟩ := Inv_get hI
  have hK := Inv_K hI
  obtain ⟨hn, hp, en, ep⟩ := hB.1
  have c60 := c60_x hq hB (Fx.refl σ)
  unfold w_X11_later
  refine car_x (by omega) en (fun h1 => ?_) (fun h => by rw [if_pos rfl]; exact later_b hn c60.1 (fun q => h q.1) (hQ _ _ (Inv_up hI)))
  rw [if_neg one_ne]
  refine within_x (a := 0) (b := 60) (by decide) (by decide) (fun h2 => ?_) (fun h => by rw [if_pos rfl]; exact later_b hn c60.1 (fun q => h q.2.1) (hQ _ _ (Inv_up hI)))
  rw [if_neg one_ne]
  refine within_x (a := 0) (b := 2) (by decide) (by decide) (fun h3' => ?_) (fun h => by rw [if_pos rfl]; exact later_b hn c60.1 (fun q => h q.2.2) (hQ _ _ (Inv_up hI)))
  rw [if_neg one_ne]
  obtain ⟨k, hk, rfl⟩ := id h1
  obtain ⟨n, hn60, rfl⟩ := inR_num (b := 60) h2 (by decide)
  have hk6 : k < 6 := by omega
  have hv : vp_in (nI k) 6 := vp_nI hk6 (by decide)
  obtain ⟨⟨k1, k2⟩, ⟨k3, k4⟩, ⟨k5, k6, k7⟩, ⟨k8, k9⟩⟩ := hB.2.1 k hk
  have mrun : ∀ (σ1 : Sg) (M : Nat), Fx σ σ1 → IKb M σ1 → M ≤ 16 * (N + 1) → ∀ v : Int32, (∀ σ', At σ' (TR g σ k n) → (c = 0 → σ'.1 60 30 = v) ∧ (c = 1 → σ'.1 60 31 = v) ∧ (¬ c = 0 → ¬ c = 1 → v = nI (vN σ 5 k - n))) → w_X12_later (nI k) (nI n) c σ1 (fun r' σ2 => Q v r' σ2) := by
    intro σ1 M hF hK1 hMb v hv'
    have c60' := c60_x hq hB hF
    unfold w_X12_later
    refine car_m (by omega) c60'.1 (fun _ => ?_) (fun h => absurd h1 h)
    rw [if_neg one_ne]
    refine hours_m (fun _ => ?_) (fun h => absurd h2 h)
    rw [if_neg one_ne]
    refine in_m (a := 0) (b := 2) (by decide) (by decide) (fun _ => ?_) (fun h => absurd h3' h)
    rw [if_neg one_ne]
    refine goTo_m hB hq h3 hM hF hk hn60 (fun σ2 hr hA => ?_)
    obtain ⟨v1, v2, v3⟩ := hv' σ2 hA
    have hI' := th_e hI hF hK1 hMb hr.m
    by_cases c0 : c = 0
    · rw [if_pos c0, v1 c0]; exact hQ _ _ hI'
    · rw [if_neg c0]
      by_cases c1 : c = 1
      · rw [if_pos c1, v2 c1]; exact hQ _ _ hI'
      · rw [if_neg c1, cl_nI (by omega), hr.1 64 (by decide) (by decide) (by decide) (by decide), hF.lo (c := 64) (by omega), hq.1.2.2.2.1, k8]
        refine ⟨hv, ?_⟩
        have ev := v3 c0 c1
        unfold w_X12_shoeAt
        by_cases hh : vN σ 5 k ≤ n
        · rw [if_pos (nI_le hh (by omega)), ev, show vN σ 5 k - n = 0 by omega]
          exact hQ _ _ hI'
        · rw [if_neg (nI_ge (by omega) (by omega)), pk_sub (by omega), ev]
          exact hQ _ _ hI'
  by_cases c2 : c = 2
  · rw [if_pos c2, cl_nI (by omega), k8, shoe_x (by omega) (by omega)]
    exact ⟨hv, mrun σ _ (Fx.refl σ) hK (by omega) _ (fun σ' hA => ⟨fun h => absurd (c2.symm.trans h) (by decide), fun h => absurd (c2.symm.trans h) (by decide), fun _ _ => rfl⟩)⟩
  · rw [if_neg c2]
    refine follow_x hB h3 hX hk hn60 (Fx.refl σ) hK (by omega) (fun σ1 hF hK1 ht _ => ?_)
    have hs := TR_lt (g := g) hB hk n
    by_cases c0 : c = 0
    · rw [if_pos c0, cellB_x hk6 (by omega) (ht n (Nat.le_refl _)) hs]
      exact mrun σ1 _ hF hK1 (by omega) _ (fun σ' hA => ⟨fun _ => hA.1, fun h => absurd (c0.symm.trans h) (by decide), fun h => absurd c0 h⟩)
    · rw [if_neg c0, wayB_x hk6 (by omega) (ht n (Nat.le_refl _)) hs]
      refine mrun σ1 _ hF hK1 (by omega) _ (fun σ' hA => ⟨fun h => absurd h c0, fun _ => hA.2, fun _ h => ?_⟩)
      exfalso
      have a1 := h3'.1
      have a2 := h3'.2
      have : c.toInt = 0 ∨ c.toInt = 1 ∨ c.toInt = 2 := by omega
      rcases this with e | e | e
      · exact c0 (Int32.toInt_inj.mp (by rw [e]; decide))
      · exact h (Int32.toInt_inj.mp (by rw [e]; decide))
      · exact c2 (Int32.toInt_inj.mp (by rw [e]; decide))
/-- the first least -/
def am (A : Nat → Nat) : Nat → Nat
  | 0 => 0
  | n + 1 => if A (n + 1) < A (am A n) then n + 1 else am A n
theorem am_le (A : Nat → Nat) : ∀ n, am A n ≤ n
  | 0 => Nat.le_refl _
  | n + 1 => by
    show (if A (n + 1) < A (am A n) then n + 1 else am A n) ≤ n + 1
    have := am_le A n
    split <;> omega
theorem near1_x {σ : Sg} {n k b : Nat} {s : Nat → Nat} {Q : Int32 → Sg → Prop} (hJ : JX σ k n s) (hk : k < 6) (hn : n ≤ 60) (hb : b < 256) (hQ : Q (nI (am (fun t => ap (s t / 8) b) n)) σ) : ∀ (d i : Nat), i + d = n → w_X6_firstNearest_l6 (nI k) (nI b) (nI n) Q (d + 1) (nI (am (fun t => ap (s t / 8) b) i)) (nI (i + 1)) σ
  | 0, i, h => by
    have : i = n := by omega
    subst this
    unfold w_X6_firstNearest_l6
    rw [if_pos (nI_lt (Nat.lt_succ_self _) (by omega))]
    exact hQ
  | d + 1, i, h => by
    unfold w_X6_firstNearest_l6
    have ha := am_le (fun t => ap (s t / 8) b) i
    have h1 := hJ (i + 1) (by omega)
    have h2 := hJ (am (fun t => ap (s t / 8) b) i) (by omega)
    rw [if_neg (nI_nlt (by omega) (by omega)), cellB_x (by omega) (by omega) h1.1 h1.2, apart_x (by omega) hb, cellB_x (by omega) (by omega) h2.1 h2.2, apart_x (by omega) hb, bd_eq, nI_1]
    have b1 := ap_lt (show s (i + 1) / 8 < 256 by omega) hb
    have b2 := ap_lt (show s (am (fun t => ap (s t / 8) b) i) / 8 < 256 by omega) hb
    have ih := near1_x hJ hk hn hb hQ d (i + 1) (by omega)
    have e : am (fun t => ap (s t / 8) b) (i + 1) = if ap (s (i + 1) / 8) b < ap (s (am (fun t => ap (s t / 8) b) i) / 8) b then i + 1 else am (fun t => ap (s t / 8) b) i := rfl
    rw [e] at ih
    by_cases hh : ap (s (i + 1) / 8) b < ap (s (am (fun t => ap (s t / 8) b) i) / 8) b
    · rw [if_pos hh] at ih
      rw [if_neg (nI_ge hh (by omega))]
      exact ih
    · rw [if_neg hh] at ih
      rw [if_pos (nI_le (by omega) (by omega))]
      exact ih
theorem near1_m {σ : Sg} {n m b : Nat} {s : Nat → Nat} {J : Int32 → Sg → Prop} (hm : m < 2 ^ 31) (hJ : JM σ (m / 10) s) (hk : m / 10 < 6) (hn : n ≤ 60) (hb : b < 256) (hQ : J (nI (am (fun t => ap (s t / 8) b) n)) σ) : ∀ (d i : Nat), i + d = n → w_X12_nears_l47 (nI m) (nI n) (nI b) J (d + 1) (nI (am (fun t => ap (s t / 8) b) i)) (nI (i + 1)) σ
  | 0, i, h => by
    have : i = n := by omega
    subst this
    unfold w_X12_nears_l47
    rw [if_pos (nI_lt (Nat.lt_succ_self _) (by omega))]
    exact hQ
  | d + 1, i, h => by
    unfold w_X12_nears_l47
    have ha := am_le (fun t => ap (s t / 8) b) i
    have h1 := hJ (i + 1) (by omega)
    have h2 := hJ (am (fun t => ap (s t / 8) b) i) (by omega)
    rw [if_neg (nI_nlt (by omega) (by omega)), div10 hm, ix_m, ix_m, cl_nI (by omega), cl_nI (by omega), h1.1, apart_m (by omega) hb, h2.1, apart_m (by omega) hb, bd_eq, nI_1]
    refine ⟨vp_nI (by omega) (by decide), vp_nI (by omega) (by decide), ?_⟩
    have b1 := ap_lt (show s (i + 1) / 8 < 256 by omega) hb
    have b2 := ap_lt (show s (am (fun t => ap (s t / 8) b) i) / 8 < 256 by omega) hb
    have ih := near1_m hm hJ hk hn hb hQ d (i + 1) (by omega)
    have e : am (fun t => ap (s t / 8) b) (i + 1) = if ap (s (i + 1) / 8) b < ap (s (am (fun t => ap (s t / 8) b) i) / 8) b then i + 1 else am (fun t => ap (s t / 8) b) i := rfl
    rw [e] at ih
    by_cases hh : ap (s (i + 1) / 8) b < ap (s (am (fun t => ap (s t / 8) b) i) / 8) b
    · rw [if_pos hh] at ih
      rw [if_neg (nI_ge hh (by omega))]
      exact ih
    · rw [if_neg hh] at ih
      rw [if_pos (nI_le (by omega) (by omega))]
      exact ih
theorem nears_b {nC nP : Nat} {a b c : Int32} {σ : Sg} {Q : Int32 → Sg → Prop} (hn : nC ≤ 6) (hp : nP ≤ 8) (e : σ.1 60 1 = nI nC) (e' : σ.1 60 6 = nI nP) (h : ¬ (PR nC nP a ∧ inR b 0 60 ∧ inR c 0 1)) (hQ : Q (-1) σ) : w_X12_nears a b c σ Q := by
  unfold w_X12_nears
  refine pair_m hn hp e e' (fun h1 => ?_) (fun _ => by rw [if_pos rfl]; exact hQ)
  rw [if_neg one_ne]
  refine hours_m (fun h2 => ?_) (fun _ => by rw [if_pos rfl]; exact hQ)
  rw [if_neg one_ne]
  exact in_m (a := 0) (b := 1) (by decide) (by decide) (fun h3 => absurd ⟨h1, h2, h3⟩ h) (fun _ => by rw [if_pos rfl]; exact hQ)
theorem one_of {c : Int32} (h : inR c 0 1) : c = 0 ∨ c = 1 := by
  obtain ⟨n, h1, rfl⟩ := inR_num (b := 1) h (by decide)
  have : n = 0 ∨ n = 1 := by omega
  rcases this with rfl | rfl
  · exact Or.inl rfl
  · exact Or.inr rfl
theorem op_nears {N : Nat} {σ : Sg} (hI : Inv N σ) (hN : N < 600) (a b c : Int32) {Q : Int32 → Int32 → Sg → Prop} (hQ : ∀ r σ', Inv (N + 1) σ' → Q r r σ') : w_X11_nears a b c σ (fun r σ1 => w_X12_nears a b c σ1 (fun r' σ2 => Q r r' σ2)) := by
  obtain ⟨nC, nP, g, hB, hq, h3, hX, hM⟩ := Inv_get hI
  have hK := Inv_K hI
  obtain ⟨hn, hp, en, ep⟩ := hB.1
  have c60 := c60_x hq hB (Fx.refl σ)
  unfold w_X11_nears
  refine pair_x hn hp en ep (fun h1 => ?_) (fun h => by rw [if_pos rfl]; exact nears_b hn hp c60.1 c60.2 (fun q => h q.1) (hQ _ _ (Inv_up hI)))
  rw [if_neg one_ne]
  refine within_x (a := 0) (b := 60) (by decide) (by decide) (fun h2 => ?_) (fun h => by rw [if_pos rfl]; exact nears_b hn hp c60.1 c60.2 (fun q => h q.2.1) (hQ _ _ (Inv_up hI)))
  rw [if_neg one_ne]
  refine within_x (a := 0) (b := 1) (by decide) (by decide) (fun h3' => ?_) (fun h => by rw [if_pos rfl]; exact nears_b hn hp c60.1 c60.2 (fun q => h q.2.2) (hQ _ _ (Inv_up hI)))
  rw [if_neg one_ne]
  obtain ⟨m, hm, rfl, hk, hp'⟩ := id h1
  obtain ⟨n, hn60, rfl⟩ := inR_num (b := 60) h2 (by decide)
  rw [rem10 hm, div10 hm]
  refine follow_x hB h3 hX hk hn60 (Fx.refl σ) hK (by omega) (fun σ1 hF hK1 ht _ => ?_)
  have hL := LX_of hB hF
  obtain ⟨s1, s2⟩ := hL.2.2.2.1 _ hp'
  have hJ : JX σ1 (m / 10) n (TR g σ (m / 10)) := fun t h => ⟨ht t h, TR_lt hB hk t⟩
  have hv8 : vp_in (nI (m % 10)) 8 := vp_nI (by omega) (by decide)
  have c60' := c60_x hq hB hF
  have mrun : ∀ v : Int32, v = (if c = 0 then nI (ap (TR g σ (m / 10) (am (fun t => ap (TR g σ (m / 10) t / 8) (vN σ 6 (m % 10))) n) / 8) (vN σ 6 (m % 10))) else nI (am (fun t => ap (TR g σ (m / 10) t / 8) (vN σ 6 (m % 10))) n)) → w_X12_nears (nI m) (nI n) c σ1 (fun r' σ2 => Q v r' σ2) := by
    intro v ev
    unfold w_X12_nears
    refine pair_m hn hp c60'.1 c60'.2 (fun _ => ?_) (fun h => absurd h1 h)
    rw [if_neg one_ne]
    refine hours_m (fun _ => ?_) (fun h => absurd h2 h)
    rw [if_neg one_ne]
    refine in_m (a := 0) (b := 1) (by decide) (by decide) (fun _ => ?_) (fun h => absurd h3' h)
    rw [if_neg one_ne, rem10 hm]
    refine layAll_m hB hq h3 hM hF (fun σ2 hr ht2 => ?_)
    have hLm := LM_of hB hq hF hr.m
    have hI' := th_e hI hF hK1 (by omega) hr.m
    have hJm : JM σ2 (m / 10) (TR g σ (m / 10)) := fun t h => ⟨ht2 _ hk t h, TR_lt hB hk t⟩
    refine ⟨hv8, ?_⟩
    rw [cl_nI (by omega), (hLm.2.2.2.1 _ hp').1, bd_eq, bd_eq]
    refine ⟨n + 1, near1_m hm hJm (by omega) hn60 s2 ?_ n 0 (by omega)⟩
    have ha := am_le (fun t => ap (TR g σ (m / 10) t / 8) (vN σ 6 (m % 10))) n
    by_cases c0 : c = 0
    · rw [if_pos c0] at ev ⊢
      rw [div10 hm, ix_m, cl_nI (by omega), (hJm _ (by omega)).1, apart_m (by have := TR_lt (g := g) hB hk (am (fun t => ap (TR g σ (m / 10) t / 8) (vN σ 6 (m % 10))) n); omega) s2, ← ev]
      exact ⟨vp_nI (by omega) (by decide), hQ _ _ hI'⟩
    · rw [if_neg c0] at ev ⊢
      rw [← ev]
      exact hQ _ _ hI'
  refine ⟨hv8, ?_⟩
  rw [cl_nI (by omega), s1]
  refine ⟨n + 1, near1_x hJ (by omega) hn60 s2 ?_ n 0 (by omega)⟩
  have ha := am_le (fun t => ap (TR g σ (m / 10) t / 8) (vN σ 6 (m % 10))) n
  rcases one_of h3' with c0 | c0
  · rw [if_neg (by rw [c0]; decide), cellB_x (by omega) (by omega) (hJ _ ha).1 (hJ _ ha).2, s1, apart_x (by have := TR_lt (g := g) hB hk (am (fun t => ap (TR g σ (m / 10) t / 8) (vN σ 6 (m % 10))) n); omega) s2]
    exact ⟨hv8, mrun _ (by rw [if_pos c0])⟩
  · rw [if_pos c0]
    exact mrun _ (by rw [if_neg (by rw [c0]; decide)])
/-! passes -/
def anyT (f : Nat → Bool) : Nat → Bool
  | 0 => false
  | n + 1 => anyT f n || f n
def PB (r nP n : Nat) (sp : Nat → Nat) (s : Nat → Nat) : Nat := bN nP (fun q => anyT (fun t => nr r (s t / 8) (sp q)) (n + 1))
theorem pass_x {σ : Sg} {nC nP r n k : Nat} {sp wo s : Nat → Nat} {Q : Int32 → Sg → Prop} (hL : LX σ nC nP r sp wo) (hJ : JX σ k n s) (hk : k < 6) (hn : n ≤ 60) (hQ : Q (nI (PB r nP n sp s)) σ) : ∀ (d i : Nat), i + d = n + 1 → w_X6_placesPassed_l5 (nI k) (nI n) Q (d + 1) (nI (bN nP (fun q => anyT (fun t => nr r (s t / 8) (sp q)) i))) (nI i) σ
  | 0, i, h => by
    have : i = n + 1 := by omega
    subst this
    unfold w_X6_placesPassed_l5
    rw [if_pos (nI_lt (Nat.lt_succ_self _) (by omega))]
    exact hQ
  | d + 1, i, h => by
    unfold w_X6_placesPassed_l5
    have h1 := hJ i (by omega)
    rw [if_neg (nI_nlt (by omega) (by omega)), cellB_x hk (by omega) h1.1 h1.2]
    refine pN_x hL (by omega) ?_
    rw [bd_eq, nI_1]
    have e : nI (bN nP (fun q => anyT (fun t => nr r (s t / 8) (sp q)) i)) ||| nI (PN r nP sp (s i / 8)) = nI (bN nP (fun q => anyT (fun t => nr r (s t / 8) (sp q)) (i + 1))) := by
      unfold PN
      rw [nI_or, bN_or]
      rfl
    rw [e]
    exact pass_x hL hJ hk hn hQ d (i + 1) (by omega)
theorem passed_x {σ : Sg} {nC nP r n k : Nat} {sp wo s : Nat → Nat} {Q : Int32 → Sg → Prop} (hL : LX σ nC nP r sp wo) (hJ : JX σ k n s) (hk : k < 6) (hn : n ≤ 60) (hQ : Q (nI (PB r nP n sp s)) σ) : w_X6_placesPassed (nI k) (nI n) σ Q := by
  have := pass_x hL hJ hk hn hQ (n + 1) 0 (by omega)
  have e : bN nP (fun q => anyT (fun t => nr r (s t / 8) (sp q)) 0) = 0 := bN_0 nP
  rw [e] at this
  exact ⟨n + 2, this⟩
theorem pass1_m {σ : Sg} {nC nP r n k q B : Nat} {sp wo s : Nat → Nat} {J : Int32 → Sg → Prop} (hL : LM σ nC nP r sp wo) (hJ : JM σ k s) (hk : k < 6) (hn : n ≤ 60) (hq : q < nP) (hQ : J (nI (B ||| if anyT (fun t => nr r (s t / 8) (sp q)) (n + 1) = true then 2 ^ q else 0)) σ) : ∀ (d i : Nat), i + d = n + 1 → w_X12_passedBy_l17 (nI k) (nI n) (nI q) J (d + 1) (nI (B ||| if anyT (fun t => nr r (s t / 8) (sp q)) i = true then 2 ^ q else 0)) (nI i) σ
  | 0, i, h => by
    have : i = n + 1 := by omega
    subst this
    unfold w_X12_passedBy_l17
    rw [if_pos (nI_lt (Nat.lt_succ_self _) (by omega))]
    exact hQ
  | d + 1, i, h => by
    obtain ⟨⟨l1, l2, l3⟩, l4, l5, l6, l7, l8⟩ := id hL
    unfold w_X12_passedBy_l17
    have h1 := hJ i (by omega)
    rw [if_neg (nI_nlt (by omega) (by omega)), ix_m, cl_nI (by omega), cl_nI (by omega), h1.1, (l6 q hq).1, nrM (by omega) (l6 q hq).2 l3 l8, bd_eq, nI_1]
    refine ⟨vp_nI (by omega) (by decide), vp_nI (by omega) (by decide), ?_⟩
    have ih := pass1_m (B := B) hL hJ hk hn hq hQ d (i + 1) (by omega)
    have e : anyT (fun t => nr r (s t / 8) (sp q)) (i + 1) = (anyT (fun t => nr r (s t / 8) (sp q)) i || nr r (s i / 8) (sp q)) := rfl
    rw [e] at ih
    by_cases g : nr r (s i / 8) (sp q) = true
    · rw [if_pos g, if_neg one_ne, bd_eq, one_sh (by omega), nI_or]
      rw [g, Bool.or_true, if_pos rfl] at ih
      have e2 : (B ||| if anyT (fun t => nr r (s t / 8) (sp q)) i = true then 2 ^ q else 0) ||| 2 ^ q = B ||| 2 ^ q := by
        split
        · rw [Nat.or_assoc, Nat.or_self]
        · rw [Nat.or_zero]
      rw [e2]
      exact ih
    · rw [if_neg g, if_pos rfl]
      rw [Bool.eq_false_iff.mpr g, Bool.or_false] at ih
      exact ih
theorem pass_m {σ : Sg} {nC nP r n k : Nat} {sp wo s : Nat → Nat} {Q : Int32 → Sg → Prop} (hL : LM σ nC nP r sp wo) (hJ : JM σ k s) (hk : k < 6) (hn : n ≤ 60) (hQ : Q (nI (PB r nP n sp s)) σ) : ∀ (d i : Nat), i + d = nP → w_X12_passedBy_l5 (nI k) (nI n) Q (d + 1) (nI (bN i (fun q => anyT (fun t => nr r (s t / 8) (sp q)) (n + 1)))) (nI i) σ
  | 0, i, h => by
    obtain ⟨⟨l1, l2, l3⟩, l4, l5, l6, l7, l8⟩ := id hL
    have : i = nP := by omega
    subst this
    unfold w_X12_passedBy_l5
    rw [l5, if_pos (nI_le (Nat.le_refl _) (by omega))]
    exact hQ
  | d + 1, i, h => by
    obtain ⟨⟨l1, l2, l3⟩, l4, l5, l6, l7, l8⟩ := id hL
    unfold w_X12_passedBy_l5
    rw [l5, if_neg (nI_ge (by omega) (by omega)), bd_eq, nI_1]
    have ih := pass_m hL hJ hk hn hQ d (i + 1) (by omega)
    have key := pass1_m (σ := σ) (q := i) (B := bN i (fun q => anyT (fun t => nr r (s t / 8) (sp q)) (n + 1))) (J := fun x4 σ5 => w_X12_passedBy_l5 (nI k) (nI n) Q (d + 1) x4 (nI (i + 1)) σ5) hL hJ hk hn (by omega) ?_ (n + 1) 0 (by omega)
    · have e0 : anyT (fun t => nr r (s t / 8) (sp i)) 0 = false := rfl
      rw [e0, if_neg (by decide), Nat.or_zero] at key
      exact ⟨n + 2, key⟩
    · have e : bN (i + 1) (fun q => anyT (fun t => nr r (s t / 8) (sp q)) (n + 1)) = bN i (fun q => anyT (fun t => nr r (s t / 8) (sp q)) (n + 1)) ||| (if anyT (fun t => nr r (s t / 8) (sp i)) (n + 1) = true then 2 ^ i else 0) := by
        show bN i _ + _ = _
        split
        · exact add_or (bN_lt _ _)
        · rw [Nat.add_zero, Nat.or_zero]
      rw [e] at ih
      exact ih
theorem passed_m {σ : Sg} {nC nP r n k : Nat} {sp wo s : Nat → Nat} {Q : Int32 → Sg → Prop} (hL : LM σ nC nP r sp wo) (hJ : JM σ k s) (hk : k < 6) (hn : n ≤ 60) (hQ : Q (nI (PB r nP n sp s)) σ) : w_X12_passedBy (nI k) (nI n) σ Q := ⟨nP + 1, pass_m hL hJ hk hn hQ nP 0 (by omega)⟩
/-- worth of places -/
def ws (P : Nat → Bool) (wo : Nat → Nat) : Nat → Nat
  | 0 => 0
  | n + 1 => ws P wo n + if P n = true then wo n else 0
theorem worth_x {σ : Sg} {nC nP r : Nat} {sp wo : Nat → Nat} {P : Nat → Bool} {Q : Int32 → Sg → Prop} (hL : LX σ nC nP r sp wo) (hQ : Q (nI (ws P wo nP)) σ) : ∀ (d i : Nat), i + d = nP → w_X7_worthOf_l4 (nI (bN nP P)) Q (d + 1) (nI (ws P wo i)) (nI i) σ
  | 0, i, h => by
    obtain ⟨⟨l1, l2, l3⟩, l4, l5, l6, l7, l8⟩ := id hL
    have : i = nP := by omega
    subst this
    unfold w_X7_worthOf_l4
    rw [l5, if_pos (nI_le (Nat.le_refl _) (by omega))]
    exact hQ
  | d + 1, i, h => by
    obtain ⟨⟨l1, l2, l3⟩, l4, l5, l6, l7, l8⟩ := id hL
    unfold w_X7_worthOf_l4
    rw [l5, if_neg (nI_ge (by omega) (by omega)), bd_eq, nI_1, bit_of (by omega) (by omega), cl_nI (by omega), (l7 i (by omega)).1, nI_add]
    have ih := worth_x hL hQ d (i + 1) (by omega)
    have e : ws P wo (i + 1) = ws P wo i + if P i = true then wo i else 0 := rfl
    rw [e] at ih
    by_cases g : P i = true
    · rw [if_pos g] at ih
      rw [if_pos g, if_pos rfl, bd_eq]
      exact ⟨vp_nI (by omega) (by decide), ih⟩
    · rw [if_neg g] at ih
      rw [if_neg g, if_neg (by decide)]
      exact ih
theorem worth_m {σ : Sg} {nC nP r : Nat} {sp wo : Nat → Nat} {P : Nat → Bool} {Q : Int32 → Sg → Prop} (hL : LM σ nC nP r sp wo) (hQ : Q (nI (ws P wo nP)) σ) : ∀ (d i : Nat), i + d = nP → w_X12_passes_l51 Q (nI (bN nP P)) (d + 1) (nI (ws P wo i)) (nI i) σ
  | 0, i, h => by
    obtain ⟨⟨l1, l2, l3⟩, l4, l5, l6, l7, l8⟩ := id hL
    have : i = nP := by omega
    subst this
    unfold w_X12_passes_l51
    rw [l5, if_pos (nI_le (Nat.le_refl _) (by omega))]
    exact hQ
  | d + 1, i, h => by
    obtain ⟨⟨l1, l2, l3⟩, l4, l5, l6, l7, l8⟩ := id hL
    unfold w_X12_passes_l51
    rw [l5, if_neg (nI_ge (by omega) (by omega)), nI_1, has_m, bit_of (by omega) (by omega)]
    have ih := worth_m hL hQ d (i + 1) (by omega)
    have e : ws P wo (i + 1) = ws P wo i + if P i = true then wo i else 0 := rfl
    rw [e] at ih
    by_cases g : P i = true
    · rw [if_pos g] at ih
      rw [if_pos g, if_pos rfl, bd_eq, if_neg one_ne, cl_nI (by omega), (l7 i (by omega)).1, nI_add, bd_eq]
      exact ⟨vp_nI (by omega) (by decide), ih⟩
    · rw [if_neg g] at ih
      rw [if_neg g, if_neg (by decide), bd_eq, if_pos rfl]
      exact ih
theorem passes_b {nC : Nat} {a b c : Int32} {σ : Sg} {Q : Int32 → Sg → Prop} (hn : nC ≤ 6) (e : σ.1 60 1 = nI nC) (h : ¬ (CR nC a ∧ inR b 0 60 ∧ inR c 0 1)) (hQ : Q (-1) σ) : w_X12_passes a b c σ Q := by
  unfold w_X12_passes
  refine car_m (by omega) e (fun h1 => ?_) (fun _ => by rw [if_pos rfl]; exact hQ)
  rw [if_neg one_ne]
  refine hours_m (fun h2 => ?_) (fun _ => by rw [if_pos rfl]; exact hQ)
  rw [if_neg one_ne]
  exact in_m (a := 0) (b := 1) (by decide) (by decide) (fun h3 => absurd ⟨h1, h2, h3⟩ h) (fun _ => by rw [if_pos rfl]; exact hQ)
theorem op_passes {N : Nat} {σ : Sg} (hI : Inv N σ) (hN : N < 600) (a b c : Int32) {Q : Int32 → Int32 → Sg → Prop} (hQ : ∀ r σ', Inv (N + 1) σ' → Q r r σ') : w_X11_passes a b c σ (fun r σ1 => w_X12_passes a b c σ1 (fun r' σ2 => Q r r' σ2)) := by
  obtain ⟨nC, nP, g, hB, hq, h3, hX, hM⟩ := Inv_get hI
  have hK := Inv_K hI
  obtain ⟨hn, hp, en, ep⟩ := hB.1
  have c60 := c60_x hq hB (Fx.refl σ)
  unfold w_X11_passes
  refine car_x (by omega) en (fun h1 => ?_) (fun h => by rw [if_pos rfl]; exact passes_b hn c60.1 (fun q => h q.1) (hQ _ _ (Inv_up hI)))
  rw [if_neg one_ne]
  refine within_x (a := 0) (b := 60) (by decide) (by decide) (fun h2 => ?_) (fun h => by rw [if_pos rfl]; exact passes_b hn c60.1 (fun q => h q.2.1) (hQ _ _ (Inv_up hI)))
  rw [if_neg one_ne]
  refine within_x (a := 0) (b := 1) (by decide) (by decide) (fun h3' => ?_) (fun h => by rw [if_pos rfl]; exact passes_b hn c60.1 (fun q => h q.2.2) (hQ _ _ (Inv_up hI)))
  rw [if_neg one_ne]
  obtain ⟨k, hk, rfl⟩ := id h1
  obtain ⟨n, hn60, rfl⟩ := inR_num (b := 60) h2 (by decide)
  refine follow_x hB h3 hX hk hn60 (Fx.refl σ) hK (by omega) (fun σ1 hF hK1 ht _ => ?_)
  have hL := LX_of hB hF
  have hJ : JX σ1 k n (TR g σ k) := fun t h => ⟨ht t h, TR_lt hB hk t⟩
  have c60' := c60_x hq hB hF
  have mrun : ∀ v : Int32, (∀ P, PB (vN σ 1 8) nP n (vN σ 6) (TR g σ k) = bN nP P → v = if c = 0 then nI (bN nP P) else nI (ws P (vN σ 7) nP)) → w_X12_passes (nI k) (nI n) c σ1 (fun r' σ2 => Q v r' σ2) := by
    intro v ev
    unfold w_X12_passes
    refine car_m (by omega) c60'.1 (fun _ => ?_) (fun h => absurd h1 h)
    rw [if_neg one_ne]
    refine hours_m (fun _ => ?_) (fun h => absurd h2 h)
    rw [if_neg one_ne]
    refine in_m (a := 0) (b := 1) (by decide) (by decide) (fun _ => ?_) (fun h => absurd h3' h)
    rw [if_neg one_ne]
    refine layAll_m hB hq h3 hM hF (fun σ2 hr ht2 => ?_)
    have hLm := LM_of hB hq hF hr.m
    have hI' := th_e hI hF hK1 (by omega) hr.m
    have hJm : JM σ2 k (TR g σ k) := fun t h => ⟨ht2 _ hk t h, TR_lt hB hk t⟩
    refine passed_m hLm hJm (by omega) hn60 ?_
    have ev' := ev _ rfl
    by_cases c0 : c = 0
    · rw [if_pos c0] at ev' ⊢
      rw [ev']
      exact hQ _ _ hI'
    · rw [if_neg c0] at ev' ⊢
      refine ⟨nP + 1, worth_m hLm ?_ nP 0 (by omega)⟩
      rw [ev']
      exact hQ _ _ hI'
  refine passed_x hL hJ (by omega) hn60 ?_
  rcases one_of h3' with c0 | c0
  · rw [if_pos c0]
    exact mrun _ (fun P e => by rw [if_pos c0, e])
  · rw [if_neg (by rw [c0]; decide)]
    refine ⟨nP + 1, worth_x hL ?_ nP 0 (by omega)⟩
    refine mrun _ (fun P e => ?_)
    rw [if_neg (by rw [c0]; decide)]
    have hi := bN_inj e
    have key : ∀ j, j ≤ nP → ws (fun q => anyT (fun t => nr (vN σ 1 8) (TR g σ k t / 8) (vN σ 6 q)) (n + 1)) (vN σ 7) j = ws P (vN σ 7) j := by
      intro j
      induction j with
      | zero => intro _; rfl
      | succ j ih =>
        intro hj
        show ws _ _ j + (if anyT (fun t => nr (vN σ 1 8) (TR g σ k t / 8) (vN σ 6 j)) (n + 1) = true then _ else _) = ws _ _ j + _
        rw [ih (by omega), hi j (by omega)]
    rw [key nP (Nat.le_refl _)]
