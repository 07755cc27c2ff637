/-! judge, dined -/
def ftB (v : Int32) : Bool := decide (v = -2)
theorem ftB_t {v : Int32} (h : v = -2) : ftB v = true := decide_eq_true h
theorem ftB_f {v : Int32} (h : ¬ v = -2) : ftB v = false := decide_eq_false h
theorem RX_f {σ τ : Sg} {s n : Nat} {f : Nat → Int32} (h : RX σ s n f) (g : Fx σ τ) : RX τ s n f := ⟨h.1, by rw [g.lo (by omega), h.2.1], fun i hi => by rw [g.2.2.2]; exact h.2.2 i hi⟩
theorem CoK_z {σ : Sg} {k p : Nat} {l : Nat → Nat → Int32} (h : CoK σ k p l) : True := trivial
/-- a carriage followed from a stand, held against the row -/
theorem try_x {s n nC nP k p M s0 : Nat} {l : Nat → Nat → Int32} {f : Nat → Int32} {σ τ : Sg} {Q : Int32 → Sg → Prop} (hB : Bs σ nC nP) (hR : RX σ s n f) (hk : k < nC) (hF : Fx σ τ) (hC : CoK τ k p l) (hp : p < 1000) (hK : IKb M τ) (hM : M ≤ 200000) (hs0 : s0 < 2048)
    (hQ : ∀ τ', Fx σ τ' → CoK τ' k p l → IKb M τ' → Q (wt f n nP (vN σ 1 8) (vN σ 6) (tr l p s0)) τ') : w_X6_followFrom (nI k) (nI s0) (nI (lhF f (tws n))) τ (fun σ8 => w_X5_firstWrong s (nI k) σ8 (fun r10 σ9 => Q r10 σ9)) := by
  have h6 := hB.1.1
  refine followFrom_x (by omega) hM hs0 (lhF_le f _) hp hC hK (fun σ' hz hC' hK' ht _ => ?_)
  have hF' := hF.trans (hz.x (by omega))
  exact fw_x (RX_f hR hF') (LX_of hB hF') (fun t h => ⟨ht t h, tr_lt hs0 t⟩) (by omega) (hQ σ' hF' hC' hK')
theorem ways_x {s n nC nP k p M : Nat} {l : Nat → Nat → Int32} {f : Nat → Int32} {σ : Sg} {Q : Int32 → Sg → Prop} (hB : Bs σ nC nP) (hR : RX σ s n f) (hk : k < nC) (hp : p < 1000) (hM : M ≤ 200000) (hQ : ∀ τ', Fx σ τ' → IKb M τ' → Q (nI (bN 8 (fun w => ftB (wt f n nP (vN σ 1 8) (vN σ 6) (tr l p (8 * vN σ 2 k + w)))))) τ') :
    ∀ (d w : Nat) (τ : Sg), w + d = 8 → Fx σ τ → CoK τ k p l → IKb M τ → w_X5_waysThatFit_l29 s (nI k) Q (nI (lhF f (tws n))) (d + 1) (nI (bN w (fun w => ftB (wt f n nP (vN σ 1 8) (vN σ 6) (tr l p (8 * vN σ 2 k + w)))))) (nI w) τ
  | 0, w, τ, h, hF, hC, hK => by
    have : w = 8 := by omega
    subst this
    unfold w_X5_waysThatFit_l29
    rw [if_pos (by decide)]
    exact hQ τ hF hK
  | d + 1, w, τ, h, hF, hC, hK => by
    have h6 := hB.1.1
    obtain ⟨⟨c1, c2⟩, ⟨c3, c4⟩, ⟨c5, c6, c7⟩, ⟨c8, c9⟩⟩ := hB.2.1 k hk
    unfold w_X5_waysThatFit_l29
    have e : ((8 : Int32) * nI (vN σ 2 k)) + nI w = nI (8 * vN σ 2 k + w) := by rw [show (8 : Int32) = nI 8 from rfl, pk_mul, nI_add]
    rw [if_neg (show ¬ (8 : Int32) ≤ nI w from nI_ge (b := 8) (by omega) (by decide)), cl_nI (by omega), hF.lo (c := 2) (by omega), c1, e, nI_1]
    refine ⟨vp_nI (by omega) (by decide), ?_⟩
    refine try_x hB hR hk hF hC hp hK hM (by omega) (fun τ' hF' hC' hK' => ?_)
    rw [bd_eq]
    have ih := ways_x (l := l) hB hR hk hp hM hQ d (w + 1) τ' (by omega) hF' hC' hK'
    by_cases g : wt f n nP (vN σ 1 8) (vN σ 6) (tr l p (8 * vN σ 2 k + w)) = -2
    · rw [if_pos g, bd_eq, bN_set (P := fun w => ftB (wt f n nP (vN σ 1 8) (vN σ 6) (tr l p (8 * vN σ 2 k + w)))) (by omega) (ftB_t g)]
      exact ih
    · rw [if_neg g]
      rw [bN_not (ftB_f g)] at ih
      exact ih
theorem paces_x {s n nC nP k M : Nat} {g : Int32 → Int32 → Int32 → Int32 → Int32 → Int32 → Int32} {f : Nat → Int32} {σ : Sg} {Q : Int32 → Sg → Prop} (hB : Bs σ nC nP) (h3 : G3 g) (hX : XL σ g) (hR : RX σ s n f) (hk : k < nC) (hM : M + 4 ≤ 90000) (hQ : ∀ τ', Fx σ τ' → IKb (M + 4) τ' → Q (nI (bN 5 (fun p => decide (1 ≤ p) && ftB (wt f n nP (vN σ 1 8) (vN σ 6) (tr (lP g σ k p) p (stN σ k)))))) τ') :
    ∀ (d p : Nat) (τ : Sg), p + d = 5 → 1 ≤ p → Fx σ τ → IKb (M + (p - 1)) τ → w_X5_pacesThatFit_l11 s (nI k) Q (nI (lhF f (tws n))) (d + 1) (nI (bN p (fun p => decide (1 ≤ p) && ftB (wt f n nP (vN σ 1 8) (vN σ 6) (tr (lP g σ k p) p (stN σ k)))))) (nI p) τ
  | 0, p, τ, h, h1, hF, hK => by
    have : p = 5 := by omega
    subst this
    unfold w_X5_pacesThatFit_l11
    rw [if_pos (by decide)]
    exact hQ τ hF hK
  | d + 1, p, τ, h, h1, hF, hK => by
    have h6 := hB.1.1
    obtain ⟨⟨c1, c2⟩, ⟨c3, c4⟩, ⟨c5, c6, c7⟩, ⟨c8, c9⟩⟩ := hB.2.1 k hk
    unfold w_X5_pacesThatFit_l11
    rw [if_neg (show ¬ (4 : Int32) < nI p from nI_nlt (a := 4) (by omega) (by decide)), cl_nI (by omega), nI_1]
    refine ⟨vp_nI (by omega) (by decide), start_x (by omega) h3 (XL_c hX (hF.lo (by omega)) hF.2.1) (by rw [hF.lo (c := 5) (by omega), c8]) c9 (by rw [hF.lo (c := 1) (by omega), hB.2.2.2.2.1]) hB.2.2.2.2.2 hK (by omega) (fun τ1 hs hC hK1 => ?_)⟩
    rw [hF.lo (c := 1) (by omega)] at hC
    refine ⟨vp_nI (by omega) (by decide), stand_x (by omega) hC.1.1 (by rw [hs.1 2 (by omega), hF.lo (c := 2) (by omega), c1]) (by rw [hs.1 3 (by omega), hF.lo (c := 3) (by omega), c3]) ?_⟩
    refine try_x hB hR hk (hF.trans (hs.x (by omega))) hC (by omega) hK1 (by omega) (stN_lt hB hk) (fun τ' hF' hC' hK' => ?_)
    rw [bd_eq]
    have ih := paces_x hB h3 hX hR hk hM hQ d (p + 1) τ' (by omega) (by omega) hF' (by rw [show M + (p + 1 - 1) = M + (p - 1) + 1 by omega]; exact hK')
    have et : decide (1 ≤ p) = true := decide_eq_true h1
    by_cases q : wt f n nP (vN σ 1 8) (vN σ 6) (tr (lw g (σ.1 1 9) (vN σ 5 k) (vN σ 1 10) k p) p (8 * vN σ 2 k + vN σ 3 k)) = -2
    · rw [if_pos q, bd_eq, bN_set (P := fun p => decide (1 ≤ p) && ftB (wt f n nP (vN σ 1 8) (vN σ 6) (tr (lP g σ k p) p (stN σ k)))) (by omega) (by show (decide (1 ≤ p) && ftB _) = true; rw [et]; exact ftB_t q)]
      exact ih
    · rw [if_neg q]
      rw [bN_not (by show (decide (1 ≤ p) && ftB _) = false; rw [et]; exact ftB_f q)] at ih
      exact ih
theorem cellsN_x {s n nC nP k p M : Nat} {l : Nat → Nat → Int32} {f : Nat → Int32} {σ : Sg} {c0 : Int32} {Q J : Int32 → Sg → Prop} (hB : Bs σ nC nP) (hR : RX σ s n f) (hk : k < nC) (hp : p < 1000) (hM : M ≤ 200000) :
    ∀ (d c : Nat) (τ : Sg), c + d = 256 → Fx σ τ → CoK τ k p l → IKb M τ →
    (∀ τ', Fx σ τ' → IKb M τ' → (c0 = 0 → J (nI (cnt (fun c => ftB (wt f n nP (vN σ 1 8) (vN σ 6) (tr l p (8 * c + vN σ 3 k)))) 256)) τ') ∧ (¬ c0 = 0 → (ff (fun c => ftB (wt f n nP (vN σ 1 8) (vN σ 6) (tr l p (8 * c + vN σ 3 k)))) d c = -2 → ∀ v, J v τ') ∧ (¬ ff (fun c => ftB (wt f n nP (vN σ 1 8) (vN σ 6) (tr l p (8 * c + vN σ 3 k)))) d c = -2 → Q (ff (fun c => ftB (wt f n nP (vN σ 1 8) (vN σ 6) (tr l p (8 * c + vN σ 3 k)))) d c) τ'))) →
    w_X5_cellsThatFit_l30 s (nI k) c0 Q (nI (lhF f (tws n))) J (d + 1) (nI (cnt (fun c => ftB (wt f n nP (vN σ 1 8) (vN σ 6) (tr l p (8 * c + vN σ 3 k)))) c)) (nI c) τ
  | 0, c, τ, h, hF, hC, hK, hQ => by
    have : c = 256 := by omega
    subst this
    unfold w_X5_cellsThatFit_l30
    rw [if_pos (by decide)]
    obtain ⟨q1, q2⟩ := hQ τ hF hK
    by_cases g : c0 = 0
    · exact q1 g
    · exact (q2 g).1 rfl _
  | d + 1, c, τ, h, hF, hC, hK, hQ => by
    have h6 := hB.1.1
    obtain ⟨⟨c1, c2⟩, ⟨c3, c4⟩, ⟨c5, c6, c7⟩, ⟨c8, c9⟩⟩ := hB.2.1 k hk
    have hcn := cnt_le (fun c => ftB (wt f n nP (vN σ 1 8) (vN σ 6) (tr l p (8 * c + vN σ 3 k)))) c
    unfold w_X5_cellsThatFit_l30
    have e : ((8 : Int32) * nI c) + nI (vN σ 3 k) = nI (8 * c + vN σ 3 k) := by rw [show (8 : Int32) = nI 8 from rfl, pk_mul, nI_add]
    rw [if_neg (show ¬ (256 : Int32) ≤ nI c from nI_ge (b := 256) (by omega) (by decide)), cl_nI (by omega), hF.lo (c := 3) (by omega), c3, e, nI_1]
    refine ⟨vp_nI (by omega) (by decide), ?_⟩
    refine try_x hB hR hk hF hC hp hK hM (by omega) (fun τ' hF' hC' hK' => ?_)
    rw [bd_eq, nI_1]
    have e1 : cnt (fun c => ftB (wt f n nP (vN σ 1 8) (vN σ 6) (tr l p (8 * c + vN σ 3 k)))) (c + 1) = cnt (fun c => ftB (wt f n nP (vN σ 1 8) (vN σ 6) (tr l p (8 * c + vN σ 3 k)))) c + if ftB (wt f n nP (vN σ 1 8) (vN σ 6) (tr l p (8 * c + vN σ 3 k))) = true then 1 else 0 := rfl
    have e2 : ff (fun c => ftB (wt f n nP (vN σ 1 8) (vN σ 6) (tr l p (8 * c + vN σ 3 k)))) (d + 1) c = if ftB (wt f n nP (vN σ 1 8) (vN σ 6) (tr l p (8 * c + vN σ 3 k))) = true then nI c else ff (fun c => ftB (wt f n nP (vN σ 1 8) (vN σ 6) (tr l p (8 * c + vN σ 3 k)))) d (c + 1) := rfl
    by_cases g : wt f n nP (vN σ 1 8) (vN σ 6) (tr l p (8 * c + vN σ 3 k)) = -2
    · rw [if_pos g]
      by_cases g0 : c0 = 0
      · rw [if_pos g0]
        have ih := cellsN_x (c0 := c0) (Q := Q) (J := J) (l := l) hB hR hk hp hM d (c + 1) τ' (by omega) hF' hC' hK' (fun τ'' a b => ⟨(hQ τ'' a b).1, fun q => absurd g0 q⟩)
        rw [e1, if_pos (ftB_t g)] at ih
        exact ih
      · rw [if_neg g0]
        have := ((hQ τ' hF' hK').2 g0).2
        rw [e2, if_pos (ftB_t g)] at this
        exact this (fun q => by have := congrArg Int32.toInt q; rw [nI_toInt (by omega), show (-2 : Int32).toInt = -2 by decide] at this; omega)
    · rw [if_neg g]
      have ih := cellsN_x (c0 := c0) (Q := Q) (J := J) (l := l) hB hR hk hp hM d (c + 1) τ' (by omega) hF' hC' hK' (fun τ'' a b => by
        have := hQ τ'' a b
        rw [e2, if_neg (by rw [ftB_f g]; decide)] at this
        exact this)
      rw [e1, if_neg (by rw [ftB_f g]; decide)] at ih
      exact ih
/-! the reference's: one number of a carriage is another for a while -/
def Fdn (c k : Nat) (σ τ : Sg) : Prop := (∀ x, x ≠ 60 → x ≠ 78 → x ≠ 79 → x ≠ 80 → x ≠ c → τ.1 x = σ.1 x) ∧ (∀ i, i ≠ 30 → i ≠ 31 → i ≠ 32 → τ.1 60 i = σ.1 60 i) ∧ τ.2 = σ.2 ∧ (∀ j, j ≠ k → τ.1 c j = σ.1 c j)
theorem Fdn.refl (c k : Nat) (σ : Sg) : Fdn c k σ σ := ⟨fun _ _ _ _ _ _ => rfl, fun _ _ _ _ => rfl, rfl, fun _ _ => rfl⟩
theorem Fdn.set {c k : Nat} {σ τ : Sg} {v : Int32} (h : Fdn c k σ τ) (hc : c ≠ 60) : Fdn c k σ (sI τ c k v) := ⟨fun x a b d e f => by rw [rd_ne f, h.1 x a b d e f], fun i a b d => by rw [rd_ne (Ne.symm hc), h.2.1 i a b d], by rw [rd_2, h.2.2.1], fun j hj => by rw [rd_in, if_neg hj, h.2.2.2 j hj]⟩
theorem Fdn.r {c k : Nat} {σ τ υ : Sg} (h : Fdn c k σ τ) (hc : 60 < c ∧ c < 64) (g : Fr τ υ) : Fdn c k σ υ := ⟨fun x a b d e f => by rw [g.1 x a b d e, h.1 x a b d e f], fun i a b d => by rw [g.2.1 i a b d, h.2.1 i a b d], by rw [g.2.2, h.2.2.1], fun j hj => by rw [g.1 c (by omega) (by omega) (by omega) (by omega), h.2.2.2 j hj]⟩
theorem Fdn.back {c k : Nat} {σ τ : Sg} (h : Fdn c k σ τ) (hc : c ≠ 60) : Fr σ (sI τ c k (σ.1 c k)) := ⟨fun x a b d e => by
  by_cases ex : x = c
  · subst ex
    funext j
    rw [rd_in]
    by_cases ej : j = k
    · rw [if_pos ej, ej]
    · rw [if_neg ej, h.2.2.2 j ej]
  · rw [rd_ne ex, h.1 x a b d e ex], fun i a b d => by rw [rd_ne (Ne.symm hc), h.2.1 i a b d], by rw [rd_2, h.2.2.1]⟩
theorem Fdn.lm {c k : Nat} {σ τ : Sg} {nC nP r : Nat} {sp wo : Nat → Nat} (h : LM σ nC nP r sp wo) (f : Fdn c k σ τ) (hc : 60 < c ∧ c < 64) : LM τ nC nP r sp wo := by
  obtain ⟨l0, l4, l5, l6, l7, l8⟩ := h
  exact ⟨l0, by rw [f.2.1 1 (by decide) (by decide) (by decide), l4], by rw [f.2.1 6 (by decide) (by decide) (by decide), l5], fun q hq => by rw [f.1 65 (by decide) (by decide) (by decide) (by decide) (by omega)]; exact l6 q hq, fun q hq => by rw [f.1 66 (by decide) (by decide) (by decide) (by decide) (by omega)]; exact l7 q hq, by rw [f.1 67 (by decide) (by decide) (by decide) (by decide) (by omega), l8]⟩
theorem Fdn.rm {c k : Nat} {σ τ : Sg} {s n : Nat} {f : Nat → Int32} (h : RM σ s n f) (g : Fdn c k σ τ) (hc : 60 < c ∧ c < 64) : RM τ s n f := ⟨h.1, by rw [g.1 92 (by decide) (by decide) (by decide) (by decide) (by omega), h.2.1], fun i hi => by rw [g.2.2.1]; exact h.2.2 i hi⟩
theorem Fdn.law {c k : Nat} {σ τ : Sg} (f : Fdn c k σ τ) (hc : 60 < c ∧ c < 64) : sameLaw σ τ := sameLaw_of (f.1 73 (by decide) (by decide) (by decide) (by decide) (by omega)) (f.1 74 (by decide) (by decide) (by decide) (by decide) (by omega)) (f.1 75 (by decide) (by decide) (by decide) (by decide) (by omega)) (f.1 76 (by decide) (by decide) (by decide) (by decide) (by omega)) (f.1 77 (by decide) (by decide) (by decide) (by decide) (by omega)) (f.2.1 29 (by decide) (by decide) (by decide))
theorem Fdn.gm {c k p : Nat} {l : Nat → Nat → Int32} {σ τ : Sg} (h : GM σ k p l) (f : Fdn c k σ τ) (hc : 60 < c ∧ c < 63) : GM τ k p l := GM_c h (f.law (by omega)) (by rw [f.1 63 (by decide) (by decide) (by decide) (by decide) (by omega)]) (by rw [f.1 64 (by decide) (by decide) (by decide) (by decide) (by omega)]) (f.1 67 (by decide) (by decide) (by decide) (by decide) (by omega))
theorem ways_m {s n nC nP r k p c : Nat} {l : Nat → Nat → Int32} {f : Nat → Int32} {sp wo : Nat → Nat} {σ : Sg} {J : Int32 → Sg → Prop} (hs : s < 6) (hk : k < 6) (h : RM σ s n f) (hL : LM σ nC nP r sp wo) (hG : GM σ k p l) (hp : p < 1000) (h61 : σ.1 61 k = nI c) (hc : c < 256)
    (hJ : ∀ τ', Fdn 62 k σ τ' → J (nI (bN 8 (fun w => ftB (wt f n nP r sp (tr l p (8 * c + w)))))) τ') : ∀ (d w : Nat) (τ : Sg), w + d = 8 → Fdn 62 k σ τ → w_X12_dinedWays_l13 (nI s) (nI k) J (d + 1) (nI (bN w (fun w => ftB (wt f n nP r sp (tr l p (8 * c + w)))))) (nI w) τ
  | 0, w, τ, hd, hF => by
    have : w = 8 := by omega
    subst this
    unfold w_X12_dinedWays_l13
    rw [if_pos (by decide)]
    exact hJ τ hF
  | d + 1, w, τ, hd, hF => by
    unfold w_X12_dinedWays_l13
    rw [if_neg (show ¬ (8 : Int32) ≤ nI w from nI_ge (b := 8) (by omega) (by decide)), cl_nI (by omega), bd_eq, nI_1]
    refine ⟨vp_nI hk (by decide), ?_⟩
    have hF1 := hF.set (v := nI w) (show (62 : Nat) ≠ 60 by decide)
    refine wrong_m (c := c) (w := w) hs hk (Fdn.rm h hF1 (by decide)) (Fdn.lm hL hF1 (by decide)) (Fdn.gm hG hF1 (by decide)) hp (by rw [hF1.1 61 (by decide) (by decide) (by decide) (by decide) (by decide), h61]) (by rw [rd_in, if_pos rfl]) hc (by omega) (fun τ' hr => ?_)
    rw [bd_eq]
    have hF2 := hF1.r (by decide) hr
    have ih := ways_m hs hk h hL hG hp h61 hc hJ d (w + 1) τ' (by omega) hF2
    by_cases g : wt f n nP r sp (tr l p (8 * c + w)) = -2
    · rw [if_neg (wt_a g).1, bd_eq, bN_set (P := fun w => ftB (wt f n nP r sp (tr l p (8 * c + w)))) (by omega) (ftB_t g)]
      exact ih
    · rw [if_pos (wt_b g).1]
      rw [bN_not (ftB_f g)] at ih
      exact ih
theorem paces_m {s n nC nP k : Nat} {g : Int32 → Int32 → Int32 → Int32 → Int32 → Int32 → Int32} {f : Nat → Int32} {σ0 σ : Sg} {J : Int32 → Sg → Prop} (hs : s < 6) (hB : Bs σ0 nC nP) (hq : Mq σ0) (h3 : G3 g) (hM : ML σ0 g) (hF0 : Fx σ0 σ) (hk : k < nC) (h : RM σ s n f)
    (hJ : ∀ τ', Fdn 63 k σ τ' → J (nI (bN 5 (fun p => decide (1 ≤ p) && ftB (wt f n nP (vN σ0 1 8) (vN σ0 6) (tr (lP g σ0 k p) p (stN σ0 k)))))) τ') : ∀ (d p : Nat) (τ : Sg), p + d = 5 → 1 ≤ p → Fdn 63 k σ τ → w_X12_dinedPaces_l13 (nI s) (nI k) J (d + 1) (nI (bN p (fun p => decide (1 ≤ p) && ftB (wt f n nP (vN σ0 1 8) (vN σ0 6) (tr (lP g σ0 k p) p (stN σ0 k)))))) (nI p) τ
  | 0, p, τ, hd, h1, hF => by
    have : p = 5 := by omega
    subst this
    unfold w_X12_dinedPaces_l13
    rw [if_pos (by decide)]
    exact hJ τ hF
  | d + 1, p, τ, hd, h1, hF => by
    have h6 := hB.1.1
    obtain ⟨⟨c1, c2⟩, ⟨c3, c4⟩, ⟨c5, c6, c7⟩, ⟨c8, c9⟩⟩ := hB.2.1 k hk
    unfold w_X12_dinedPaces_l13
    rw [if_neg (show ¬ (5 : Int32) ≤ nI p from nI_ge (b := 5) (by omega) (by decide)), cl_nI (by omega), bd_eq, nI_1]
    refine ⟨vp_nI (by omega) (by decide), ?_⟩
    have hF1 := hF.set (v := nI p) (show (63 : Nat) ≠ 60 by decide)
    have ex : ∀ x, x = 61 ∨ x = 62 ∨ x = 64 ∨ x = 67 → (sI τ 63 k (nI p)).1 x = σ0.1 x := fun x hx => by rw [hF1.1 x (by omega) (by omega) (by omega) (by omega) (by omega), hF0.lo (by omega)]
    have hG : GM (sI τ 63 k (nI p)) k p (lP g σ0 k p) := by
      refine ⟨fun t w => lw_3 h3 t w, g, vN σ0 5 k, vN σ0 1 10, ML_c hM ?_, by rw [rd_in, if_pos rfl], by rw [ex 64 (by omega), hq.1.2.2.2.1, c8], c9, by rw [ex 67 (by omega), hq.2.2.2.2.2, hB.2.2.2.2.1], hB.2.2.2.2.2, by rw [ex 67 (by omega), hq.2.2.2.2.1]; rfl⟩
      exact (sameLaw_of (hF0.lo (by omega)) (hF0.lo (by omega)) (hF0.lo (by omega)) (hF0.lo (by omega)) (hF0.lo (by omega)) (by rw [hF0.lo (by omega)])).trans (hF1.law (by decide))
    refine wrong_m (c := vN σ0 2 k) (w := vN σ0 3 k) hs (by omega) (Fdn.rm h hF1 (by decide)) (Fdn.lm (LM_of hB hq hF0 (Fm.refl σ)) hF1 (by decide)) hG (by omega) (by rw [ex 61 (by omega), hq.1.1, c1]) (by rw [ex 62 (by omega), hq.1.2.1, c3]) c2 c4 (fun τ' hr => ?_)
    rw [bd_eq]
    have hF2 := hF1.r (by decide) hr
    have ih := paces_m hs hB hq h3 hM hF0 hk h hJ d (p + 1) τ' (by omega) (by omega) hF2
    have et : decide (1 ≤ p) = true := decide_eq_true h1
    by_cases q : wt f n nP (vN σ0 1 8) (vN σ0 6) (tr (lP g σ0 k p) p (8 * vN σ0 2 k + vN σ0 3 k)) = -2
    · rw [if_neg (wt_a q).1, bd_eq, bN_set (P := fun p => decide (1 ≤ p) && ftB (wt f n nP (vN σ0 1 8) (vN σ0 6) (tr (lP g σ0 k p) p (stN σ0 k)))) (by omega) (by show (decide (1 ≤ p) && ftB _) = true; rw [et]; exact ftB_t q)]
      exact ih
    · rw [if_pos (wt_b q).1]
      rw [bN_not (by show (decide (1 ≤ p) && ftB _) = false; rw [et]; exact ftB_f q)] at ih
      exact ih
/-- the first that fits, counted on -/
def fN1 (F : Nat → Bool) : Nat → Int32
  | 0 => -2
  | i + 1 => if cnt F i = 0 ∧ F i = true then nI i else fN1 F i
theorem fN1_ff (F : Nat → Bool) : ∀ d i, (cnt F i = 0 → fN1 F i = -2) → (cnt F i = 0 → fN1 F (i + d) = ff F d i) ∧ (cnt F i ≠ 0 → fN1 F (i + d) = fN1 F i)
  | 0, i, h => ⟨fun q => h q, fun _ => rfl⟩
  | d + 1, i, h => by
    have e1 : fN1 F (i + 1) = if cnt F i = 0 ∧ F i = true then nI i else fN1 F i := rfl
    have e2 : cnt F (i + 1) = cnt F i + if F i = true then 1 else 0 := rfl
    have e3 : ff F (d + 1) i = if F i = true then nI i else ff F d (i + 1) := rfl
    have ih := fN1_ff F d (i + 1) (fun q => by
      rw [e2] at q
      have q1 : cnt F i = 0 := by omega
      have q2 : ¬ F i = true := fun z => by rw [if_pos z] at q; omega
      rw [e1, if_neg (fun z => q2 z.2)]
      exact h q1)
    rw [show i + (d + 1) = i + 1 + d by omega, e3]
    constructor
    · intro q
      by_cases z : F i = true
      · rw [if_pos z, ih.2 (by rw [e2, if_pos z]; omega), e1, if_pos ⟨q, z⟩]
      · rw [if_neg z, ih.1 (by rw [e2, if_neg z]; omega)]
    · intro q
      rw [ih.2 (by rw [e2]; omega), e1, if_neg (fun z => q z.1)]
theorem fN1_all (F : Nat → Bool) : fN1 F 256 = ff F 256 0 := by
  have := (fN1_ff F 256 0 (fun _ => rfl)).1 rfl
  rw [Nat.zero_add] at this
  exact this
theorem cells_m {s n nC nP r k p w : Nat} {l : Nat → Nat → Int32} {f : Nat → Int32} {sp wo : Nat → Nat} {σ : Sg} {J : Int32 → Int32 → Sg → Prop} (hs : s < 6) (hk : k < 6) (h : RM σ s n f) (hL : LM σ nC nP r sp wo) (hG : GM σ k p l) (hp : p < 1000) (h62 : σ.1 62 k = nI w) (hw : w < 8)
    (hJ : ∀ τ', Fdn 61 k σ τ' → J (nI (cnt (fun c => ftB (wt f n nP r sp (tr l p (8 * c + w)))) 256)) (fN1 (fun c => ftB (wt f n nP r sp (tr l p (8 * c + w)))) 256) τ') : ∀ (d c : Nat) (τ : Sg), c + d = 256 → Fdn 61 k σ τ → w_X12_dinedFrom_l18 (nI s) (nI k) J (d + 1) (nI (cnt (fun c => ftB (wt f n nP r sp (tr l p (8 * c + w)))) c)) (fN1 (fun c => ftB (wt f n nP r sp (tr l p (8 * c + w)))) c) (nI c) τ
  | 0, c, τ, hd, hF => by
    have : c = 256 := by omega
    subst this
    unfold w_X12_dinedFrom_l18
    rw [if_pos (by decide)]
    exact hJ τ hF
  | d + 1, c, τ, hd, hF => by
    have hcn := cnt_le (fun c => ftB (wt f n nP r sp (tr l p (8 * c + w)))) c
    unfold w_X12_dinedFrom_l18
    rw [if_neg (show ¬ (256 : Int32) ≤ nI c from nI_ge (b := 256) (by omega) (by decide)), cl_nI (by omega), bd_eq, nI_1, nI_1]
    refine ⟨vp_nI hk (by decide), ?_⟩
    have hF1 := hF.set (v := nI c) (show (61 : Nat) ≠ 60 by decide)
    refine wrong_m (c := c) (w := w) hs hk (Fdn.rm h hF1 (by decide)) (Fdn.lm hL hF1 (by decide)) (Fdn.gm hG hF1 (by decide)) hp (by rw [rd_in, if_pos rfl]) (by rw [hF1.1 62 (by decide) (by decide) (by decide) (by decide) (by decide), h62]) (by omega) hw (fun τ' hr => ?_)
    rw [bd_eq]
    have hF2 := hF1.r (by decide) hr
    have ih := cells_m hs hk h hL hG hp h62 hw hJ d (c + 1) τ' (by omega) hF2
    have e1 : fN1 (fun c => ftB (wt f n nP r sp (tr l p (8 * c + w)))) (c + 1) = if cnt (fun c => ftB (wt f n nP r sp (tr l p (8 * c + w)))) c = 0 ∧ ftB (wt f n nP r sp (tr l p (8 * c + w))) = true then nI c else fN1 (fun c => ftB (wt f n nP r sp (tr l p (8 * c + w)))) c := rfl
    have e2 : cnt (fun c => ftB (wt f n nP r sp (tr l p (8 * c + w)))) (c + 1) = cnt (fun c => ftB (wt f n nP r sp (tr l p (8 * c + w)))) c + if ftB (wt f n nP r sp (tr l p (8 * c + w))) = true then 1 else 0 := rfl
    rw [e1, e2] at ih
    by_cases g : wt f n nP r sp (tr l p (8 * c + w)) = -2
    · rw [if_pos (wt_a g).2, bd_eq]
      rw [if_pos (ftB_t g)] at ih
      by_cases g0 : cnt (fun c => ftB (wt f n nP r sp (tr l p (8 * c + w)))) c = 0
      · rw [if_pos ⟨g0, ftB_t g⟩] at ih
        rw [if_pos (show nI (cnt (fun c => ftB (wt f n nP r sp (tr l p (8 * c + w)))) c) = 0 by rw [g0]; rfl)]
        exact ih
      · rw [if_neg (fun z => g0 z.1)] at ih
        rw [if_neg (show ¬ nI (cnt (fun c => ftB (wt f n nP r sp (tr l p (8 * c + w)))) c) = 0 from nI_ne0 (by omega) (by omega))]
        exact ih
    · rw [if_neg (wt_b g).2]
      rw [ftB_f g, if_neg (by decide), if_neg (fun z => absurd z.2 (by decide))] at ih
      exact ih
