/-! dined: a row of twos, held against where a carriage is -/
def okB (f : Nat → Int32) (n nP r : Nat) (sp S : Nat → Nat) (i : Nat) : Bool := decide (2 * i + 1 < n) && decide (0 ≤ (f (2 * i)).toInt ∧ (f (2 * i)).toInt ≤ 60) && decide (0 ≤ (f (2 * i + 1)).toInt ∧ (f (2 * i + 1)).toInt < nP) && nr r (S (f (2 * i)).toInt.toNat / 8) (sp (f (2 * i + 1)).toInt.toNat)
def fwB (ok : Nat → Bool) : Nat → Nat → Int32
  | 0, _ => -2
  | d + 1, i => if ok i = true then fwB ok d (i + 1) else nI i
def tws (n : Nat) : Nat := min 20 ((n + 1) / 2)
def wt (f : Nat → Int32) (n nP r : Nat) (sp S : Nat → Nat) : Int32 := fwB (okB f n nP r sp S) (tws n) 0
/-- the four tests of a two, in their order -/
theorem okB_e {f : Nat → Int32} {n nP r t p : Nat} {sp S : Nat → Nat} {i : Nat} (h1 : 2 * i + 1 < n) (h2 : f (2 * i) = nI t) (h3 : t ≤ 60) (h4 : f (2 * i + 1) = nI p) (h5 : p < nP) (hp : nP ≤ 8) : okB f n nP r sp S i = nr r (S t / 8) (sp p) := by
  unfold okB
  have e1 : (nI t).toInt = t := nI_toInt (by omega)
  have e2 : (nI p).toInt = p := nI_toInt (by omega)
  rw [h2, h4, e1, e2, decide_eq_true h1, decide_eq_true (show 0 ≤ (t : Int) ∧ (t : Int) ≤ 60 by omega), decide_eq_true (show 0 ≤ (p : Int) ∧ (p : Int) < nP by omega), Bool.true_and, Bool.true_and, Bool.true_and, Int.toNat_natCast, Int.toNat_natCast]
theorem okB_n1 {f : Nat → Int32} {n nP r : Nat} {sp S : Nat → Nat} {i : Nat} (h : ¬ 2 * i + 1 < n) : okB f n nP r sp S i = false := by
  unfold okB
  rw [decide_eq_false h]; rfl
theorem okB_n2 {f : Nat → Int32} {n nP r : Nat} {sp S : Nat → Nat} {i : Nat} (h : ¬ inR (f (2 * i)) 0 60) : okB f n nP r sp S i = false := by
  unfold okB
  rw [decide_eq_false (show ¬ (0 ≤ (f (2 * i)).toInt ∧ (f (2 * i)).toInt ≤ 60) from h), Bool.and_false, Bool.false_and, Bool.false_and]
theorem okB_n3 {f : Nat → Int32} {n nP r : Nat} {sp S : Nat → Nat} {i : Nat} (hp : nP ≤ 8) (h : ¬ CR nP (f (2 * i + 1))) : okB f n nP r sp S i = false := by
  unfold okB
  rw [decide_eq_false (show ¬ (0 ≤ (f (2 * i + 1)).toInt ∧ (f (2 * i + 1)).toInt < nP) from fun q => h ⟨(f (2 * i + 1)).toInt.toNat, by omega, toInt_nat (by omega) (by omega)⟩), Bool.and_false, Bool.false_and]
/-- the row as the class holds it -/
def RX (σ : Sg) (s n : Nat) (f : Nat → Int32) : Prop := n ≤ 60 ∧ σ.1 (45 + 2 * s) 2 = nI n ∧ ∀ i, i < 60 → Int64.toInt32 (σ.2 (46 + 2 * s) i) = f i
def RM (σ : Sg) (s n : Nat) (f : Nat → Int32) : Prop := n ≤ 60 ∧ σ.1 92 s = nI n ∧ ∀ i, i < 60 → Int64.toInt32 (σ.2 93 (60 * s + i)) = f i
/-- the last hour that a row asks for -/
def lhF (f : Nat → Int32) : Nat → Nat
  | 0 => 0
  | i + 1 => if (lhF f i : Int) < (f (2 * i)).toInt ∧ (f (2 * i)).toInt ≤ 60 then (f (2 * i)).toInt.toNat else lhF f i
theorem lhF_le (f : Nat → Int32) : ∀ i, lhF f i ≤ 60
  | 0 => Nat.zero_le _
  | i + 1 => by
    have := lhF_le f i
    rw [show lhF f (i + 1) = if (lhF f i : Int) < (f (2 * i)).toInt ∧ (f (2 * i)).toInt ≤ 60 then (f (2 * i)).toInt.toNat else lhF f i from rfl]
    split <;> omega
theorem lhF_ge (f : Nat → Int32) : ∀ i j, j < i → (f (2 * j)).toInt ≤ 60 → (f (2 * j)).toInt ≤ lhF f i
  | 0, j, h, _ => by omega
  | i + 1, j, h, h2 => by
    rw [show lhF f (i + 1) = if (lhF f i : Int) < (f (2 * i)).toInt ∧ (f (2 * i)).toInt ≤ 60 then (f (2 * i)).toInt.toNat else lhF f i from rfl]
    by_cases e : j = i
    · subst e
      split <;> omega
    · have := lhF_ge f i j (by omega) h2
      split <;> omega
theorem two_i {i : Nat} : (2 : Int32) * nI i = nI (2 * i) := by rw [show (2 : Int32) = nI 2 from rfl, pk_mul]
theorem twos_x {s n : Nat} {f : Nat → Int32} {σ : Sg} {Q : Int32 → Sg → Prop} (h : RX σ s n f) : w_X5_twosOf s σ Q = Q (nI (tws n)) σ := by
  obtain ⟨h1, h2, h3⟩ := h
  unfold w_X5_twosOf
  have e : nI (n + 1) / (2 : Int32) = nI ((n + 1) / 2) := pk_div (d := 2) (by omega) (by decide) (by decide)
  rw [h2, nI_1, e, show (20 : Int32) = nI 20 from rfl, imin_n (by decide) (by omega)]
  rfl
theorem last_l {s n : Nat} {f : Nat → Int32} {σ : Sg} {Q : Int32 → Sg → Prop} (h : RX σ s n f) (hQ : Q (nI (lhF f (tws n))) σ) : ∀ (d i : Nat), i + d = tws n → w_X5_lastHour_l9 s Q (nI (tws n)) (d + 1) (nI (lhF f i)) (nI i) σ
  | 0, i, hd => by
    have : i = tws n := by omega
    subst this
    have h20 : tws n ≤ 20 := Nat.min_le_left _ _
    unfold w_X5_lastHour_l9
    rw [if_pos (nI_le (Nat.le_refl _) (by omega))]
    exact hQ
  | d + 1, i, hd => by
    have h20 : tws n ≤ 20 := Nat.min_le_left _ _
    have hle := lhF_le f i
    have ih := last_l h hQ d (i + 1) (by omega)
    unfold w_X5_lastHour_l9
    rw [if_neg (nI_ge (by omega) (by omega)), two_i, cl_nI (by omega), h.2.2 (2 * i) (by omega), bd_eq, bd_eq, nI_1]
    refine ⟨vp_nI (by omega) (by decide), ?_⟩
    rw [show lhF f (i + 1) = if (lhF f i : Int) < (f (2 * i)).toInt ∧ (f (2 * i)).toInt ≤ 60 then (f (2 * i)).toInt.toNat else lhF f i from rfl] at ih
    by_cases g1 : f (2 * i) ≤ nI (lhF f i)
    · rw [i32_le, nI_toInt (by omega)] at g1
      rw [if_neg (by omega)] at ih
      rw [if_pos (by rw [i32_le, nI_toInt (by omega)]; exact g1)]
      exact ih
    · rw [if_neg g1]
      rw [i32_le, nI_toInt (by omega)] at g1
      by_cases g2 : (60 : Int32) < f (2 * i)
      · rw [if_pos g2]
        rw [i32_lt, show (60 : Int32).toInt = 60 by decide] at g2
        rw [if_neg (by omega)] at ih
        exact ih
      · rw [if_neg g2]
        rw [i32_lt, show (60 : Int32).toInt = 60 by decide] at g2
        rw [if_pos (by omega)] at ih
        have e : nI (f (2 * i)).toInt.toNat = f (2 * i) := (toInt_nat (by omega) (by omega)).symm
        rw [e] at ih
        exact ih
theorem last_x {s n : Nat} {f : Nat → Int32} {σ : Sg} {Q : Int32 → Sg → Prop} (h : RX σ s n f) (hQ : Q (nI (lhF f (tws n))) σ) : w_X5_lastHour s σ Q := by
  unfold w_X5_lastHour
  rw [twos_x h]
  exact ⟨tws n + 1, last_l h hQ (tws n) 0 (by omega)⟩
theorem isSo_x {s n nC nP r k i : Nat} {f : Nat → Int32} {sp wo S : Nat → Nat} {σ : Sg} {Q : Int32 → Sg → Prop} (h : RX σ s n f) (hL : LX σ nC nP r sp wo) (hJ : JX σ k (lhF f (tws n)) S) (hk : k < 6) (hi : i < tws n) (hQ : Q (if okB f n nP r sp S i = true then 1 else 0) σ) : w_X5_isSo s (nI i) (nI k) σ Q := by
  obtain ⟨⟨l1, l2, l3⟩, l4, l5, l6, l7, l8⟩ := id hL
  have h20 : tws n ≤ 20 := Nat.min_le_left _ _
  have hn := h.1
  have hlh := lhF_le f (tws n)
  unfold w_X5_isSo
  rw [two_i, nI_1, h.2.1]
  by_cases g1 : 2 * i + 1 < n
  · rw [if_pos (nI_lt g1 (by omega)), cl_nI (by omega), cl_nI (by omega), h.2.2 _ (by omega), h.2.2 _ (by omega), bd_eq, bd_eq]
    refine ⟨vp_nI (by omega) (by decide), vp_nI (by omega) (by decide), ?_⟩
    refine within_x (a := 0) (b := 60) (by decide) (by decide) (fun g2 => ?_) (fun g2 => ?_)
    · rw [if_neg one_ne]
      refine place_x (by omega) l5 (fun g3 => ?_) (fun g3 => ?_)
      · rw [if_neg one_ne]
        obtain ⟨t, ht, et⟩ := inR_num (b := 60) g2 (by decide)
        obtain ⟨p, hp, ep⟩ := g3
        have htl : t ≤ lhF f (tws n) := by
          have := lhF_ge f (tws n) i hi (by rw [et, nI_toInt (by omega)]; omega)
          rw [et, nI_toInt (by omega)] at this
          omega
        obtain ⟨j1, j2⟩ := hJ t htl
        rw [et, ep, cellB_x hk (by omega) j1 j2, cl_nI (by omega), (l6 p hp).1, nrX (by omega) (l6 p hp).2 l3 l8]
        refine ⟨vp_nI (by omega) (by decide), ?_⟩
        rw [okB_e g1 et ht ep hp l2] at hQ
        by_cases g : nr r (S t / 8) (sp p) = true
        · rw [if_pos g] at hQ ⊢
          rw [if_neg one_ne]
          exact hQ
        · rw [if_neg g] at hQ ⊢
          rw [if_pos rfl]
          exact hQ
      · rw [if_pos rfl]
        rw [okB_n3 l2 g3] at hQ
        exact hQ
    · rw [if_pos rfl]
      rw [okB_n2 g2] at hQ
      exact hQ
  · rw [if_neg (nI_nlt (by omega) (by omega))]
    rw [okB_n1 g1] at hQ
    exact hQ
theorem fw_l {s n nC nP r k : Nat} {f : Nat → Int32} {sp wo S : Nat → Nat} {σ : Sg} {Q : Int32 → Sg → Prop} (h : RX σ s n f) (hL : LX σ nC nP r sp wo) (hJ : JX σ k (lhF f (tws n)) S) (hk : k < 6) : ∀ (d i : Nat), i + d = tws n → Q (fwB (okB f n nP r sp S) d i) σ → w_X5_firstWrong_l8 s (nI k) Q (nI (tws n)) (d + 1) (nI i) σ
  | 0, i, hd, hQ => by
    have h20 : tws n ≤ 20 := Nat.min_le_left _ _
    unfold w_X5_firstWrong_l8
    rw [if_pos (nI_le (by omega) (by omega))]
    exact hQ
  | d + 1, i, hd, hQ => by
    have h20 : tws n ≤ 20 := Nat.min_le_left _ _
    unfold w_X5_firstWrong_l8
    rw [if_neg (nI_ge (by omega) (by omega))]
    refine isSo_x h hL hJ hk (by omega) ?_
    rw [show fwB (okB f n nP r sp S) (d + 1) i = if okB f n nP r sp S i = true then fwB (okB f n nP r sp S) d (i + 1) else nI i from rfl] at hQ
    by_cases g : okB f n nP r sp S i = true
    · rw [if_pos g] at hQ
      rw [if_pos g, if_neg one_ne, nI_1]
      exact fw_l h hL hJ hk d (i + 1) (by omega) hQ
    · rw [if_neg g] at hQ
      rw [if_neg g, if_pos rfl]
      exact hQ
theorem fw_x {s n nC nP r k : Nat} {f : Nat → Int32} {sp wo S : Nat → Nat} {σ : Sg} {Q : Int32 → Sg → Prop} (h : RX σ s n f) (hL : LX σ nC nP r sp wo) (hJ : JX σ k (lhF f (tws n)) S) (hk : k < 6) (hQ : Q (wt f n nP r sp S) σ) : w_X5_firstWrong s (nI k) σ Q := by
  unfold w_X5_firstWrong
  rw [twos_x h]
  exact ⟨tws n + 1, fw_l h hL hJ hk (tws n) 0 (by omega) hQ⟩
/-! on the reference's side -/
theorem at_m {s n i : Nat} {f : Nat → Int32} {σ : Sg} {Q : Int32 → Sg → Prop} (hs : s < 6) (h : RM σ s n f) (hi : i < 60) : w_X12_at (nI s) (nI i) σ Q = Q (f i) σ := by
  unfold w_X12_at
  have e : ((60 : Int32) * nI s) + nI i = nI (60 * s + i) := by rw [show (60 : Int32) = nI 60 from rfl, pk_mul, nI_add]
  have hv : vp_in (nI (60 * s + i)) 360 := vp_nI (by omega) (by decide)
  rw [e, cl_nI (by omega), h.2.2 i hi]
  simp only [hv, true_and]
theorem wt_l {s n nC nP r : Nat} {f : Nat → Int32} {sp wo S : Nat → Nat} {σ : Sg} {Q : Int32 → Sg → Prop} (hs : s < 6) (h : RM σ s n f) (hL : LM σ nC nP r sp wo) (hJ : JM σ 0 S) : ∀ (d i : Nat), i + d = tws n → Q (fwB (okB f n nP r sp S) d i) σ → w_X12_wrongTwo_l38 (nI s) Q (d + 1) (nI i) σ
  | d, i, hd, hQ => by
    obtain ⟨⟨l1, l2, l3⟩, l4, l5, l6, l7, l8⟩ := id hL
    have h20 : tws n ≤ 20 := Nat.min_le_left _ _
    have hn := h.1
    have hv : vp_in (nI s) 6 := vp_nI hs (by decide)
    have htw : tws n = min 20 ((n + 1) / 2) := rfl
    unfold w_X12_wrongTwo_l38
    by_cases g0 : i = 20
    · have : d = 0 := by omega
      subst this
      rw [if_pos (by rw [g0]; decide)]
      exact hQ
    rw [if_neg (show ¬ (20 : Int32) ≤ nI i from nI_ge (b := 20) (by omega) (by decide)), cl_nI (by omega), h.2.1, two_i, nI_1]
    refine ⟨hv, ?_⟩
    by_cases g1 : n ≤ 2 * i
    · have : d = 0 := by omega
      subst this
      rw [if_pos (nI_le g1 (by omega))]
      exact hQ
    rw [if_neg (nI_ge (by omega) (by omega))]
    refine ⟨hv, ?_⟩
    cases d with
    | zero => exfalso; omega
    | succ d =>
      rw [show fwB (okB f n nP r sp S) (d + 1) i = if okB f n nP r sp S i = true then fwB (okB f n nP r sp S) d (i + 1) else nI i from rfl] at hQ
      by_cases g2 : n ≤ 2 * i + 1
      · rw [if_pos (nI_le g2 (by omega))]
        rw [okB_n1 (by omega), if_neg (by decide)] at hQ
        exact hQ
      rw [if_neg (nI_ge (by omega) (by omega)), at_m hs h (by omega)]
      refine hours_m (fun g3 => ?_) (fun g3 => ?_)
      · rw [if_neg one_ne, at_m hs h (by omega)]
        refine place_m (by omega) l5 (fun g4 => ?_) (fun g4 => ?_)
        · rw [if_neg one_ne, at_m hs h (by omega), at_m hs h (by omega)]
          obtain ⟨t, ht, et⟩ := inR_num (b := 60) g3 (by decide)
          obtain ⟨p, hp, ep⟩ := g4
          have j1 := hJ t (by omega)
          rw [Nat.mul_zero, Nat.zero_add] at j1
          rw [et, ep, cl_nI (by omega), cl_nI (by omega), j1.1, (l6 p hp).1, nrM (by omega) (l6 p hp).2 l3 l8, nI_1]
          refine ⟨vp_nI (by omega) (by decide), vp_nI (by omega) (by decide), ?_⟩
          rw [okB_e (by omega) et ht ep hp l2] at hQ
          by_cases g : nr r (S t / 8) (sp p) = true
          · rw [if_pos g] at hQ
            rw [if_pos g, if_neg one_ne]
            exact wt_l hs h hL hJ d (i + 1) (by omega) hQ
          · rw [if_neg g] at hQ
            rw [if_neg g, if_pos rfl]
            exact hQ
        · rw [if_pos rfl]
          rw [okB_n3 l2 g4, if_neg (by decide)] at hQ
          exact hQ
      · rw [if_pos rfl]
        rw [okB_n2 g3, if_neg (by decide)] at hQ
        exact hQ
  termination_by d => d
theorem lay0_l {k p s0 : Nat} {l : Nat → Nat → Int32} {J : Sg → Prop} (hk : k < 6) (hs : s0 < 2048) (hp : p < 1000) : ∀ (d i : Nat) (σ : Sg), i + d = 61 → GM σ k p l → At σ (tr l p s0 i) →
    (∀ σ', Fr σ σ' → (∀ t, i ≤ t → t < 61 → σ'.1 80 t = nI (tr l p s0 t / 8)) → (∀ j, j < i → σ'.1 80 j = σ.1 80 j) → J σ') → w_X12_wrongTwo_l7 (nI k) J (d + 1) (nI i) σ
  | 0, i, σ, h, hG, hA, hJ => by
    have : i = 61 := by omega
    subst this
    unfold w_X12_wrongTwo_l7
    rw [if_pos (by decide)]
    exact hJ σ (Fr.refl _) (fun t h1 h2 => by omega) (fun _ _ => rfl)
  | d + 1, i, σ, h, hG, hA, hJ => by
    unfold w_X12_wrongTwo_l7
    rw [if_neg (show ¬ (60 : Int32) < nI i from nI_nlt (a := 60) (b := i) (by omega) (by decide)), cl_nI (by omega), hA.1, bd_eq, nI_1]
    refine ⟨vp_nI (by omega) (by decide), hour_q hk (GM_m hG Fr.set.m) (tr_lt hs i) (by omega) hp (Or.inr (Or.inl rfl)) ⟨by rw [rd_ne (by decide)]; exact hA.1, by rw [rd_ne (by decide)]; exact hA.2⟩ (fun σ1 hf hG1 hA1 => ?_)⟩
    refine lay0_l hk hs hp d (i + 1) σ1 (by omega) hG1 hA1 (fun σ' hr ht ho => hJ σ' (Fr.set.trans (hf.r.trans hr)) (fun t h1 h2 => ?_) (fun j hj => ?_))
    · by_cases e : t = i
      · subst e
        rw [ho _ (by omega), hf.1 80 (by decide) (by decide) (by decide), rd_in, if_pos rfl]
      · exact ht t (by omega) h2
    · rw [ho j (by omega), hf.1 80 (by decide) (by decide) (by decide), rd_in, if_neg (by omega)]
theorem Fr.lm {σ τ : Sg} {nC nP r : Nat} {sp wo : Nat → Nat} (h : LM σ nC nP r sp wo) (f : Fr σ τ) : LM τ nC nP r sp wo := by
  obtain ⟨l0, l4, l5, l6, l7, l8⟩ := h
  exact ⟨l0, by rw [f.2.1 1 (by decide) (by decide) (by decide), l4], by rw [f.2.1 6 (by decide) (by decide) (by decide), l5], fun q hq => by rw [f.1 65 (by decide) (by decide) (by decide) (by decide)]; exact l6 q hq, fun q hq => by rw [f.1 66 (by decide) (by decide) (by decide) (by decide)]; exact l7 q hq, by rw [f.1 67 (by decide) (by decide) (by decide) (by decide), l8]⟩
theorem Fr.rm {σ τ : Sg} {s n : Nat} {f : Nat → Int32} (h : RM σ s n f) (g : Fr σ τ) : RM τ s n f := ⟨h.1, by rw [g.1 92 (by decide) (by decide) (by decide) (by decide), h.2.1], fun i hi => by rw [g.2.2]; exact h.2.2 i hi⟩
theorem wrong_m {s n nC nP r k p c w : Nat} {l : Nat → Nat → Int32} {f : Nat → Int32} {sp wo : Nat → Nat} {σ : Sg} {Q : Int32 → Sg → Prop} (hs : s < 6) (hk : k < 6) (h : RM σ s n f) (hL : LM σ nC nP r sp wo) (hG : GM σ k p l) (hp : p < 1000) (h1 : σ.1 61 k = nI c) (h2 : σ.1 62 k = nI w) (hc : c < 256) (hw : w < 8)
    (hQ : ∀ σ', Fr σ σ' → Q (wt f n nP r sp (tr l p (8 * c + w))) σ') : w_X12_wrongTwo (nI s) (nI k) σ Q := by
  unfold w_X12_wrongTwo
  refine layNow_m hk h1 h2 hw (fun σ1 hr1 _ hA1 => ?_)
  rw [bd_eq]
  refine ⟨62, lay0_l (s0 := 8 * c + w) hk (by omega) hp 61 0 σ1 (by omega) (GM_m hG hr1.m) hA1 (fun σ2 hr2 ht _ => ?_)⟩
  have hr := hr1.trans hr2
  exact ⟨tws n + 1, wt_l hs (Fr.rm h hr) (Fr.lm hL hr) (fun t ht' => ⟨by rw [Nat.mul_zero, Nat.zero_add]; exact ht t (Nat.zero_le _) ht', tr_lt (by omega) t⟩) (tws n) 0 (by omega) (hQ σ2 hr)⟩
theorem fwB_2 (ok : Nat → Bool) : ∀ d i, i + d < 1000 → fwB ok d i = -2 ∨ 0 ≤ fwB ok d i
  | 0, _, _ => Or.inl rfl
  | d + 1, i, h => by
    rw [show fwB ok (d + 1) i = if ok i = true then fwB ok d (i + 1) else nI i from rfl]
    split
    · exact fwB_2 ok d (i + 1) (by omega)
    · exact Or.inr (nI_pos' (by omega))
theorem wt_2 {f : Nat → Int32} {n nP r : Nat} {sp S : Nat → Nat} : (0 ≤ wt f n nP r sp S) = ¬ (wt f n nP r sp S = -2) ∧ (wt f n nP r sp S < 0) = (wt f n nP r sp S = -2) := by
  have h20 : tws n ≤ 20 := Nat.min_le_left _ _
  rcases fwB_2 (okB f n nP r sp S) (tws n) 0 (by omega) with h | h
  · have : wt f n nP r sp S = -2 := h
    rw [this]; decide
  · have h' : 0 ≤ wt f n nP r sp S := h
    have hne : ¬ wt f n nP r sp S = -2 := fun q => by rw [q] at h'; exact absurd h' (by decide)
    have hlt : ¬ wt f n nP r sp S < 0 := fun q => by rw [i32_lt] at q; rw [i32_le] at h'; omega
    exact ⟨by simp [h', hne], by simp [hlt, hne]⟩
theorem wt_congr {f : Nat → Int32} {n nP r : Nat} {sp S S' : Nat → Nat} (h : ∀ t, S t = S' t) : wt f n nP r sp S = wt f n nP r sp S' := by rw [show S = S' from funext h]
theorem wt_a {f : Nat → Int32} {n nP r : Nat} {sp S : Nat → Nat} (h : wt f n nP r sp S = -2) : ¬ 0 ≤ wt f n nP r sp S ∧ wt f n nP r sp S < 0 := ⟨fun q => (wt_2.1 ▸ q) h, wt_2.2.symm ▸ h⟩
theorem wt_b {f : Nat → Int32} {n nP r : Nat} {sp S : Nat → Nat} (h : ¬ wt f n nP r sp S = -2) : 0 ≤ wt f n nP r sp S ∧ ¬ wt f n nP r sp S < 0 := ⟨wt_2.1.symm ▸ h, fun q => h (wt_2.2 ▸ q)⟩
