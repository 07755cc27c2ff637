/-! meet, often, who -/
def ff (f : Nat → Bool) : Nat → Nat → Int32
  | 0, _ => -2
  | d + 1, i => if f i = true then nI i else ff f d (i + 1)
def cnt (f : Nat → Bool) : Nat → Nat
  | 0 => 0
  | n + 1 => cnt f n + if f n = true then 1 else 0
theorem cnt_le (f : Nat → Bool) : ∀ n, cnt f n ≤ n
  | 0 => Nat.le_refl _
  | n + 1 => by
    show cnt f n + _ ≤ n + 1
    have := cnt_le f n
    split <;> omega
theorem cnt_congr {f g : Nat → Bool} : ∀ {n : Nat}, (∀ i, i < n → f i = g i) → cnt f n = cnt g n
  | 0, _ => rfl
  | n + 1, h => by
    show cnt f n + _ = cnt g n + _
    rw [cnt_congr (fun i hi => h i (by omega)), h n (by omega)]
theorem cnt_mono {f g : Nat → Bool} : ∀ {n : Nat}, (∀ i, i < n → f i = true → g i = true) → cnt f n ≤ cnt g n
  | 0, _ => Nat.le_refl _
  | n + 1, h => by
    show cnt f n + _ ≤ cnt g n + _
    have h1 := cnt_mono (n := n) (fun i hi => h i (by omega))
    by_cases e : f n = true
    · rw [if_pos e, if_pos (h n (by omega) e)]; omega
    · rw [if_neg e]; omega
theorem cnt_lt {f g : Nat → Bool} : ∀ {n : Nat}, (∀ i, i < n → f i = true → g i = true) → (∃ i, i < n ∧ f i = false ∧ g i = true) → cnt f n < cnt g n
  | 0, _, ⟨i, h, _⟩ => by omega
  | n + 1, h, ⟨i, hi, h1, h2⟩ => by
    show cnt f n + _ < cnt g n + _
    by_cases e : i = n
    · subst e
      have h3 := cnt_mono (n := i) (fun j hj => h j (by omega))
      rw [if_neg (by rw [h1]; decide), if_pos h2]
      omega
    · have h3 := cnt_lt (n := n) (fun j hj => h j (by omega)) ⟨i, by omega, h1, h2⟩
      by_cases e : f n = true
      · rw [if_pos e, if_pos (h n (by omega) e)]; omega
      · rw [if_neg e]; omega
theorem bool01 {b : Bool} {P : Int32 → Prop} : (((if b = true then (1 : Int32) else 0) = 0 ∨ (if b = true then (1 : Int32) else 0) = 1) ∧ P (if b = true then 1 else 0)) = P (if b = true then 1 else 0) := by
  cases b <;> simp
theorem tog_x {σ : Sg} {a b n t r : Nat} {sa sb : Nat → Nat} {Q : Int32 → Sg → Prop} (ha : a < 6) (hb : b < 6) (hn : n ≤ 60) (ht : t ≤ n) (hJa : JX σ a n sa) (hJb : JX σ b n sb) (hr : r ≤ 5) (h8 : σ.1 1 8 = nI r) : w_X6_together (nI a) (nI b) (nI t) σ Q = Q (if nr r (sa t / 8) (sb t / 8) = true then 1 else 0) σ := by
  unfold w_X6_together
  have h1 := hJa t ht
  have h2 := hJb t ht
  rw [cellB_x ha (by omega) h1.1 h1.2, cellB_x hb (by omega) h2.1 h2.2, nrX (by omega) (by omega) hr h8]
  exact bool01 (P := fun x => Q x σ)
theorem meetAt_m {σ : Sg} {a b t r : Nat} {sa sb : Nat → Nat} {Q : Int32 → Sg → Prop} (ha : a < 6) (hb : b < 6) (ht : t < 61) (hJa : JM σ a sa) (hJb : JM σ b sb) (hr : r ≤ 5) (h8 : σ.1 67 0 = nI r) : w_X12_meetAt (nI a) (nI b) (nI t) σ Q = Q (if nr r (sa t / 8) (sb t / 8) = true then 1 else 0) σ := by
  unfold w_X12_meetAt
  have h1 := hJa t ht
  have h2 := hJb t ht
  have v1 : vp_in (nI (61 * a + t)) 366 := vp_nI (by omega) (by decide)
  have v2 : vp_in (nI (61 * b + t)) 366 := vp_nI (by omega) (by decide)
  rw [ix_m, ix_m, cl_nI (by omega), cl_nI (by omega), h1.1, h2.1, nrM (by omega) (by omega) hr h8]
  simp only [v1, v2, true_and]
  exact bool01 (P := fun x => Q x σ)
theorem meet_x {σ : Sg} {a b r : Nat} {sa sb : Nat → Nat} {Q : Int32 → Sg → Prop} (ha : a < 6) (hb : b < 6) (hJa : JX σ a 60 sa) (hJb : JX σ b 60 sb) (hr : r ≤ 5) (h8 : σ.1 1 8 = nI r) : ∀ (d i : Nat), i + d = 61 → Q (ff (fun t => nr r (sa t / 8) (sb t / 8)) d i) σ → w_X6_firstMeeting_l2 (nI a) (nI b) Q (d + 1) (nI i) σ
  | 0, i, h, hQ => by
    have : i = 61 := by omega
    subst this
    unfold w_X6_firstMeeting_l2
    rw [if_pos (by decide)]
    exact hQ
  | d + 1, i, h, hQ => by
    unfold w_X6_firstMeeting_l2
    rw [if_neg (show ¬ (60 : Int32) < nI i from nI_nlt (a := 60) (by omega) (by decide)), tog_x ha hb (Nat.le_refl _) (by omega) hJa hJb hr h8, nI_1]
    have e : ff (fun t => nr r (sa t / 8) (sb t / 8)) (d + 1) i = if nr r (sa i / 8) (sb i / 8) = true then nI i else ff (fun t => nr r (sa t / 8) (sb t / 8)) d (i + 1) := rfl
    rw [e] at hQ
    by_cases g : nr r (sa i / 8) (sb i / 8) = true
    · rw [if_pos g] at hQ
      rw [if_pos g, if_neg one_ne]
      exact hQ
    · rw [if_neg g] at hQ
      rw [if_neg g, if_pos rfl]
      exact meet_x ha hb hJa hJb hr h8 d (i + 1) (by omega) hQ
theorem meet_m {σ : Sg} {m r : Nat} {sa sb : Nat → Nat} {Q : Int32 → Sg → Prop} (hm : m < 2 ^ 31) (ha : m / 10 < 6) (hb : m % 10 < 6) (hJa : JM σ (m / 10) sa) (hJb : JM σ (m % 10) sb) (hr : r ≤ 5) (h8 : σ.1 67 0 = nI r) : ∀ (d i : Nat), i + d = 61 → Q (ff (fun t => nr r (sa t / 8) (sb t / 8)) d i) σ → w_X12_meet_l16 (nI m) Q (d + 1) (nI i) σ
  | 0, i, h, hQ => by
    have : i = 61 := by omega
    subst this
    unfold w_X12_meet_l16
    rw [if_pos (by decide)]
    exact hQ
  | d + 1, i, h, hQ => by
    unfold w_X12_meet_l16
    rw [if_neg (show ¬ (60 : Int32) < nI i from nI_nlt (a := 60) (by omega) (by decide)), rem10 hm, div10 hm, meetAt_m ha hb (by omega) hJa hJb hr h8, nI_1]
    have e : ff (fun t => nr r (sa t / 8) (sb t / 8)) (d + 1) i = if nr r (sa i / 8) (sb i / 8) = true then nI i else ff (fun t => nr r (sa t / 8) (sb t / 8)) d (i + 1) := rfl
    rw [e] at hQ
    by_cases g : nr r (sa i / 8) (sb i / 8) = true
    · rw [if_pos g] at hQ
      rw [if_pos g, if_neg one_ne]
      exact hQ
    · rw [if_neg g] at hQ
      rw [if_neg g, if_pos rfl]
      exact meet_m hm ha hb hJa hJb hr h8 d (i + 1) (by omega) hQ
theorem follow2_x {n M nC nP a b : Nat} {g : Int32 → Int32 → Int32 → Int32 → Int32 → Int32 → Int32} {σ : Sg} {Q : Sg → Prop} (hB : Bs σ nC nP) (h3 : G3 g) (hX : XL σ g) (ha : a < nC) (hb : b < nC) (hab : a ≠ b) (hn : n ≤ 60) (hK : IKb M σ) (hM : M + 1 < 100000)
    (hQ : ∀ σ', Fx σ σ' → IKb (M + 2) σ' → JX σ' a n (TR g σ a) → JX σ' b n (TR g σ b) → Q σ') : w_X6_follow (nI a) (nI n) σ (fun σ3 => w_X6_follow (nI b) (nI n) σ3 (fun σ4 => Q σ4)) := by
  have h6 := hB.1.1
  refine follow_x hB h3 hX ha hn (Fx.refl σ) hK (by omega) (fun σ1 hF hK1 ht _ => ?_)
  refine follow_x hB h3 hX hb hn hF hK1 (by omega) (fun σ2 hF2 hK2 ht2 ho2 => ?_)
  refine hQ σ2 hF2 hK2 (fun t h => ⟨?_, TR_lt hB ha t⟩) (fun t h => ⟨ht2 t h, TR_lt hB hb t⟩)
  rw [ho2 _ (by omega)]
  exact ht t h
theorem meet_b {nC : Nat} {a : Int32} {σ : Sg} {Q : Int32 → Sg → Prop} (hn : nC ≤ 6) (e : σ.1 60 1 = nI nC) (h : ¬ T2 nC a) (hQ : Q (-1) σ) : w_X12_meet a σ Q := by
  unfold w_X12_meet
  exact two_m (by omega) e (fun h1 => absurd h1 h) (fun _ => by rw [if_pos rfl]; exact hQ)
theorem op_meet {N : Nat} {σ : Sg} (hI : Inv N σ) (hN : N < 600) (a : Int32) {Q : Int32 → Int32 → Sg → Prop} (hQ : ∀ r σ', Inv (N + 1) σ' → Q r r σ') : w_X11_meet a σ (fun r σ1 => w_X12_meet a σ1 (fun r' σ2 => Q r r' σ2)) := by
  obtain ⟨nC, nP, g, hB, hq, h3, hX, hM⟩ := Inv_get hI
  have hK := Inv_K hI
  obtain ⟨hn, hp, en, ep⟩ := hB.1
  have c60 := c60_x hq hB (Fx.refl σ)
  unfold w_X11_meet
  refine two_x (by omega) en (fun h1 => ?_) (fun h => by rw [if_pos rfl]; exact meet_b hn c60.1 h (hQ _ _ (Inv_up hI)))
  rw [if_neg one_ne]
  obtain ⟨m, hm, rfl, ha, hb, hab⟩ := id h1
  rw [rem10 hm, div10 hm]
  refine follow2_x (n := 60) hB h3 hX ha hb hab (by decide) hK (by omega) (fun σ1 hF hK1 hJa hJb => ?_)
  have hL := LX_of hB hF
  have c60' := c60_x hq hB hF
  refine ⟨62, meet_x (by omega) (by omega) hJa hJb hL.1.2.2 hL.2.2.2.2.2 61 0 (by omega) ?_⟩
  unfold w_X12_meet
  refine two_m (by omega) c60'.1 (fun _ => ?_) (fun h => absurd h1 h)
  rw [if_neg one_ne]
  refine layAll_m hB hq h3 hM hF (fun σ2 hr ht2 => ?_)
  have hLm := LM_of hB hq hF hr.m
  have hI' := th_e hI hF hK1 (by omega) hr.m
  refine ⟨62, meet_m hm (by omega) (by omega) (fun t h => ⟨ht2 _ ha t h, TR_lt hB ha t⟩) (fun t h => ⟨ht2 _ hb t h, TR_lt hB hb t⟩) hLm.1.2.2 hLm.2.2.2.2.2 61 0 (by omega) (hQ _ _ hI')⟩
theorem often_x {σ : Sg} {a b n r : Nat} {sa sb : Nat → Nat} {Q : Int32 → Sg → Prop} (ha : a < 6) (hb : b < 6) (hn : n ≤ 60) (hJa : JX σ a n sa) (hJb : JX σ b n sb) (hr : r ≤ 5) (h8 : σ.1 1 8 = nI r) (hQ : Q (nI (cnt (fun t => nr r (sa t / 8) (sb t / 8)) (n + 1))) σ) : ∀ (d i : Nat), i + d = n + 1 → w_X6_meetings_l6 (nI a) (nI b) (nI n) Q (d + 1) (nI (cnt (fun t => nr r (sa t / 8) (sb t / 8)) i)) (nI i) σ
  | 0, i, h => by
    have : i = n + 1 := by omega
    subst this
    unfold w_X6_meetings_l6
    rw [if_pos (nI_lt (Nat.lt_succ_self _) (by omega))]
    exact hQ
  | d + 1, i, h => by
    unfold w_X6_meetings_l6
    rw [if_neg (nI_nlt (by omega) (by omega)), tog_x ha hb hn (by omega) hJa hJb hr h8, bd_eq, nI_1, nI_1]
    have ih := often_x ha hb hn hJa hJb hr h8 hQ d (i + 1) (by omega)
    have e : cnt (fun t => nr r (sa t / 8) (sb t / 8)) (i + 1) = cnt (fun t => nr r (sa t / 8) (sb t / 8)) i + if nr r (sa i / 8) (sb i / 8) = true then 1 else 0 := rfl
    rw [e] at ih
    by_cases g : nr r (sa i / 8) (sb i / 8) = true
    · rw [if_pos g] at ih
      rw [if_pos g, if_neg one_ne]
      exact ih
    · rw [if_neg g] at ih
      rw [if_neg g, if_pos rfl]
      exact ih
theorem often_m {σ : Sg} {m n r : Nat} {sa sb : Nat → Nat} {Q : Int32 → Sg → Prop} (hm : m < 2 ^ 31) (ha : m / 10 < 6) (hb : m % 10 < 6) (hn : n ≤ 60) (hJa : JM σ (m / 10) sa) (hJb : JM σ (m % 10) sb) (hr : r ≤ 5) (h8 : σ.1 67 0 = nI r) (hQ : Q (nI (cnt (fun t => nr r (sa t / 8) (sb t / 8)) (n + 1))) σ) : ∀ (d i : Nat), i + d = n + 1 → w_X12_often_l26 (nI m) (nI n) Q (d + 1) (nI (cnt (fun t => nr r (sa t / 8) (sb t / 8)) i)) (nI i) σ
  | 0, i, h => by
    have : i = n + 1 := by omega
    subst this
    unfold w_X12_often_l26
    rw [if_pos (nI_lt (Nat.lt_succ_self _) (by omega))]
    exact hQ
  | d + 1, i, h => by
    unfold w_X12_often_l26
    rw [if_neg (nI_nlt (by omega) (by omega)), rem10 hm, div10 hm, meetAt_m ha hb (by omega) hJa hJb hr h8, bd_eq, nI_1, nI_1]
    have ih := often_m hm ha hb hn hJa hJb hr h8 hQ d (i + 1) (by omega)
    have e : cnt (fun t => nr r (sa t / 8) (sb t / 8)) (i + 1) = cnt (fun t => nr r (sa t / 8) (sb t / 8)) i + if nr r (sa i / 8) (sb i / 8) = true then 1 else 0 := rfl
    rw [e] at ih
    by_cases g : nr r (sa i / 8) (sb i / 8) = true
    · rw [if_pos g] at ih
      rw [if_pos g, if_neg one_ne]
      exact ih
    · rw [if_neg g] at ih
      rw [if_neg g, if_pos rfl]
      exact ih
theorem often_b {nC : Nat} {a b : Int32} {σ : Sg} {Q : Int32 → Sg → Prop} (hn : nC ≤ 6) (e : σ.1 60 1 = nI nC) (h : ¬ (T2 nC a ∧ inR b 0 60)) (hQ : Q (-1) σ) : w_X12_often a b σ Q := by
  unfold w_X12_often
  refine two_m (by omega) e (fun h1 => ?_) (fun _ => by rw [if_pos rfl]; exact hQ)
  rw [if_neg one_ne]
  exact hours_m (fun h2 => absurd ⟨h1, h2⟩ h) (fun _ => by rw [if_pos rfl]; exact hQ)
theorem op_often {N : Nat} {σ : Sg} (hI : Inv N σ) (hN : N < 600) (a b : Int32) {Q : Int32 → Int32 → Sg → Prop} (hQ : ∀ r σ', Inv (N + 1) σ' → Q r r σ') : w_X11_often a b σ (fun r σ1 => w_X12_often a b σ1 (fun r' σ2 => Q r r' σ2)) := by
  obtain ⟨nC, nP, g, hB, hq, h3, hX, hM⟩ := Inv_get hI
  have hK := Inv_K hI
  obtain ⟨hn, hp, en, ep⟩ := hB.1
  have c60 := c60_x hq hB (Fx.refl σ)
  unfold w_X11_often
  refine two_x (by omega) en (fun h1 => ?_) (fun h => by rw [if_pos rfl]; exact often_b hn c60.1 (fun q => h q.1) (hQ _ _ (Inv_up hI)))
  rw [if_neg one_ne]
  refine within_x (a := 0) (b := 60) (by decide) (by decide) (fun h2 => ?_) (fun h => by rw [if_pos rfl]; exact often_b hn c60.1 (fun q => h q.2) (hQ _ _ (Inv_up hI)))
  rw [if_neg one_ne]
  obtain ⟨m, hm, rfl, ha, hb, hab⟩ := id h1
  obtain ⟨n, hn60, rfl⟩ := inR_num (b := 60) h2 (by decide)
  rw [rem10 hm, div10 hm]
  refine follow2_x hB h3 hX ha hb hab hn60 hK (by omega) (fun σ1 hF hK1 hJa hJb => ?_)
  have hL := LX_of hB hF
  have c60' := c60_x hq hB hF
  refine ⟨n + 2, often_x (by omega) (by omega) hn60 hJa hJb hL.1.2.2 hL.2.2.2.2.2 ?_ (n + 1) 0 (by omega)⟩
  unfold w_X12_often
  refine two_m (by omega) c60'.1 (fun _ => ?_) (fun h => absurd h1 h)
  rw [if_neg one_ne]
  refine hours_m (fun _ => ?_) (fun h => absurd h2 h)
  rw [if_neg one_ne]
  refine layAll_m hB hq h3 hM hF (fun σ2 hr ht2 => ?_)
  have hLm := LM_of hB hq hF hr.m
  have hI' := th_e hI hF hK1 (by omega) hr.m
  refine ⟨n + 2, often_m hm (by omega) (by omega) hn60 (fun t h => ⟨ht2 _ ha t h, TR_lt hB ha t⟩) (fun t h => ⟨ht2 _ hb t h, TR_lt hB hb t⟩) hLm.1.2.2 hLm.2.2.2.2.2 (hQ _ _ hI') (n + 1) 0 (by omega)⟩
/-- which carriages are near a cell -/
def CN (r nC : Nat) (S : Nat → Nat → Nat) (t c : Nat) : Nat := bN nC (fun k => nr r (S k t / 8) c)
theorem carN_l {σ : Sg} {nC nP r n c t : Nat} {sp wo : Nat → Nat} {S : Nat → Nat → Nat} {Q : Int32 → Sg → Prop} (hL : LX σ nC nP r sp wo) (hJ : ∀ k, k < nC → JX σ k n (S k)) (hn : n ≤ 60) (ht : t ≤ n) (hc : c < 256) (hQ : Q (nI (CN r nC S t c)) σ) : ∀ (d i : Nat), i + d = nC → w_X6_carriagesNear_l5 (nI c) (nI t) Q (d + 1) (nI (bN i (fun k => nr r (S k t / 8) c))) (nI i) σ
  | 0, i, h => by
    obtain ⟨⟨l1, l2, l3⟩, l4, l5, l6, l7, l8⟩ := id hL
    have : i = nC := by omega
    subst this
    unfold w_X6_carriagesNear_l5
    rw [l4, if_pos (nI_le (Nat.le_refl _) (by omega))]
    exact hQ
  | d + 1, i, h => by
    obtain ⟨⟨l1, l2, l3⟩, l4, l5, l6, l7, l8⟩ := id hL
    unfold w_X6_carriagesNear_l5
    have h1 := hJ i (by omega) t ht
    rw [l4, if_neg (nI_ge (by omega) (by omega)), cellB_x (by omega) (by omega) h1.1 h1.2, nrX (by omega) hc l3 l8, bd_eq, nI_1]
    have ih := carN_l hL hJ hn ht hc hQ d (i + 1) (by omega)
    by_cases g : nr r (S i t / 8) c = true
    · rw [if_pos g, if_neg one_ne, bd_eq, bN_set (P := fun k => nr r (S k t / 8) c) (by omega) g]
      exact ih
    · rw [if_neg g, if_pos rfl]
      rw [bN_not (by simpa using g)] at ih
      exact ih
theorem carN_x {σ : Sg} {nC nP r n c t : Nat} {sp wo : Nat → Nat} {S : Nat → Nat → Nat} {Q : Int32 → Sg → Prop} (hL : LX σ nC nP r sp wo) (hJ : ∀ k, k < nC → JX σ k n (S k)) (hn : n ≤ 60) (ht : t ≤ n) (hc : c < 256) (hQ : Q (nI (CN r nC S t c)) σ) : w_X6_carriagesNear (nI c) (nI t) σ Q := ⟨nC + 1, carN_l hL hJ hn ht hc hQ nC 0 (by omega)⟩
theorem carN_lm {σ : Sg} {nC nP r c t : Nat} {sp wo : Nat → Nat} {S : Nat → Nat → Nat} {Q : Int32 → Sg → Prop} (hL : LM σ nC nP r sp wo) (hJ : ∀ k, k < nC → JM σ k (S k)) (ht : t < 61) (hc : c < 256) (hQ : Q (nI (CN r nC S t c)) σ) : ∀ (d i : Nat), i + d = nC → w_X12_whoNear_l5 (nI c) (nI t) Q (d + 1) (nI (bN i (fun k => nr r (S k t / 8) c))) (nI i) σ
  | 0, i, h => by
    obtain ⟨⟨l1, l2, l3⟩, l4, l5, l6, l7, l8⟩ := id hL
    have : i = nC := by omega
    subst this
    unfold w_X12_whoNear_l5
    rw [l4, if_pos (nI_le (Nat.le_refl _) (by omega))]
    exact hQ
  | d + 1, i, h => by
    obtain ⟨⟨l1, l2, l3⟩, l4, l5, l6, l7, l8⟩ := id hL
    unfold w_X12_whoNear_l5
    have h1 := hJ i (by omega) t ht
    rw [l4, if_neg (nI_ge (by omega) (by omega)), ix_m, cl_nI (by omega), h1.1, nrM (by omega) hc l3 l8, bd_eq, nI_1]
    refine ⟨vp_nI (by omega) (by decide), ?_⟩
    have ih := carN_lm hL hJ ht hc hQ d (i + 1) (by omega)
    by_cases g : nr r (S i t / 8) c = true
    · rw [if_pos g, if_neg one_ne, bd_eq, bN_set (P := fun k => nr r (S k t / 8) c) (by omega) g]
      exact ih
    · rw [if_neg g, if_pos rfl]
      rw [bN_not (by simpa using g)] at ih
      exact ih
theorem carN_m {σ : Sg} {nC nP r c t : Nat} {sp wo : Nat → Nat} {S : Nat → Nat → Nat} {Q : Int32 → Sg → Prop} (hL : LM σ nC nP r sp wo) (hJ : ∀ k, k < nC → JM σ k (S k)) (ht : t < 61) (hc : c < 256) (hQ : Q (nI (CN r nC S t c)) σ) : w_X12_whoNear (nI c) (nI t) σ Q := ⟨nC + 1, carN_lm hL hJ ht hc hQ nC 0 (by omega)⟩
theorem who_b {a b : Int32} {σ : Sg} {Q : Int32 → Sg → Prop} (h : ¬ (inR a 0 255 ∧ inR b 0 60)) (hQ : Q (-1) σ) : w_X12_who a b σ Q := by
  unfold w_X12_who
  refine cell_m (fun h1 => ?_) (fun _ => by rw [if_pos rfl]; exact hQ)
  rw [if_neg one_ne]
  exact hours_m (fun h2 => absurd ⟨h1, h2⟩ h) (fun _ => by rw [if_pos rfl]; exact hQ)
theorem op_who {N : Nat} {σ : Sg} (hI : Inv N σ) (hN : N < 600) (a b : Int32) {Q : Int32 → Int32 → Sg → Prop} (hQ : ∀ r σ', Inv (N + 1) σ' → Q r r σ') : w_X11_who a b σ (fun r σ1 => w_X12_who a b σ1 (fun r' σ2 => Q r r' σ2)) := by
  obtain ⟨nC, nP, g, hB, hq, h3, hX, hM⟩ := Inv_get hI
  have hK := Inv_K hI
  obtain ⟨hn, hp, en, ep⟩ := hB.1
  unfold w_X11_who
  rw [← nI_0]
  refine may_x (w := 0) (by decide) (fun h1 => ?_) (fun h => by rw [nI_0, if_pos rfl]; exact who_b (fun q => h q.1) (hQ _ _ (Inv_up hI)))
  rw [nI_0, if_neg one_ne]
  refine within_x (a := 0) (b := 60) (by decide) (by decide) (fun h2 => ?_) (fun h => by rw [if_pos rfl]; exact who_b (fun q => h q.2) (hQ _ _ (Inv_up hI)))
  rw [if_neg one_ne]
  obtain ⟨c, hc, rfl⟩ := inR_num (b := 255) h1 (by decide)
  obtain ⟨n, hn60, rfl⟩ := inR_num (b := 60) h2 (by decide)
  refine followAll_x hB h3 hX hn60 hK (by omega) (fun σ1 hF hK1 ht => ?_)
  refine carN_x (S := TR g σ) (LX_of hB hF) (fun k hk t h => ⟨ht k hk t h, TR_lt hB hk t⟩) hn60 (Nat.le_refl _) (by omega) ?_
  unfold w_X12_who
  refine cell_m (fun _ => ?_) (fun h => absurd h1 h)
  rw [if_neg one_ne]
  refine hours_m (fun _ => ?_) (fun h => absurd h2 h)
  rw [if_neg one_ne]
  refine layAll_m hB hq h3 hM hF (fun σ2 hr ht2 => ?_)
  have hI' := th_e hI hF hK1 (by omega) hr.m
  exact carN_m (S := TR g σ) (LM_of hB hq hF hr.m) (fun k hk t h => ⟨ht2 k hk t h, TR_lt hB hk t⟩) (by omega) (by omega) (hQ _ _ hI')
