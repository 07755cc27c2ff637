/-! the fewest reins: the call -/
theorem bp_le (l : Nat → Nat → Int32) (p r b : Nat) : ∀ d t s, bpF l p r b d t s ≤ 2147483647
  | 0, t, s => by
    unfold bpF
    split <;> omega
  | d + 1, t, s => Nat.min_le_left _ _
theorem fewest_x {σ : Sg} {nC nP k b N T : Nat} {g : Int32 → Int32 → Int32 → Int32 → Int32 → Int32 → Int32} {Q : Int32 → Sg → Prop} (hB : Bs σ nC nP) (h3 : G3 g) (hX : XL σ g) (hK : IKb (16 * N) σ) (hN : N < 600) (hk : k < nC) (hb : b < 256) (hT : T ≤ 12)
    (hQ : ∀ τ, Fx σ τ → IKb (16 * N + 1) τ → Q (nI (bpF (lP g σ k (vN σ 4 k)) (vN σ 4 k) (vN σ 1 8) b T 0 (stN σ k))) τ) : w_X1_fewestReins (nI k) (nI b) (nI T) σ Q := by
  obtain ⟨hn6, hp8, en, ep⟩ := hB.1
  obtain ⟨⟨k1, k2⟩, ⟨k3, k4⟩, ⟨k5, k6, k7⟩, ⟨k8', k9⟩⟩ := hB.2.1 _ hk
  obtain ⟨r1, r2⟩ := hB.2.2.2.1
  have hvk : vp_in (nI k) 6 := vp_nI (by omega) (by decide)
  have hst := stN_lt hB hk
  unfold w_X1_fewestReins
  rw [cl_nI (by omega), k5]
  refine ⟨hvk, hvk, start_x (by omega) h3 hX k8' k9 hB.2.2.2.2.1 hB.2.2.2.2.2 hK (by omega) (fun τ1 hst1 hC1 hK1 => ?_)⟩
  have hf := hst1.x (show k < 6 by omega)
  refine fill_x (by decide) ?_
  have hX1 := XT_3r (c := 33) (v := fun j => if j < 2048 then 2147483647 else τ1.1 33 j) (show k < 6 by omega) (Or.inl rfl) (show XT σ τ1 k (vN σ 4 k) (16 * N + 1) (lP g σ k (vN σ 4 k)) from ⟨hf, hC1, hK1⟩)
  refine stand_x (by omega) hX1.2.1.1.1 (by rw [hX1.1.lo (c := 2) (by omega), k1]) (by rw [hX1.1.lo (c := 3) (by omega), k3]) ?_
  have e0 : 8 * vN σ 2 k + vN σ 3 k = stN σ k := rfl
  rw [e0, cl_nI (by omega), bd_eq, bd_eq]
  refine ⟨vp_nI hst (by decide), T + 1, ?_⟩
  refine few_l (s0 := stN σ k) (r := vN σ 1 8) (b := b) (M := 16 * N + 1) (l := lP g σ k (vN σ 4 k)) (by omega) (by omega) (by omega) hT (fun τ2 cs D hX2 hd hok hbes => ?_) T 0 _ 33 34 (fun j => if j = stN σ k then 0 else 2147483647) (by omega) (Or.inl ⟨rfl, rfl⟩) (XT_3 (by omega) (Or.inl rfl) hX1) (fun j hj => ?_) (fun s hs => ?_) (fun v hv => ?_)
  · unfold w_X1_leastNear
    refine ⟨2049, least_x (D := D) hb r2 (by rw [hX2.1.lo (c := 1) (by omega), r1]) (fun s hs => by have := hok s hs; generalize 4 ^ (12 - T) = P at this; omega) hd (bp_le _ _ _ _ T 0 (stN σ k)) (fun v hv => ?_) (hQ τ2 hX2.1 hX2.2.2) 2048 0 2147483647 (by decide) (Nat.le_refl _) (fun v hv => ⟨fun q => by omega, fun ⟨s', q, _⟩ => by omega⟩)⟩
    rw [← hbes v hv, Nat.sub_self]
    have e1 : ∀ s, bpF (lP g σ k (vN σ 4 k)) (vN σ 4 k) (vN σ 1 8) b 0 T s = if nr (vN σ 1 8) (s / 8) b = true then 0 else 2147483647 := fun _ => rfl
    constructor
    · rintro ⟨s, w1, w2, w3⟩
      exact ⟨s, w1, by rw [e1, if_pos w2]; omega⟩
    · rintro ⟨s, w1, w2⟩
      rw [e1] at w2
      by_cases q : nr (vN σ 1 8) (s / 8) b = true
      · rw [if_pos q] at w2; exact ⟨s, w1, q, by omega⟩
      · rw [if_neg q] at w2; omega
  · rw [rd_in, rdr_eq]
    by_cases q : j = stN σ k
    · rw [if_pos q, if_pos q]; rfl
    · rw [if_neg q, if_neg q, if_pos hj]; rfl
  · dsimp only
    by_cases q : s = stN σ k
    · right; rw [if_pos q]; decide
    · left; rw [if_neg q]
  · dsimp only
    rw [Nat.sub_zero]
    constructor
    · rintro ⟨s, w1, w2⟩
      by_cases q : s = stN σ k
      · rw [if_pos q, q] at w2; omega
      · rw [if_neg q] at w2; omega
    · intro q
      exact ⟨stN σ k, hst, by rw [if_pos rfl]; omega⟩
def ansR (F T : Nat) (fd : Nat → Nat) (c : Int32) : Int32 := if (-1 : Int32) ≤ c then (if F = 15 then -2 else if c < nI T then (if c = -1 then nI F else 1 + chz (fd c.toNatClampNeg)) else -2) else -1
def fdP (l : Nat → Nat → Int32) (p r b T s0 : Nat) (c : Nat) : Nat := fdF l p r b (T - c - 1) c (gsF l p r b T s0 c)
theorem neg_one {c : Int32} (h : (-1 : Int32) ≤ c) : c = -1 ∧ ¬ (0 : Int32) ≤ c ∨ ¬ c = -1 ∧ (0 : Int32) ≤ c ∧ ∃ n, n < 2 ^ 31 ∧ c = nI n := by
  have h1 := i32_le.mp h
  rw [show (-1 : Int32).toInt = -1 by decide] at h1
  by_cases g : c = -1
  · left
    exact ⟨g, by rw [g]; decide⟩
  · right
    have h2 : ¬ c.toInt = -1 := fun q => g (Int32.toInt_inj.mp (by rw [q]; decide))
    have h3 : (0 : Int32) ≤ c := i32_le.mpr (by rw [show (0 : Int32).toInt = 0 by decide]; omega)
    obtain ⟨n, hn, e⟩ := nI_of (show ¬ c < 0 from fun q => by have := i32_lt.mp q; rw [show (0 : Int32).toInt = 0 by decide] at this; omega)
    exact ⟨g, h3, n, hn, e⟩
theorem reins_m {σ τ : Sg} {nC nP m T : Nat} {g : Int32 → Int32 → Int32 → Int32 → Int32 → Int32 → Int32} {c : Int32} {Q : Int32 → Sg → Prop} (hB : Bs σ nC nP) (hq : Mq σ) (h3 : G3 g) (hM : ML σ g) (hF : Fx σ τ) (hm : m < 2 ^ 31) (hk : m / 10 < nC) (hp' : m % 10 < nP) (hT : T ≤ 12)
    (hQ : ∀ τ', Fm τ τ' → Q (ansR (fewF (lP g σ (m / 10) (vN σ 4 (m / 10))) (vN σ 4 (m / 10)) (vN σ 1 8) (vN σ 6 (m % 10)) T 0 (stN σ (m / 10))) T (fdP (lP g σ (m / 10) (vN σ 4 (m / 10))) (vN σ 4 (m / 10)) (vN σ 1 8) (vN σ 6 (m % 10)) T (stN σ (m / 10))) c) τ') : w_X12_reins (nI m) (nI T) c τ Q := by
  obtain ⟨hn, hp, en, ep⟩ := hB.1
  obtain ⟨⟨k1, k2⟩, ⟨k3, k4⟩, ⟨k5, k6, k7⟩, ⟨k8', k9⟩⟩ := hB.2.1 _ hk
  obtain ⟨s1, s2⟩ := (hB.2.2.1 _ hp').1
  have cc := c60_x hq hB hF
  have hLm := LM_of hB hq hF (Fm.refl τ)
  have e : ∀ c, 61 ≤ c → c ≤ 77 → τ.1 c = σ.1 c := fun c h1 h2 => hF.lo (by omega)
  have hG := GM_of hB hq h3 hM hk e (by rw [hF.lo (by omega)])
  have hst := stN_lt hB hk
  have hv8 : vp_in (nI (m % 10)) 8 := vp_nI (by omega) (by decide)
  have hvk : vp_in (nI (m / 10)) 6 := vp_nI (by omega) (by decide)
  unfold ansR at hQ
  unfold w_X12_reins
  refine pair_m hn hp cc.1 cc.2 (fun _ => ?_) (fun h => absurd ⟨m, hm, rfl, hk, hp'⟩ h)
  rw [if_neg one_ne]
  refine in_m (a := 0) (b := 12) (by decide) (by decide) (fun _ => ?_) (fun h => absurd (show inR (nI T) 0 12 by unfold inR; rw [nI_toInt (by omega)]; omega) h)
  rw [if_neg one_ne]
  by_cases g1 : (-1 : Int32) ≤ c
  · rw [if_pos g1]
    simp only [if_pos g1] at hQ
    rw [rem10 hm, div10 hm, bd_eq, cl_nI (by omega), cl_nI (by omega), (hLm.2.2.2.1 _ hp').1]
    refine ⟨hv8, findFew_m (by omega) (by omega) hG s2 hB.2.2.2.1.2 hLm.2.2.2.2.2 hT (Fm.refl τ) (fun τ1 hm1 ht1 => ⟨hvk, ?_⟩)⟩
    have x61 : τ1.1 61 (m / 10) = nI (stN σ (m / 10) / 8) := by rw [hm1.1 61 (by decide) (by decide), e 61 (by decide) (by decide), hq.1.1, k1]; unfold stN; congr 1; omega
    have x62 : τ1.1 62 (m / 10) = nI (stN σ (m / 10) % 8) := by rw [hm1.1 62 (by decide) (by decide), e 62 (by decide) (by decide), hq.1.2.1, k3]; unfold stN; congr 1; omega
    rw [bd_eq]
    refine ⟨hvk, ?_⟩
    rw [bd_eq, x61, x62]
    unfold w_X12_stateOf
    rw [st_8]
    refine fewAt_m (by omega) hst ?_
    rw [ht1.1 T _ (by omega) hst, Nat.sub_self]
    have h15 := few_le (l := lP g σ (m / 10) (vN σ 4 (m / 10))) (p := vN σ 4 (m / 10)) (r := vN σ 1 8) (b := vN σ 6 (m % 10)) T 0 (stN σ (m / 10))
    by_cases g2 : fewF (lP g σ (m / 10) (vN σ 4 (m / 10))) (vN σ 4 (m / 10)) (vN σ 1 8) (vN σ 6 (m % 10)) T 0 (stN σ (m / 10)) = 15
    · rw [if_pos (by rw [g2]; rfl)]
      simp only [if_pos g2] at hQ
      exact hQ τ1 hm1
    · rw [if_neg (show ¬ nI _ = 15 from fun q => g2 ((nI_eq (b := 15) (by omega) (by decide)).mp q))]
      simp only [if_neg g2] at hQ
      by_cases g3 : c < nI T
      · rw [if_pos g3]
        simp only [if_pos g3] at hQ
        rcases neg_one g1 with ⟨c1, c2⟩ | ⟨c1, c2, n, c3, c4⟩
        · rw [if_neg c2]
          simp only [if_pos c1] at hQ
          exact hQ τ1 hm1
        · rw [if_pos c2]
          simp only [if_neg c1] at hQ
          subst c4
          have hn : n < T := by
            have := i32_lt.mp g3
            rw [nI_toInt c3, nI_toInt (by omega)] at this
            omega
          rw [cl_nI (by omega)] at hQ
          rw [bd_eq]
          refine ⟨n + 1, ?_⟩
          refine go_m (s0 := stN σ (m / 10)) (by omega) (by omega) hG hT hn hst ht1 (fun τ2 hm2 => ?_) n 0 τ1 (by omega) hm1 rfl
          have h3f : fdF (lP g σ (m / 10) (vN σ 4 (m / 10))) (vN σ 4 (m / 10)) (vN σ 1 8) (vN σ 6 (m % 10)) (T - n - 1) n (gsF (lP g σ (m / 10) (vN σ 4 (m / 10))) (vN σ 4 (m / 10)) (vN σ 1 8) (vN σ 6 (m % 10)) T (stN σ (m / 10)) n) < 3 := fi_3 _ _ _
          rw [cl_nI (by omega), (chz_5 _ h3f).2]
          exact ⟨vp_nI h3f (by decide), hQ τ2 hm2⟩
      · rw [if_neg g3]
        simp only [if_neg g3] at hQ
        exact hQ τ1 hm1
  · rw [if_neg g1]
    simp only [if_neg g1] at hQ
    exact hQ τ (Fm.refl τ)
theorem reins_b {nC nP : Nat} {a b c : Int32} {σ : Sg} {Q : Int32 → Sg → Prop} (hn : nC ≤ 6) (hp : nP ≤ 8) (e : σ.1 60 1 = nI nC) (e' : σ.1 60 6 = nI nP) (h : ¬ (PR nC nP a ∧ inR b 0 12)) (hQ : Q (-1) σ) : w_X12_reins a b c σ Q := by
  unfold w_X12_reins
  refine pair_m hn hp e e' (fun h1 => ?_) (fun _ => by rw [if_pos rfl]; exact hQ)
  rw [if_neg one_ne]
  exact in_m (a := 0) (b := 12) (by decide) (by decide) (fun h2 => absurd ⟨h1, h2⟩ h) (fun _ => by rw [if_pos rfl]; exact hQ)
theorem op_reins {N : Nat} {σ : Sg} (hI : Inv N σ) (hN : N < 600) (a b c : Int32) {Q : Int32 → Int32 → Sg → Prop} (hQ : ∀ r σ', Inv (N + 1) σ' → Q r r σ') : w_X11_reins a b c σ (fun r σ1 => w_X12_reins a b c σ1 (fun r' σ2 => Q r r' σ2)) := by
  obtain ⟨nC, nP, g, hB, hq, h3, hX, hM⟩ := Inv_get hI
  have hK := Inv_K hI
  have hU := Inv_up hI
  obtain ⟨hn, hp, en, ep⟩ := hB.1
  have c60 := c60_x hq hB (Fx.refl σ)
  unfold w_X11_reins
  refine pair_x hn hp en ep (fun h1 => ?_) (fun h => by rw [if_pos rfl]; exact reins_b hn hp c60.1 c60.2 (fun q => h q.1) (hQ _ _ hU))
  rw [if_neg one_ne]
  refine within_x (a := 0) (b := 12) (by decide) (by decide) (fun h2 => ?_) (fun h => by rw [if_pos rfl]; exact reins_b hn hp c60.1 c60.2 (fun q => h q.2) (hQ _ _ hU))
  rw [if_neg one_ne]
  obtain ⟨m, hm, rfl, hk, hp'⟩ := id h1
  obtain ⟨T, hT, rfl⟩ := inR_num (v := b) (b := 12) h2 (by decide)
  obtain ⟨s1, s2⟩ := (hB.2.2.1 _ hp').1
  have hv8 : vp_in (nI (m % 10)) 8 := vp_nI (by omega) (by decide)
  have mrun : ∀ (τ : Sg) (v : Int32), Fx σ τ → IKb (16 * N + 1) τ → v = ansR (fewF (lP g σ (m / 10) (vN σ 4 (m / 10))) (vN σ 4 (m / 10)) (vN σ 1 8) (vN σ 6 (m % 10)) T 0 (stN σ (m / 10))) T (fdP (lP g σ (m / 10) (vN σ 4 (m / 10))) (vN σ 4 (m / 10)) (vN σ 1 8) (vN σ 6 (m % 10)) T (stN σ (m / 10))) c → w_X12_reins (nI m) (nI T) c τ (fun r' σ2 => Q v r' σ2) := by
    intro τ v hF hKτ ev
    refine reins_m hB hq h3 hM hF hm hk hp' hT (fun τ' hm' => ?_)
    rw [ev]
    exact hQ _ _ (th_e hI hF hKτ (by omega) hm')
  have hK' : IKb (16 * N + 1) σ := IKb_c hK (by omega) (fun _ _ => ⟨fun _ _ => rfl, rfl⟩)
  have h15 := few_le (l := lP g σ (m / 10) (vN σ 4 (m / 10))) (p := vN σ 4 (m / 10)) (r := vN σ 1 8) (b := vN σ 6 (m % 10)) T 0 (stN σ (m / 10))
  have hbp := bp_few (l := lP g σ (m / 10) (vN σ 4 (m / 10))) (p := vN σ 4 (m / 10)) (r := vN σ 1 8) (b := vN σ 6 (m % 10)) T 0 (stN σ (m / 10)) (by omega)
  have hlx := lx_lt (l := lP g σ (m / 10) (vN σ 4 (m / 10))) (p := vN σ 4 (m / 10)) (r := vN σ 1 8) (b := vN σ 6 (m % 10)) T 0 (stN σ (m / 10)) (by omega)
  rw [show 4 ^ (12 - 0) = 16777216 by decide] at hlx
  by_cases g1 : (-1 : Int32) ≤ c
  · rw [if_pos g1]
    by_cases g3 : c < nI T
    · rw [if_pos g3, rem10 hm, div10 hm, cl_nI (by omega), s1]
      refine ⟨hv8, fewest_x hB h3 hX hK hN hk s2 hT (fun τ hF hKτ => ?_)⟩
      rw [hbp]
      by_cases g2 : fewF (lP g σ (m / 10) (vN σ 4 (m / 10))) (vN σ 4 (m / 10)) (vN σ 1 8) (vN σ 6 (m % 10)) T 0 (stN σ (m / 10)) = 15
      · rw [if_pos g2, if_pos (show nI 2147483647 = (2147483647 : Int32) from rfl)]
        refine mrun τ _ hF hKτ ?_
        unfold ansR
        rw [if_pos g1, if_pos g2]
      · rw [if_neg g2]
        have hF12 : fewF (lP g σ (m / 10) (vN σ 4 (m / 10))) (vN σ 4 (m / 10)) (vN σ 1 8) (vN σ 6 (m % 10)) T 0 (stN σ (m / 10)) ≤ 12 := by omega
        have dig := fun k hk => digit (l := lP g σ (m / 10) (vN σ 4 (m / 10))) (p := vN σ 4 (m / 10)) (r := vN σ 1 8) (b := vN σ 6 (m % 10)) (T := T) (s0 := stN σ (m / 10)) (k := k) hT hk (fewF (lP g σ (m / 10) (vN σ 4 (m / 10))) (vN σ 4 (m / 10)) (vN σ 1 8) (vN σ 6 (m % 10)) T 0 (stN σ (m / 10)))
        rw [if_neg (show ¬ nI _ = (2147483647 : Int32) from fun q => by have := (nI_eq (b := 2147483647) (by omega) (by decide)).mp q; omega)]
        rcases neg_one g1 with ⟨c1, c2⟩ | ⟨c1, c2, n, c3, c4⟩
        · rw [if_pos c1]
          unfold w_X1_reinsIn
          refine mrun τ _ hF hKτ ?_
          unfold ansR
          rw [if_pos g1, if_neg g2, if_pos g3, if_pos c1]
          refine Eq.trans (pk_div (d := 16777216) (by omega) (by decide) (by decide)) ?_
          congr 1
          omega
        · rw [if_neg c1]
          subst c4
          have hn' : n < T := by
            have := i32_lt.mp g3
            rw [nI_toInt c3, nI_toInt (by omega)] at this
            omega
          unfold w_X1_reinAt w_X1_shiftOf
          have esh : (2 : Int32) * ((11 : Int32) - nI n) = nI (2 * (11 - n)) := by
            rw [show (11 : Int32) = nI 11 from rfl, pk_sub (by omega), show (2 : Int32) = nI 2 from rfl, pk_mul]
          have h3f : fdP (lP g σ (m / 10) (vN σ 4 (m / 10))) (vN σ 4 (m / 10)) (vN σ 1 8) (vN σ 6 (m % 10)) T (stN σ (m / 10)) n < 3 := fi_3 _ _ _
          have hP : 2 ^ (2 * (11 - n)) = 4 ^ (11 - n) := by rw [Nat.pow_mul]
          have hdl := fun X : Nat => Nat.div_le_self X (4 ^ (11 - n))
          have d2 := dig n hn'
          generalize hX' : fewF (lP g σ (m / 10) (vN σ 4 (m / 10))) (vN σ 4 (m / 10)) (vN σ 1 8) (vN σ 6 (m % 10)) T 0 (stN σ (m / 10)) * 16777216 + lxF (lP g σ (m / 10) (vN σ 4 (m / 10))) (vN σ 4 (m / 10)) (vN σ 1 8) (vN σ 6 (m % 10)) T 0 (stN σ (m / 10)) = X at *
          have hXl : X < 2000000000 := by omega
          have hdX := hdl X
          dsimp only
          rw [esh, bd_eq, n_shr (by omega) (by omega), hP, an3 (by omega), d2]
          rw [show fdF (lP g σ (m / 10) (vN σ 4 (m / 10))) (vN σ 4 (m / 10)) (vN σ 1 8) (vN σ 6 (m % 10)) (T - n - 1) n (gsF (lP g σ (m / 10) (vN σ 4 (m / 10))) (vN σ 4 (m / 10)) (vN σ 1 8) (vN σ 6 (m % 10)) T (stN σ (m / 10)) n) = fdP (lP g σ (m / 10) (vN σ 4 (m / 10))) (vN σ 4 (m / 10)) (vN σ 1 8) (vN σ 6 (m % 10)) T (stN σ (m / 10)) n from rfl]
          rw [if_neg (show ¬ (3 : Int32) ≤ nI _ from nI_ge (b := 3) (by omega) (by decide)), cl_nI (by omega), (chz_5 _ h3f).1]
          refine ⟨vp_nI h3f (by decide), mrun τ _ hF hKτ ?_⟩
          unfold ansR
          rw [if_pos g1, if_neg g2, if_pos g3, if_neg c1, cl_nI (by omega)]
    · rw [if_neg g3]
      refine mrun σ _ (Fx.refl σ) hK' ?_
      unfold ansR
      rw [if_pos g1, if_neg g3]
      split <;> rfl
  · rw [if_neg g1]
    refine mrun σ _ (Fx.refl σ) hK' ?_
    unfold ansR
    rw [if_neg g1]
