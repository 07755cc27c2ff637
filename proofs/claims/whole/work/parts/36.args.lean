/-! what calls ask of their arguments; readers -/
def CR (n : Nat) (a : Int32) : Prop := ∃ k, k < n ∧ a = nI k
def PR (nC nP : Nat) (a : Int32) : Prop := ∃ m, m < 2 ^ 31 ∧ a = nI m ∧ m / 10 < nC ∧ m % 10 < nP
def T2 (n : Nat) (a : Int32) : Prop := ∃ m, m < 2 ^ 31 ∧ a = nI m ∧ m / 10 < n ∧ m % 10 < n ∧ m / 10 ≠ m % 10
theorem CR_n {n j : Nat} (hj : j < 2 ^ 31) (hn : n ≤ 1000) (h : CR n (nI j)) : j < n := by
  obtain ⟨k, hk, e⟩ := h
  have := (nI_eq hj (by omega)).mp e
  omega
theorem ltI {n : Nat} {a : Int32} (hn : n ≤ 1000) {A B : Prop} (h1 : CR n a → A) (h0 : ¬ CR n a → B) : if a < 0 then B else if nI n ≤ a then B else A := by
  rcases num_cases (a := a) (n := n) (by omega) with h | ⟨h, h'⟩ | ⟨k, hk, rfl, h, h'⟩
  · rw [if_pos h]
    exact h0 (fun ⟨k, hk, e⟩ => absurd (e ▸ h) (nI_pos (by omega)))
  · rw [if_neg h, if_pos h']
    exact h0 (fun ⟨k, hk, e⟩ => absurd (e ▸ h') (nI_ge hk (by omega)))
  · rw [if_neg h, if_neg h']
    exact h1 ⟨k, hk, rfl⟩
theorem car_x {n : Nat} {a : Int32} {σ : Sg} {Q : Int32 → Sg → Prop} (hn : n ≤ 1000) (e : σ.1 1 4 = nI n) (h1 : CR n a → Q 1 σ) (h0 : ¬ CR n a → Q 0 σ) : w_X7_hasCarriage a σ Q := by
  unfold w_X7_hasCarriage
  rw [e]
  exact ltI hn h1 h0
theorem place_x {n : Nat} {a : Int32} {σ : Sg} {Q : Int32 → Sg → Prop} (hn : n ≤ 1000) (e : σ.1 1 7 = nI n) (h1 : CR n a → Q 1 σ) (h0 : ¬ CR n a → Q 0 σ) : w_X7_hasPlace a σ Q := by
  unfold w_X7_hasPlace
  rw [e]
  exact ltI hn h1 h0
theorem car_m {n : Nat} {a : Int32} {σ : Sg} {Q : Int32 → Sg → Prop} (hn : n ≤ 1000) (e : σ.1 60 1 = nI n) (h1 : CR n a → Q 1 σ) (h0 : ¬ CR n a → Q 0 σ) : w_X12_isCarriage a σ Q := by
  simp only [w_X12_isCarriage, w_X12_in, e, le_pred (show n < 1000000 by omega)]
  exact ltI hn (fun h => ⟨Or.inr trivial, h1 h⟩) (fun h => ⟨Or.inl trivial, h0 h⟩)
theorem place_m {n : Nat} {a : Int32} {σ : Sg} {Q : Int32 → Sg → Prop} (hn : n ≤ 1000) (e : σ.1 60 6 = nI n) (h1 : CR n a → Q 1 σ) (h0 : ¬ CR n a → Q 0 σ) : w_X12_isPlace a σ Q := by
  simp only [w_X12_isPlace, w_X12_in, e, le_pred (show n < 1000000 by omega)]
  exact ltI hn (fun h => ⟨Or.inr trivial, h1 h⟩) (fun h => ⟨Or.inl trivial, h0 h⟩)
theorem pair_x {nC nP : Nat} {a : Int32} {σ : Sg} {Q : Int32 → Sg → Prop} (hn : nC ≤ 6) (hp : nP ≤ 8) (e : σ.1 1 4 = nI nC) (e' : σ.1 1 7 = nI nP) (h1 : PR nC nP a → Q 1 σ) (h0 : ¬ PR nC nP a → Q 0 σ) : w_X11_isPair a σ Q := by
  unfold w_X11_isPair
  by_cases h : a < 0
  · rw [if_pos h]
    exact h0 (fun ⟨m, hm, e, _⟩ => absurd (e ▸ h) (nI_pos hm))
  · rw [if_neg h]
    obtain ⟨m, hm, rfl⟩ := nI_of h
    rw [rem10 hm, div10 hm]
    have key : PR nC nP (nI m) ↔ m / 10 < nC ∧ m % 10 < nP := ⟨fun ⟨m', hm', e, h2⟩ => by rw [(nI_eq hm hm').mp e]; exact h2, fun h => ⟨m, hm, rfl, h⟩⟩
    refine car_x (by omega) e (fun hc => ?_) (fun hc => ?_)
    · rw [if_neg one_ne]
      refine place_x (by omega) e' (fun hc' => ?_) (fun hc' => ?_)
      · rw [if_neg one_ne]
        exact h1 (key.mpr ⟨CR_n (by omega) (by omega) hc, CR_n (by omega) (by omega) hc'⟩)
      · rw [if_pos rfl]
        exact h0 (fun q => hc' ⟨_, (key.mp q).2, rfl⟩)
    · rw [if_pos rfl]
      exact h0 (fun q => hc ⟨_, (key.mp q).1, rfl⟩)
theorem pair_m {nC nP : Nat} {a : Int32} {σ : Sg} {Q : Int32 → Sg → Prop} (hn : nC ≤ 6) (hp : nP ≤ 8) (e : σ.1 60 1 = nI nC) (e' : σ.1 60 6 = nI nP) (h1 : PR nC nP a → Q 1 σ) (h0 : ¬ PR nC nP a → Q 0 σ) : w_X12_areNear a σ Q := by
  unfold w_X12_areNear
  by_cases h : a < 0
  · rw [if_pos h]
    exact h0 (fun ⟨m, hm, e, _⟩ => absurd (e ▸ h) (nI_pos hm))
  · rw [if_neg h]
    obtain ⟨m, hm, rfl⟩ := nI_of h
    rw [rem10 hm, div10 hm]
    have key : PR nC nP (nI m) ↔ m / 10 < nC ∧ m % 10 < nP := ⟨fun ⟨m', hm', e, h2⟩ => by rw [(nI_eq hm hm').mp e]; exact h2, fun h => ⟨m, hm, rfl, h⟩⟩
    refine car_m (by omega) e (fun hc => ?_) (fun hc => ?_)
    · rw [if_neg one_ne]
      refine place_m (by omega) e' (fun hc' => ?_) (fun hc' => ?_)
      · rw [if_neg one_ne]
        exact h1 (key.mpr ⟨CR_n (by omega) (by omega) hc, CR_n (by omega) (by omega) hc'⟩)
      · rw [if_pos rfl]
        exact h0 (fun q => hc' ⟨_, (key.mp q).2, rfl⟩)
    · rw [if_pos rfl]
      exact h0 (fun q => hc ⟨_, (key.mp q).1, rfl⟩)
theorem two_x {n : Nat} {a : Int32} {σ : Sg} {Q : Int32 → Sg → Prop} (hn : n ≤ 8) (e : σ.1 1 4 = nI n) (h1 : T2 n a → Q 1 σ) (h0 : ¬ T2 n a → Q 0 σ) : w_X11_areTwoCarriages a σ Q := by
  unfold w_X11_areTwoCarriages
  by_cases h : a < 0
  · rw [if_pos h]
    exact h0 (fun ⟨m, hm, e, _⟩ => absurd (e ▸ h) (nI_pos hm))
  · rw [if_neg h]
    obtain ⟨m, hm, rfl⟩ := nI_of h
    rw [rem10 hm, div10 hm]
    have key : T2 n (nI m) ↔ m / 10 < n ∧ m % 10 < n ∧ m / 10 ≠ m % 10 := ⟨fun ⟨m', hm', e, h2⟩ => by rw [(nI_eq hm hm').mp e]; exact h2, fun h => ⟨m, hm, rfl, h⟩⟩
    refine car_x (by omega) e (fun hc => ?_) (fun hc => ?_)
    · rw [if_neg one_ne]
      refine car_x (by omega) e (fun hc' => ?_) (fun hc' => ?_)
      · rw [if_neg one_ne]
        by_cases g : m / 10 = m % 10
        · rw [if_pos (by rw [g])]
          exact h0 (fun q => (key.mp q).2.2 g)
        · rw [if_neg (fun q => g ((nI_eq (by omega) (by omega)).mp q))]
          exact h1 (key.mpr ⟨CR_n (by omega) (by omega) hc, CR_n (by omega) (by omega) hc', g⟩)
      · rw [if_pos rfl]
        exact h0 (fun q => hc' ⟨_, (key.mp q).2.1, rfl⟩)
    · rw [if_pos rfl]
      exact h0 (fun q => hc ⟨_, (key.mp q).1, rfl⟩)
theorem two_m {n : Nat} {a : Int32} {σ : Sg} {Q : Int32 → Sg → Prop} (hn : n ≤ 8) (e : σ.1 60 1 = nI n) (h1 : T2 n a → Q 1 σ) (h0 : ¬ T2 n a → Q 0 σ) : w_X12_areTwo a σ Q := by
  unfold w_X12_areTwo
  by_cases h : a < 0
  · rw [if_pos h]
    exact h0 (fun ⟨m, hm, e, _⟩ => absurd (e ▸ h) (nI_pos hm))
  · rw [if_neg h]
    obtain ⟨m, hm, rfl⟩ := nI_of h
    rw [rem10 hm, div10 hm]
    have key : T2 n (nI m) ↔ m / 10 < n ∧ m % 10 < n ∧ m / 10 ≠ m % 10 := ⟨fun ⟨m', hm', e, h2⟩ => by rw [(nI_eq hm hm').mp e]; exact h2, fun h => ⟨m, hm, rfl, h⟩⟩
    refine car_m (by omega) e (fun hc => ?_) (fun hc => ?_)
    · rw [if_neg one_ne]
      refine car_m (by omega) e (fun hc' => ?_) (fun hc' => ?_)
      · rw [if_neg one_ne]
        by_cases g : m / 10 = m % 10
        · rw [if_pos (by rw [g])]
          exact h0 (fun q => (key.mp q).2.2 g)
        · rw [if_neg (fun q => g ((nI_eq (by omega) (by omega)).mp q))]
          exact h1 (key.mpr ⟨CR_n (by omega) (by omega) hc, CR_n (by omega) (by omega) hc', g⟩)
      · rw [if_pos rfl]
        exact h0 (fun q => hc' ⟨_, (key.mp q).2.1, rfl⟩)
    · rw [if_pos rfl]
      exact h0 (fun q => hc ⟨_, (key.mp q).1, rfl⟩)
theorem hours_m {a : Int32} {σ : Sg} {Q : Int32 → Sg → Prop} (h1 : inR a 0 60 → Q 1 σ) (h0 : ¬ inR a 0 60 → Q 0 σ) : w_X12_areHours a σ Q := by
  unfold w_X12_areHours
  exact in_m (a := 0) (b := 60) (by decide) (by decide) (fun h => ⟨Or.inr rfl, h1 h⟩) (fun h => ⟨Or.inl rfl, h0 h⟩)
theorem cell_m {a : Int32} {σ : Sg} {Q : Int32 → Sg → Prop} (h1 : inR a 0 255 → Q 1 σ) (h0 : ¬ inR a 0 255 → Q 0 σ) : w_X12_isCell a σ Q := by
  unfold w_X12_isCell
  exact in_m (a := 0) (b := 255) (by decide) (by decide) (fun h => ⟨Or.inr rfl, h1 h⟩) (fun h => ⟨Or.inl rfl, h0 h⟩)
theorem shelf_m {a : Int32} {σ : Sg} {Q : Int32 → Sg → Prop} (h1 : inR a 0 5 → Q 1 σ) (h0 : ¬ inR a 0 5 → Q 0 σ) : w_X12_isShelf a σ Q := by
  unfold w_X12_isShelf
  exact in_m (a := 0) (b := 5) (by decide) (by decide) (fun h => ⟨Or.inr rfl, h1 h⟩) (fun h => ⟨Or.inl rfl, h0 h⟩)
theorem shelf_x {a : Int32} {σ : Sg} {Q : Int32 → Sg → Prop} (h1 : inR a 0 5 → Q 1 σ) (h0 : ¬ inR a 0 5 → Q 0 σ) : w_X11_isShelf a σ Q := by
  unfold w_X11_isShelf
  exact within_x (a := 0) (b := 5) (by decide) (by decide) (fun h => ⟨Or.inr rfl, h1 h⟩) (fun h => ⟨Or.inl rfl, h0 h⟩)
theorem inR_num {v : Int32} {b : Nat} (h : inR v 0 b) (hb : b < 1000000) : ∃ n, n ≤ b ∧ v = nI n := inR_nat h hb
/-- land as the readers find it -/
def LX (σ : Sg) (nC nP r : Nat) (sp wo : Nat → Nat) : Prop := (nC ≤ 6 ∧ nP ≤ 8 ∧ r ≤ 5) ∧ σ.1 1 4 = nI nC ∧ σ.1 1 7 = nI nP ∧ (∀ q, q < nP → σ.1 6 q = nI (sp q) ∧ sp q < 256) ∧ (∀ q, q < nP → σ.1 7 q = nI (wo q) ∧ wo q ≤ 9) ∧ σ.1 1 8 = nI r
def LM (σ : Sg) (nC nP r : Nat) (sp wo : Nat → Nat) : Prop := (nC ≤ 6 ∧ nP ≤ 8 ∧ r ≤ 5) ∧ σ.1 60 1 = nI nC ∧ σ.1 60 6 = nI nP ∧ (∀ q, q < nP → σ.1 65 q = nI (sp q) ∧ sp q < 256) ∧ (∀ q, q < nP → σ.1 66 q = nI (wo q) ∧ wo q ≤ 9) ∧ σ.1 67 0 = nI r
theorem LX_of {σ0 σ : Sg} {nC nP : Nat} (hB : Bs σ0 nC nP) (hF : Fx σ0 σ) : LX σ nC nP (vN σ0 1 8) (vN σ0 6) (vN σ0 7) := by
  obtain ⟨⟨b1, b2, b3, b4⟩, b5, b6, b7, b8⟩ := hB
  refine ⟨⟨b1, b2, b7.2⟩, by rw [hF.lo (by omega), b3], by rw [hF.lo (by omega), b4], fun q hq => ?_, fun q hq => ?_, by rw [hF.lo (by omega), b7.1]⟩
  · rw [hF.lo (by omega)]; exact (b6 q hq).1
  · rw [hF.lo (by omega)]; exact (b6 q hq).2
theorem LM_of {σ0 σx σ : Sg} {nC nP : Nat} (hB : Bs σ0 nC nP) (hq : Mq σ0) (hF : Fx σ0 σx) (hm : Fm σx σ) : LM σ nC nP (vN σ0 1 8) (vN σ0 6) (vN σ0 7) := by
  obtain ⟨⟨b1, b2, b3, b4⟩, b5, b6, b7, b8⟩ := hB
  obtain ⟨⟨a1, a2, a3, a4, a5, a6⟩, ⟨e1, e2, e3, e4, e5⟩⟩ := hq
  have e : ∀ c, 61 ≤ c → c ≤ 77 → σ.1 c = σ0.1 c := fun c h1 h2 => by rw [hm.1 c (by omega) (by omega), hF.lo (by omega)]
  refine ⟨⟨b1, b2, b7.2⟩, by rw [hm.2.1 1 (by decide) (by decide) (by decide), hF.lo (by omega), e1, b3], by rw [hm.2.1 6 (by decide) (by decide) (by decide), hF.lo (by omega), e2, b4], fun q hq => ?_, fun q hq => ?_, by rw [e 67 (by decide) (by decide), e3, b7.1]⟩
  · rw [e 65 (by decide) (by decide), a5]; exact (b6 q hq).1
  · rw [e 66 (by decide) (by decide), a6]; exact (b6 q hq).2
def JX (σ : Sg) (k n : Nat) (s : Nat → Nat) : Prop := ∀ t, t ≤ n → σ.1 29 (61 * k + t) = nI (s t) ∧ s t < 2048
def JM (σ : Sg) (k : Nat) (s : Nat → Nat) : Prop := ∀ t, t < 61 → σ.1 80 (61 * k + t) = nI (s t / 8) ∧ s t < 2048
theorem ix_x {k t : Nat} : (nI k * (61 : Int32)) + nI t = nI (61 * k + t) := by rw [show (61 : Int32) = nI 61 from rfl, pk_mul, nI_add, Nat.mul_comm]
theorem ix_m {k t : Nat} : ((61 : Int32) * nI k) + nI t = nI (61 * k + t) := by rw [show (61 : Int32) = nI 61 from rfl, pk_mul, nI_add]
theorem cellB_x {σ : Sg} {k t s : Nat} {Q : Int32 → Sg → Prop} (hk : k < 6) (ht : t < 61) (h : σ.1 29 (61 * k + t) = nI s) (hs : s < 2048) : w_X6_cellBehind (nI k) (nI t) σ Q = Q (nI (s / 8)) σ := by
  unfold w_X6_cellBehind
  rw [ix_x, cl_nI (by omega), h, sh3 (by omega)]
  have := vp_nI (k := 61 * k + t) (n := 366) (by omega) (by decide)
  simp only [this, true_and]
theorem wayB_x {σ : Sg} {k t s : Nat} {Q : Int32 → Sg → Prop} (hk : k < 6) (ht : t < 61) (h : σ.1 29 (61 * k + t) = nI s) (hs : s < 2048) : w_X6_wayBehind (nI k) (nI t) σ Q = Q (nI (s % 8)) σ := by
  unfold w_X6_wayBehind
  rw [ix_x, cl_nI (by omega), h, an7 (by omega)]
  have := vp_nI (k := 61 * k + t) (n := 366) (by omega) (by decide)
  simp only [this, true_and]
/-- near, as a truth -/
def nr (r a b : Nat) : Bool := decide (ap a b ≤ r)
theorem nrX {a b r : Nat} (ha : a < 256) (hb : b < 256) (hr : r ≤ 5) {σ : Sg} (h : σ.1 1 8 = nI r) {Q : Int32 → Sg → Prop} : w_X7_near (nI a) (nI b) σ Q = Q (if nr r a b = true then 1 else 0) σ := by
  rw [near_x ha hb (by omega) h]
  unfold nr
  simp only [decide_eq_true_eq]
theorem nrM {a b r : Nat} (ha : a < 256) (hb : b < 256) (hr : r ≤ 5) {σ : Sg} (h : σ.1 67 0 = nI r) {Q : Int32 → Sg → Prop} : w_X12_nearTo (nI a) (nI b) σ Q = Q (if nr r a b = true then 1 else 0) σ := by
  rw [near_m ha hb (by omega) h]
  unfold nr
  simp only [decide_eq_true_eq]
theorem dst_comm (x y : Nat) : dst x y = dst y x := by unfold dst; omega
theorem ap_comm (a b : Nat) : ap a b = ap b a := by unfold ap; rw [dst_comm, dst_comm (b / 16)]
theorem nr_comm (r a b : Nat) : nr r a b = nr r b a := by unfold nr; rw [ap_comm]
def PN (r nP : Nat) (sp : Nat → Nat) (c : Nat) : Nat := bN nP (fun q => nr r c (sp q))
theorem pN_l {σ : Sg} {nC nP r c : Nat} {sp wo : Nat → Nat} {Q : Int32 → Sg → Prop} (hL : LX σ nC nP r sp wo) (hc : c < 256) (hQ : Q (nI (PN r nP sp c)) σ) : ∀ (d i : Nat), i + d = nP → w_X7_placesNear_l4 (nI c) Q (d + 1) (nI (bN i (fun q => nr r c (sp q)))) (nI i) σ
  | 0, i, h => by
    obtain ⟨⟨l1, l2, l3⟩, l4, l5, l6, l7, l8⟩ := id hL
    have : i = nP := by omega
    subst this
    unfold w_X7_placesNear_l4
    rw [l5, if_pos (nI_le (Nat.le_refl _) (by omega))]
    exact hQ
  | d + 1, i, h => by
    obtain ⟨⟨l1, l2, l3⟩, l4, l5, l6, l7, l8⟩ := id hL
    unfold w_X7_placesNear_l4
    rw [l5, if_neg (nI_ge (by omega) (by omega)), cl_nI (by omega), (l6 i (by omega)).1, nrX hc (l6 i (by omega)).2 l3 l8, bd_eq, nI_1]
    refine ⟨vp_nI (by omega) (by decide), ?_⟩
    have ih := pN_l hL hc hQ d (i + 1) (by omega)
    by_cases g : nr r c (sp i) = true
    · rw [if_pos g, if_neg one_ne, bd_eq, bN_set (P := fun q => nr r c (sp q)) (by omega) g]
      exact ih
    · rw [if_neg g, if_pos rfl]
      rw [bN_not (by simpa using g)] at ih
      exact ih
theorem pN_x {σ : Sg} {nC nP r c : Nat} {sp wo : Nat → Nat} {Q : Int32 → Sg → Prop} (hL : LX σ nC nP r sp wo) (hc : c < 256) (hQ : Q (nI (PN r nP sp c)) σ) : w_X7_placesNear (nI c) σ Q := ⟨nP + 1, pN_l hL hc hQ nP 0 (by omega)⟩
theorem has_m {a b : Int32} {σ : Sg} {Q : Int32 → Sg → Prop} : w_X12_has a b σ Q = if ((a >>> (b &&& 31)) &&& (1 : Int32)) = (1 : Int32) then Q 1 σ else Q 0 σ := rfl
