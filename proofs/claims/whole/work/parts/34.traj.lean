/-! from what holds, to where carriages are -/
def vN (σ : Sg) (c k : Nat) : Nat := (σ.1 c k).toNatClampNeg
theorem vN_of {σ : Sg} {c k b : Nat} (h : inR (σ.1 c k) 0 b) (hb : b < 1000000) : σ.1 c k = nI (vN σ c k) ∧ vN σ c k ≤ b := by
  obtain ⟨n, h1, h2⟩ := inR_nat h hb
  have : vN σ c k = n := by unfold vN; rw [h2, cl_nI (by omega)]
  rw [this]
  exact ⟨h2, h1⟩
def Bs (σ : Sg) (nC nP : Nat) : Prop := (nC ≤ 6 ∧ nP ≤ 8 ∧ σ.1 1 4 = nI nC ∧ σ.1 1 7 = nI nP) ∧
  (∀ k, k < nC → (σ.1 2 k = nI (vN σ 2 k) ∧ vN σ 2 k < 256) ∧ (σ.1 3 k = nI (vN σ 3 k) ∧ vN σ 3 k < 8) ∧ (σ.1 4 k = nI (vN σ 4 k) ∧ 1 ≤ vN σ 4 k ∧ vN σ 4 k ≤ 4) ∧ (σ.1 5 k = nI (vN σ 5 k) ∧ vN σ 5 k ≤ 9)) ∧
  (∀ q, q < nP → (σ.1 6 q = nI (vN σ 6 q) ∧ vN σ 6 q < 256) ∧ (σ.1 7 q = nI (vN σ 7 q) ∧ vN σ 7 q ≤ 9)) ∧
  (σ.1 1 8 = nI (vN σ 1 8) ∧ vN σ 1 8 ≤ 5) ∧ (σ.1 1 10 = nI (vN σ 1 10) ∧ vN σ 1 10 ≤ 99)
def Mq (σ : Sg) : Prop := (σ.1 61 = σ.1 2 ∧ σ.1 62 = σ.1 3 ∧ σ.1 63 = σ.1 4 ∧ σ.1 64 = σ.1 5 ∧ σ.1 65 = σ.1 6 ∧ σ.1 66 = σ.1 7) ∧
  (σ.1 60 1 = σ.1 1 4 ∧ σ.1 60 6 = σ.1 1 7 ∧ σ.1 67 0 = σ.1 1 8 ∧ σ.1 67 1 = σ.1 1 9 ∧ σ.1 67 2 = σ.1 1 10)
def G3 (g : Int32 → Int32 → Int32 → Int32 → Int32 → Int32 → Int32) : Prop := ∀ w s h d k p, t3 (g w s h d k p)
theorem t3_of {v : Int32} (h : inR v (-1) 1) : t3 v := by
  have h1 := h.1
  have h2 := h.2
  have : v.toInt = -1 ∨ v.toInt = 0 ∨ v.toInt = 1 := by omega
  rcases this with h | h | h
  · exact Or.inl (Int32.toInt_inj.mp (by rw [h]; decide))
  · exact Or.inr (Or.inl (Int32.toInt_inj.mp (by rw [h]; decide)))
  · exact Or.inr (Or.inr (Int32.toInt_inj.mp (by rw [h]; decide)))
theorem Inv_get {N : Nat} {σ : Sg} (hI : Inv N σ) : ∃ nC nP g, Bs σ nC nP ∧ Mq σ ∧ G3 g ∧ XL σ g ∧ ML σ g := by
  obtain ⟨hA, -, -, -, -, -, -, g, hg, hX, hM⟩ := hI
  obtain ⟨ha, he, ⟨nC, nP, ⟨hn, en⟩, ⟨hp, ep⟩, hr, hq⟩, r1, r2, r3⟩ := hA
  refine ⟨nC, nP, g, ⟨⟨hn, hp, en, ep⟩, fun k hk => ?_, fun q hk => ?_, vN_of (b := 5) r1 (by decide), vN_of (b := 99) r3 (by decide)⟩, ⟨ha, he⟩, fun w s h d k p => t3_of (hg w s h d k p), hX, hM⟩
  · obtain ⟨q1, q2, q3, q4⟩ := hr k hk
    have p3 := vN_of (b := 4) (σ := σ) (c := 4) (k := k) ⟨by have := q3.1; omega, q3.2⟩ (by decide)
    have p1 := vN_of (b := 255) q1 (by decide)
    have p2 := vN_of (b := 7) q2 (by decide)
    refine ⟨⟨p1.1, by omega⟩, ⟨p2.1, by omega⟩, ⟨p3.1, ?_, p3.2⟩, vN_of (b := 9) q4 (by decide)⟩
    have := q3.1
    rw [p3.1, nI_toInt (by omega)] at this
    omega
  · obtain ⟨q1, q2⟩ := hq q hk
    have p1 := vN_of (b := 255) q1 (by decide)
    exact ⟨⟨p1.1, by omega⟩, vN_of (b := 9) q2 (by decide)⟩
/-- what hours in thought leave: the class's, the reference's -/
def SX (c : Nat) : Prop := c = 8 ∨ c = 10 ∨ (16 ≤ c ∧ c ≤ 27) ∨ c = 29 ∨ c = 30 ∨ c = 33 ∨ c = 34 ∨ c = 35
def Fx (σ σ' : Sg) : Prop := (∀ c, ¬ SX c → σ'.1 c = σ.1 c) ∧ σ'.1 8 1 = σ.1 8 1 ∧ (∀ k, k < 6 → σ'.1 (16 + 2 * k) 0 = σ.1 (16 + 2 * k) 0) ∧ σ'.2 = σ.2
theorem Fx.refl (σ : Sg) : Fx σ σ := ⟨fun _ _ => rfl, rfl, fun _ _ => rfl, rfl⟩
theorem Fx.trans {a b c : Sg} (h1 : Fx a b) (h2 : Fx b c) : Fx a c := ⟨fun x h => (h2.1 x h).trans (h1.1 x h), h2.2.1.trans h1.2.1, fun x h => (h2.2.2.1 x h).trans (h1.2.2.1 x h), h2.2.2.2.trans h1.2.2.2⟩
theorem Fx.lo {σ σ' : Sg} (h : Fx σ σ') {c : Nat} (hc : c < 8 ∨ c = 9 ∨ (10 < c ∧ c < 16) ∨ c = 28 ∨ c = 31 ∨ c = 32 ∨ 35 < c) : σ'.1 c = σ.1 c := h.1 c (by unfold SX; omega)
theorem Fx.set {σ : Sg} {c k : Nat} {v : Int32} (hc : c = 10 ∨ c = 29 ∨ c = 30 ∨ c = 33 ∨ c = 34 ∨ c = 35) : Fx σ (sI σ c k v) := ⟨fun x hx => rd_ne (fun e => hx (by unfold SX; omega)), by rw [rd_ne (by omega)], fun j hj => by rw [rd_ne (by omega)], rfl⟩
theorem Fx.setr {σ : Sg} {c : Nat} {v : Nat → Int32} (hc : c = 10 ∨ c = 29 ∨ c = 30 ∨ c = 33 ∨ c = 34 ∨ c = 35) : Fx σ (sIr σ c v) := ⟨fun x hx => rdr_ne (fun e => hx (by unfold SX; omega)), by rw [rdr_ne (by omega)], fun j hj => by rw [rdr_ne (by omega)], rfl⟩
theorem Fx.of_k {k : Nat} {σ σ' : Sg} (hk : k < 6) (h : Fk k σ σ') : Fx σ σ' := ⟨fun x hx => h.1 x (fun e => hx (by unfold SX; omega)) (fun e => hx (by unfold SX; omega)) (fun e => hx (by unfold SX; omega)) (fun e => hx (by unfold SX; omega)), h.2.1, fun j hj => by
  by_cases e : j = k
  · subst e; exact h.2.2.1 0 (by decide)
  · rw [h.1 _ (by omega) (by omega) (by omega) (by omega)], h.2.2.2⟩
def Fm (σ σ' : Sg) : Prop := (∀ c, c ≠ 60 → (c < 78 ∨ 83 < c) → σ'.1 c = σ.1 c) ∧ (∀ k, k ≠ 30 → k ≠ 31 → k ≠ 32 → σ'.1 60 k = σ.1 60 k) ∧ (∀ c, c ≠ 60 → σ'.2 c = σ.2 c)
theorem Fm.refl (σ : Sg) : Fm σ σ := ⟨fun _ _ _ => rfl, fun _ _ _ _ => rfl, fun _ _ => rfl⟩
theorem Fm.trans {a b c : Sg} (h1 : Fm a b) (h2 : Fm b c) : Fm a c := ⟨fun x h h' => (h2.1 x h h').trans (h1.1 x h h'), fun x h h' h'' => (h2.2.1 x h h' h'').trans (h1.2.1 x h h' h''), fun x h => (h2.2.2 x h).trans (h1.2.2 x h)⟩
theorem Fh.m {a b : Sg} (h : Fh a b) : Fm a b := ⟨fun c h1 h2 => h.1 c h1 (by omega) (by omega), h.2.1, fun c _ => by rw [h.2.2]⟩
theorem Fm.law {σ σ' : Sg} (h : Fm σ σ') : sameLaw σ σ' := sameLaw_of (h.1 73 (by decide) (by decide)) (h.1 74 (by decide) (by decide)) (h.1 75 (by decide) (by decide)) (h.1 76 (by decide) (by decide)) (h.1 77 (by decide) (by decide)) (h.2.1 29 (by decide) (by decide) (by decide))
theorem Fm.set {σ : Sg} {c k : Nat} {v : Int32} (hc : 78 ≤ c ∧ c ≤ 83) : Fm σ (sI σ c k v) := ⟨fun x _ hx => rd_ne (by omega), fun j _ _ _ => by rw [rd_ne (by omega)], fun _ _ => rfl⟩
theorem IS_c2 {σ σ' : Sg} (h : IS σ) (e1 : σ'.1 57 1 = σ.1 57 1) (e2 : σ'.1 91 = σ.1 91) (e3 : σ'.1 92 = σ.1 92) (e4 : ∀ s, s < 6 → σ'.1 (45 + 2 * s) = σ.1 (45 + 2 * s)) (e5 : ∀ c, c ≠ 60 → σ'.2 c = σ.2 c) : IS σ' := by
  obtain ⟨b, h1, h2, h3⟩ := h
  exact ⟨b, h1, e1.trans h2, fun s hs => by rw [e2, e3, e4 s hs, e5 93 (by decide), e5 (46 + 2 * s) (by omega)]; exact h3 s hs⟩
theorem Inv_th {N : Nat} {σ σ1 σ2 : Sg} (hI : Inv N σ) (h1 : Fx σ σ1) (h2 : Fm σ1 σ2) (hK : IKb (16 * (N + 1)) σ1) : Inv (N + 1) σ2 := by
  obtain ⟨hA, hT, hC, hI2, hB, hS, -, hL⟩ := hI
  have e : ∀ c, (c < 8 ∨ c = 9 ∨ (10 < c ∧ c < 16) ∨ c = 28 ∨ c = 31 ∨ c = 32 ∨ (35 < c ∧ c < 60) ∨ (60 < c ∧ c < 78) ∨ 83 < c) → σ2.1 c = σ.1 c := fun c hc => by rw [h2.1 c (by omega) (by omega), h1.lo (by omega)]
  have e6 : ∀ k, k ≠ 30 → k ≠ 31 → k ≠ 32 → σ2.1 60 k = σ.1 60 k := fun k a b c => by rw [h2.2.1 k a b c, h1.lo (by omega)]
  have ed : ∀ c, c ≠ 60 → σ2.2 c = σ.2 c := fun c hc => by rw [h2.2.2 c hc, h1.2.2.2]
  refine ⟨IA_c hA (e 1 (by omega)) ⟨e 2 (by omega), e 3 (by omega), e 4 (by omega), e 5 (by omega), e 6 (by omega), e 7 (by omega)⟩ ⟨e 61 (by omega), e 62 (by omega), e 63 (by omega), e 64 (by omega), e 65 (by omega), e 66 (by omega)⟩ (e6 1 (by decide) (by decide) (by decide)) (e6 6 (by decide) (by decide) (by decide)) (e 67 (by omega)),
    IT_c hT (by rw [e 0 (by omega)]) (e6 17 (by decide) (by decide) (by decide)) (e 14 (by omega)) (e 72 (by omega)),
    IC_c hC (by rw [e 1 (by omega)]) (by rw [e 1 (by omega)]) (e 36 (by omega)) (e 37 (by omega)) (e6 10 (by decide) (by decide) (by decide)) (e6 11 (by decide) (by decide) (by decide)) (e 68 (by omega)) (e 69 (by omega)) (e 70 (by omega)) (e 71 (by omega)),
    II_c hI2 (e 84 (by omega)) (e 39 (by omega)) (e 38 (by omega)) (e6 40 (by decide) (by decide) (by decide)) (e6 41 (by decide) (by decide) (by decide)) (e6 42 (by decide) (by decide) (by decide)) (by rw [e 1 (by omega)]) ⟨e 40 (by omega), e 41 (by omega), e 42 (by omega), e 43 (by omega)⟩ ⟨e 85 (by omega), e 86 (by omega), e 87 (by omega), e 88 (by omega)⟩,
    IB_c hB (e 89 (by omega)) (e 90 (by omega)) (e 58 (by omega)) (e 59 (by omega)) (by rw [e 57 (by omega)]) (by rw [e 57 (by omega)]) (e6 47 (by decide) (by decide) (by decide)) (e6 49 (by decide) (by decide) (by decide)),
    IS_c2 hS (by rw [e 57 (by omega)]) (e 91 (by omega)) (e 92 (by omega)) (fun s hs => e _ (by omega)) ed, ?_,
    IL_c hL (e 9 (by omega)) (by rw [h2.1 8 (by decide) (by decide), h1.2.1]) (sameLaw_of (e 73 (by omega)) (e 74 (by omega)) (e 75 (by omega)) (e 76 (by omega)) (e 77 (by omega)) (e6 29 (by decide) (by decide) (by decide)))⟩
  intro k hk
  obtain ⟨q1, q2⟩ := hK k hk
  rw [h2.1 (16 + 2 * k) (by omega) (by omega), h2.1 (17 + 2 * k) (by omega) (by omega)]
  exact ⟨q1, q2⟩
theorem Inv_K {N : Nat} {σ : Sg} (hI : Inv N σ) : IKb (16 * N) σ := hI.2.2.2.2.2.2.1
def tr (l : Nat → Nat → Int32) (p s : Nat) : Nat → Nat
  | 0 => s
  | t + 1 => nx l p (tr l p s t) t 0
theorem tr_lt {l : Nat → Nat → Int32} {p s : Nat} (h : s < 2048) : ∀ t, tr l p s t < 2048
  | 0 => h
  | t + 1 => nx_lt (tr_lt h t)
def lP (g : Int32 → Int32 → Int32 → Int32 → Int32 → Int32 → Int32) (σ : Sg) (k p : Nat) : Nat → Nat → Int32 := lw g (σ.1 1 9) (vN σ 5 k) (vN σ 1 10) k p
def stN (σ : Sg) (k : Nat) : Nat := 8 * vN σ 2 k + vN σ 3 k
def TR (g : Int32 → Int32 → Int32 → Int32 → Int32 → Int32 → Int32) (σ : Sg) (k t : Nat) : Nat := tr (lP g σ k (vN σ 4 k)) (vN σ 4 k) (stN σ k) t
theorem lw_3 {g : Int32 → Int32 → Int32 → Int32 → Int32 → Int32 → Int32} (h : G3 g) {wi : Int32} {sh ho k p : Nat} (t w : Nat) : t3 (lw g wi sh ho k p t w) := h _ _ _ _ _ _
theorem stN_lt {σ : Sg} {nC nP k : Nat} (h : Bs σ nC nP) (hk : k < nC) : stN σ k < 2048 := by
  obtain ⟨⟨-, a⟩, ⟨-, b⟩, -⟩ := h.2.1 k hk
  unfold stN
  omega
theorem TR_lt {g : Int32 → Int32 → Int32 → Int32 → Int32 → Int32 → Int32} {σ : Sg} {nC nP k : Nat} (h : Bs σ nC nP) (hk : k < nC) (t : Nat) : TR g σ k t < 2048 := tr_lt (stN_lt h hk) t
/-- what start() leaves -/
def Fst (k : Nat) (σ σ' : Sg) : Prop := (∀ c, c ≠ 16 + 2 * k → σ'.1 c = σ.1 c) ∧ (∀ i, i ≠ 4 → i ≠ 5 → σ'.1 (16 + 2 * k) i = σ.1 (16 + 2 * k) i) ∧ σ'.2 = σ.2
theorem Fst.x {k : Nat} {σ σ' : Sg} (hk : k < 6) (h : Fst k σ σ') : Fx σ σ' := ⟨fun x hx => h.1 x (fun e => hx (by unfold SX; omega)), by rw [h.1 8 (by omega)], fun j hj => by
  by_cases e : j = k
  · subst e; exact h.2.1 0 (by decide) (by decide)
  · rw [h.1 _ (by omega)], h.2.2⟩
theorem start_x {k p sh ho M : Nat} {g : Int32 → Int32 → Int32 → Int32 → Int32 → Int32 → Int32} {σ : Sg} {Q : Sg → Prop} (hk : k < 6) (h3 : G3 g) (hX : XL σ g) (h5 : σ.1 5 k = nI sh) (hsh : sh ≤ 9) (h10 : σ.1 1 10 = nI ho) (hho : ho ≤ 99) (hK : IKb M σ) (hM : M < 100000)
    (hQ : ∀ σ', Fst k σ σ' → CoK σ' k p (lw g (σ.1 1 9) sh ho k p) → IKb (M + 1) σ' → Q σ') : w_X3_start k (nI p) σ Q := by
  unfold w_X3_start
  simp only [bd_eq]
  obtain ⟨q1, s, q2, q3, q4⟩ := hK k hk
  have e5 : (sI σ (16 + 2 * k) 4 (nI p)).1 (16 + 2 * k) 5 = nI s := by rw [rd_in, if_neg (by decide), q3]
  rw [e5, nI_1]
  have hf : Fst k σ (sI (sI σ (16 + 2 * k) 4 (nI p)) (16 + 2 * k) 5 (nI (s + 1))) := ⟨fun c h => by rw [rd_ne h, rd_ne h], fun i h h' => by rw [rd_in, if_neg h', rd_in, if_neg h], rfl⟩
  refine hQ _ hf ?_ ?_
  · refine ⟨⟨by rw [hf.2.1 0 (by decide) (by decide), q1], by rw [rd_in, if_neg (by decide), rd_in, if_pos rfl]⟩, fun t w => lw_3 h3 t w, ⟨g, sh, ho, XL_c hX (hf.1 9 (by omega)) (by rw [hf.1 8 (by omega)]), by rw [hf.1 5 (by omega), h5], hsh, by rw [hf.1 1 (by omega), h10], hho, by rw [hf.1 1 (by omega)]⟩, s + 1, by omega, by rw [rd_in, if_pos rfl], fun i hi => ?_⟩
    obtain ⟨v, v1, v2⟩ := q4 i hi
    rw [hf.1 _ (by omega)]
    exact ⟨v, v1, by omega, fun h => by omega⟩
  · intro j hj
    obtain ⟨p1, s', p2, p3, p4⟩ := hK j hj
    by_cases e : j = k
    · subst e
      refine ⟨by rw [hf.2.1 0 (by decide) (by decide), q1], s + 1, by omega, by rw [rd_in, if_pos rfl], fun i hi => ?_⟩
      obtain ⟨v, v1, v2⟩ := q4 i hi
      rw [hf.1 _ (by omega)]
      exact ⟨v, v1, by omega⟩
    · rw [hf.1 (16 + 2 * j) (by omega), hf.1 (17 + 2 * j) (by omega)]
      exact ⟨p1, s', by omega, p3, p4⟩
theorem stand_x {k c w : Nat} {σ : Sg} {Q : Int32 → Sg → Prop} (hk : k < 6) (h0 : σ.1 (16 + 2 * k) 0 = nI k) (h2 : σ.1 2 k = nI c) (h3 : σ.1 3 k = nI w) (hQ : Q (nI (8 * c + w)) σ) : w_X3_standNow k σ Q := by
  unfold w_X3_standNow
  rw [h0, cl_nI (by omega), h2, h3, show (8 : Int32) = nI 8 from rfl, pk_mul, nI_add]
  exact ⟨vp_nI hk (by decide), vp_nI hk (by decide), hQ⟩
/-- what follow() leaves -/
def Fz (k : Nat) (σ σ' : Sg) : Prop := (∀ c, c ≠ 8 → c ≠ 10 → c ≠ 16 + 2 * k → c ≠ 17 + 2 * k → c ≠ 29 → σ'.1 c = σ.1 c) ∧ σ'.1 8 1 = σ.1 8 1 ∧ (∀ i, i ≠ 6 → σ'.1 (16 + 2 * k) i = σ.1 (16 + 2 * k) i) ∧ σ'.2 = σ.2
theorem Fz.refl (k : Nat) (σ : Sg) : Fz k σ σ := ⟨fun _ _ _ _ _ _ => rfl, rfl, fun _ _ => rfl, rfl⟩
theorem Fz.trans {k : Nat} {a b c : Sg} (h1 : Fz k a b) (h2 : Fz k b c) : Fz k a c := ⟨fun x h h' h'' h3 h4 => (h2.1 x h h' h'' h3 h4).trans (h1.1 x h h' h'' h3 h4), h2.2.1.trans h1.2.1, fun x h => (h2.2.2.1 x h).trans (h1.2.2.1 x h), h2.2.2.2.trans h1.2.2.2⟩
theorem Fz.of_k {k : Nat} {a b : Sg} (h : Fk k a b) : Fz k a b := ⟨fun c a b d e _ => h.1 c a b d e, h.2.1, h.2.2.1, h.2.2.2⟩
theorem Fz.set {k : Nat} {σ : Sg} {i : Nat} {v : Int32} (hk : k < 6) : Fz k σ (sI σ 29 i v) := ⟨fun c _ _ _ _ h => rd_ne h, by rw [rd_ne (by omega)], fun j _ => by rw [rd_ne (by omega)], rfl⟩
theorem Fz.x {k : Nat} {σ σ' : Sg} (hk : k < 6) (h : Fz k σ σ') : Fx σ σ' := ⟨fun x hx => h.1 x (fun e => hx (by unfold SX; omega)) (fun e => hx (by unfold SX; omega)) (fun e => hx (by unfold SX; omega)) (fun e => hx (by unfold SX; omega)) (fun e => hx (by unfold SX; omega)), h.2.1, fun j hj => by
  by_cases e : j = k
  · subst e; exact h.2.2.1 0 (by decide)
  · rw [h.1 _ (by omega) (by omega) (by omega) (by omega) (by omega)], h.2.2.2⟩
theorem CoK_29 {σ : Sg} {k p i : Nat} {v : Int32} {l : Nat → Nat → Int32} (h : CoK σ k p l) (hk : k < 6) : CoK (sI σ 29 i v) k p l := CoK_c h (rd_ne (by decide)) (by rw [rd_ne (by decide)]) (by rw [rd_ne (by decide)]) (by rw [rd_ne (by decide)]) (by rw [rd_ne (by decide)]) (fun j _ => by rw [rd_ne (by omega)]) (rd_ne (by omega))
theorem IKb_29 {M : Nat} {σ : Sg} {i : Nat} {v : Int32} (h : IKb M σ) : IKb M (sI σ 29 i v) := IKb_c h (Nat.le_refl _) (fun j hj => ⟨fun q _ => by rw [rd_ne (by omega)], rd_ne (by omega)⟩)
theorem follow_l {k p s0 n M : Nat} {l : Nat → Nat → Int32} {Q : Sg → Prop} (hk : k < 6) (hMb : M ≤ 200000) (hs : s0 < 2048) (hn : n ≤ 60) (hp : p < 1000) : ∀ (d i : Nat) (σ : Sg), i + d = n → CoK σ k p l → IKb M σ →
    (∀ σ', Fz k σ σ' → CoK σ' k p l → IKb M σ' → (∀ t, i < t → t ≤ n → σ'.1 29 (61 * k + t) = nI (tr l p s0 t)) → (∀ j, j ≤ 61 * k + i ∨ 61 * k + n < j → σ'.1 29 j = σ.1 29 j) → Q σ') → w_X6_followFrom_l17 (nI k) (nI n) Q (d + 1) (nI (tr l p s0 i)) (nI i) σ
  | 0, i, σ, h, hC, hK, hQ => by
    unfold w_X6_followFrom_l17
    rw [if_pos (nI_le (by omega) (by omega))]
    exact hQ σ (Fz.refl _ _) hC hK (fun t h1 h2 => by omega) (fun _ _ => rfl)
  | d + 1, i, σ, h, hC, hK, hQ => by
    unfold w_X6_followFrom_l17
    rw [if_neg (nI_ge (by omega) (by omega)), cl_nI (show k < 1000000 by omega), nI_1]
    refine ⟨vp_nI hk (by decide), next_x hk hC hK hMb (tr_lt hs i) (by omega) hp (Or.inr (Or.inl rfl)) (fun σ1 hf hC1 hK1 _ => ?_)⟩
    have ei : ((nI k * (61 : Int32)) + nI i) + 1 = nI (61 * k + (i + 1)) := by rw [show (61 : Int32) = nI 61 from rfl, pk_mul, nI_add, nI_1]; congr 1; omega
    rw [ei, cl_nI (by omega), bd_eq]
    refine ⟨vp_nI (by omega) (by decide), follow_l hk hMb hs hn hp d (i + 1) _ (by omega) (CoK_29 hC1 hk) (IKb_29 hK1) (fun σ' hz hC' hK' ht ho => hQ σ' ((Fz.of_k hf).trans ((Fz.set hk).trans hz)) hC' hK' (fun t h1 h2 => ?_) (fun j hj => ?_))⟩
    · by_cases e : t = i + 1
      · subst e
        rw [ho _ (by omega), rd_in, if_pos rfl]
        rfl
      · exact ht t (by omega) h2
    · rw [ho j (by omega), rd_in, if_neg (by omega), hf.1 29 (by omega) (by omega) (by omega) (by omega)]
theorem followFrom_x {k p s0 n M : Nat} {l : Nat → Nat → Int32} {σ : Sg} {Q : Sg → Prop} (hk : k < 6) (hMb : M ≤ 200000) (hs : s0 < 2048) (hn : n ≤ 60) (hp : p < 1000) (hC : CoK σ k p l) (hK : IKb M σ)
    (hQ : ∀ σ', Fz k σ σ' → CoK σ' k p l → IKb M σ' → (∀ t, t ≤ n → σ'.1 29 (61 * k + t) = nI (tr l p s0 t)) → (∀ j, j < 61 * k ∨ 61 * k + n < j → σ'.1 29 j = σ.1 29 j) → Q σ') : w_X6_followFrom (nI k) (nI s0) (nI n) σ Q := by
  unfold w_X6_followFrom
  have ei : nI k * (61 : Int32) = nI (61 * k) := by rw [show (61 : Int32) = nI 61 from rfl, pk_mul]; congr 1; omega
  rw [ei, cl_nI (by omega), bd_eq]
  refine ⟨vp_nI (by omega) (by decide), n + 1, follow_l (s0 := s0) (l := l) (p := p) (M := M) hk hMb hs hn hp n 0 _ (by omega) (CoK_29 hC hk) (IKb_29 hK) (fun σ' hz hC' hK' ht ho => hQ σ' ((Fz.set hk).trans hz) hC' hK' (fun t h1 => ?_) (fun j hj => ?_))⟩
  · by_cases e : t = 0
    · subst e
      rw [ho _ (by omega), rd_in, if_pos (by omega)]
      rfl
    · exact ht t (by omega) h1
  · rw [ho j (by omega), rd_in, if_neg (by omega)]
/-- the class's carriage, started and followed from now -/
theorem go_x {k n M nC nP : Nat} {g : Int32 → Int32 → Int32 → Int32 → Int32 → Int32 → Int32} {σ0 σ : Sg} {Q : Sg → Prop} (hB : Bs σ0 nC nP) (h3 : G3 g) (hX : XL σ0 g) (hk : k < nC) (hn : n ≤ 60) (hF : Fx σ0 σ) (hK : IKb M σ) (hM : M < 100000)
    (hQ : ∀ σ', Fx σ0 σ' → IKb (M + 1) σ' → (∀ t, t ≤ n → σ'.1 29 (61 * k + t) = nI (TR g σ0 k t)) → (∀ j, j < 61 * k ∨ 61 * k + n < j → σ'.1 29 j = σ.1 29 j) → Q σ') :
    w_X3_start k (σ.1 4 k) σ (fun σ2 => vp_in (nI k) 6 ∧ w_X3_standNow k σ2 (fun r5 σ4 => w_X6_followFrom (nI k) r5 (nI n) σ4 (fun σ6 => Q σ6))) := by
  obtain ⟨⟨b1, b2, b3, b4⟩, b5, b6, b7, b8⟩ := id hB
  obtain ⟨⟨c1, c2⟩, ⟨c3, c4⟩, ⟨c5, c6, c7⟩, ⟨c8, c9⟩⟩ := b5 k hk
  have hk6 : k < 6 := by omega
  rw [hF.lo (c := 4) (by omega), c5]
  refine start_x hk6 h3 (XL_c hX (hF.lo (by omega)) hF.2.1) (by rw [hF.lo (c := 5) (by omega), c8]) c9 (by rw [hF.lo (c := 1) (by omega), b8.1]) b8.2 hK hM (fun σ1 hs hC hK1 => ?_)
  rw [hF.lo (c := 1) (by omega)] at hC
  refine ⟨vp_nI hk6 (by decide), stand_x hk6 hC.1.1 (by rw [hs.1 2 (by omega), hF.lo (c := 2) (by omega), c1]) (by rw [hs.1 3 (by omega), hF.lo (c := 3) (by omega), c3]) ?_⟩
  refine followFrom_x hk6 (by omega) (stN_lt hB hk) hn (by omega) hC hK1 (fun σ' hz _ hK' ht ho => hQ σ' (hF.trans ((hs.x hk6).trans (hz.x hk6))) hK' ht (fun j hj => by rw [ho j hj, hs.1 29 (by omega)]))
theorem follow_x {k n M nC nP : Nat} {g : Int32 → Int32 → Int32 → Int32 → Int32 → Int32 → Int32} {σ0 σ : Sg} {Q : Sg → Prop} (hB : Bs σ0 nC nP) (h3 : G3 g) (hX : XL σ0 g) (hk : k < nC) (hn : n ≤ 60) (hF : Fx σ0 σ) (hK : IKb M σ) (hM : M < 100000)
    (hQ : ∀ σ', Fx σ0 σ' → IKb (M + 1) σ' → (∀ t, t ≤ n → σ'.1 29 (61 * k + t) = nI (TR g σ0 k t)) → (∀ j, j < 61 * k ∨ 61 * k + n < j → σ'.1 29 j = σ.1 29 j) → Q σ') : w_X6_follow (nI k) (nI n) σ Q := by
  have hk6 : k < 6 := by have := hB.1.1; omega
  unfold w_X6_follow
  rw [cl_nI (by omega)]
  exact ⟨vp_nI hk6 (by decide), vp_nI hk6 (by decide), go_x hB h3 hX hk hn hF hK hM hQ⟩
theorem followAll_l {n nC nP : Nat} {g : Int32 → Int32 → Int32 → Int32 → Int32 → Int32 → Int32} {σ0 : Sg} {Q : Sg → Prop} (hB : Bs σ0 nC nP) (h3 : G3 g) (hX : XL σ0 g) (hn : n ≤ 60) : ∀ (d i M : Nat) (σ : Sg), i + d = nC → Fx σ0 σ → IKb M σ → M + d < 100000 → (∀ k, k < i → ∀ t, t ≤ n → σ.1 29 (61 * k + t) = nI (TR g σ0 k t)) →
    (∀ σ', Fx σ0 σ' → IKb (M + d) σ' → (∀ k, k < nC → ∀ t, t ≤ n → σ'.1 29 (61 * k + t) = nI (TR g σ0 k t)) → Q σ') → w_X6_followAll_l2 (nI n) Q (d + 1) (nI i) σ
  | 0, i, M, σ, h, hF, hK, hM, ht, hQ => by
    unfold w_X6_followAll_l2
    rw [hF.lo (c := 1) (by omega), hB.1.2.2.1, if_pos (nI_le (by omega) (by have := hB.1.1; omega))]
    exact hQ σ hF hK (fun k hk => ht k (by omega))
  | d + 1, i, M, σ, h, hF, hK, hM, ht, hQ => by
    have h6 := hB.1.1
    unfold w_X6_followAll_l2
    rw [hF.lo (c := 1) (by omega), hB.1.2.2.1, if_neg (nI_ge (by omega) (by omega)), cl_nI (by omega), nI_1]
    refine ⟨vp_nI (by omega) (by decide), vp_nI (by omega) (by decide), ?_⟩
    refine go_x hB h3 hX (show i < nC by omega) hn hF hK (by omega) (fun σ1 hF1 hK1 h1 h2 => ?_)
    refine followAll_l hB h3 hX hn d (i + 1) (M + 1) σ1 (by omega) hF1 hK1 (by omega) (fun k hk t hT => ?_) (fun σ' hF' hK' hh => hQ σ' hF' (by rw [show M + (d + 1) = M + 1 + d by omega]; exact hK') hh)
    by_cases e : k = i
    · subst e; exact h1 t hT
    · rw [h2 _ (by omega)]; exact ht k (by omega) t hT
theorem followAll_x {n M nC nP : Nat} {g : Int32 → Int32 → Int32 → Int32 → Int32 → Int32 → Int32} {σ0 : Sg} {Q : Sg → Prop} (hB : Bs σ0 nC nP) (h3 : G3 g) (hX : XL σ0 g) (hn : n ≤ 60) (hK : IKb M σ0) (hM : M + 6 < 100000)
    (hQ : ∀ σ', Fx σ0 σ' → IKb (M + 6) σ' → (∀ k, k < nC → ∀ t, t ≤ n → σ'.1 29 (61 * k + t) = nI (TR g σ0 k t)) → Q σ') : w_X6_followAll (nI n) σ0 Q := by
  have := hB.1.1
  exact ⟨nC + 1, followAll_l hB h3 hX hn nC 0 M σ0 (by omega) (Fx.refl _) hK (by omega) (fun k hk => by omega) (fun σ' hF hK' hh => hQ σ' hF (IKb_c hK' (by omega) (fun _ _ => ⟨fun _ _ => rfl, rfl⟩)) hh)⟩
