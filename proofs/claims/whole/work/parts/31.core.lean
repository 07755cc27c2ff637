/-! an hour's way, by stands (8 times the cell, and the way), on either side -/
def dxn (w : Nat) : Nat := [1, 2, 2, 2, 1, 0, 0, 0].getD w 0
def dyn (w : Nat) : Nat := [0, 0, 1, 2, 2, 2, 1, 0].getD w 0
def onl (s : Nat) : Bool := decide (1 ≤ s / 8 % 16 + dxn (s % 8) ∧ s / 8 % 16 + dxn (s % 8) ≤ 16 ∧ 1 ≤ s / 128 + dyn (s % 8) ∧ s / 128 + dyn (s % 8) ≤ 16)
def mv (s : Nat) : Nat := 128 * (s / 128 + dyn (s % 8) - 1) + 8 * (s / 8 % 16 + dxn (s % 8) - 1) + s % 8
def fl (s : Nat) : Nat := s / 8 * 8 + (s % 8 + 4) % 8
def stp (s : Nat) : Nat × Nat := if onl s = true then (mv s, 1) else if onl (fl s) = true then (mv (fl s), 1) else (fl s, 0)
def gos : Nat → Nat × Nat → Nat × Nat
  | 0, a => a
  | n + 1, a => gos n ((stp a.1).1, a.2 + (stp a.1).2)
def t3 (x : Int32) : Prop := x = -1 ∨ x = 0 ∨ x = 1
def e3 (x : Int32) : Nat := if x = -1 then 7 else if x = 0 then 0 else 1
def tw (w : Nat) (a b : Int32) : Nat := (w + e3 a + e3 b) % 8
def nxg (l : Nat → Nat → Int32) (p s t : Nat) (b : Int32) : Nat × Nat := gos p (s / 8 * 8 + tw (s % 8) (l t (s % 8)) b, 0)
def nx (l : Nat → Nat → Int32) (p s t : Nat) (b : Int32) : Nat := (nxg l p s t b).1
def ng (l : Nat → Nat → Int32) (p s t : Nat) (b : Int32) : Nat := (nxg l p s t b).2
theorem st1 : ∀ s, s < 2048 → (((((nI (s / 8 % 16) + exC 3 (s % 8)) ||| (nI (s / 128) + exC 4 (s % 8))) &&& (-16 : Int32)) = 0) ↔ onl s = true) := by decide +kernel
theorem st2 : ∀ s, s < 2048 → onl s = true → nI (s / 8 % 16) + exC 3 (s % 8) = nI (mv s / 8 % 16) ∧ nI (s / 128) + exC 4 (s % 8) = nI (mv s / 128) ∧ mv s % 8 = s % 8 ∧ mv s < 2048 := by decide +kernel
theorem st3 : ∀ w, w < 8 → (nI w + 4) &&& 7 = nI ((w + 4) % 8) := by decide +kernel
theorem fl_8 (s : Nat) : fl s % 8 = (s % 8 + 4) % 8 ∧ fl s / 8 = s / 8 := by unfold fl; omega
theorem fl_lt {s : Nat} (h : s < 2048) : fl s < 2048 := by unfold fl; omega
theorem stp_lt {s : Nat} (h : s < 2048) : (stp s).1 < 2048 ∧ (stp s).2 ≤ 1 := by
  unfold stp
  split
  · rename_i g; exact ⟨(st2 s h g).2.2.2, Nat.le_refl _⟩
  · split
    · rename_i g; exact ⟨(st2 _ (fl_lt h) g).2.2.2, Nat.le_refl _⟩
    · exact ⟨fl_lt h, Nat.zero_le _⟩
theorem gos_lt : ∀ (n : Nat) (a : Nat × Nat), a.1 < 2048 → (gos n a).1 < 2048 ∧ (gos n a).2 ≤ a.2 + n
  | 0, a, h => ⟨h, Nat.le_refl _⟩
  | n + 1, a, h => by
    obtain ⟨h1, h2⟩ := stp_lt h
    obtain ⟨h3, h4⟩ := gos_lt n ((stp a.1).1, a.2 + (stp a.1).2) h1
    refine ⟨h3, ?_⟩
    have : (gos (n + 1) a).2 = (gos n ((stp a.1).1, a.2 + (stp a.1).2)).2 := rfl
    rw [this]
    have h5 : ((stp a.1).1, a.2 + (stp a.1).2).2 = a.2 + (stp a.1).2 := rfl
    rw [h5] at h4
    omega
theorem tw_lt {w : Nat} {a b : Int32} : tw w a b < 8 := Nat.mod_lt _ (by decide)
theorem nx_lt {l : Nat → Nat → Int32} {p s t : Nat} {b : Int32} (h : s < 2048) : nx l p s t b < 2048 := (gos_lt p _ (by have := @tw_lt (s % 8) (l t (s % 8)) b; show s / 8 * 8 + _ < 2048; omega)).1
theorem ng_le {l : Nat → Nat → Int32} {p s t : Nat} {b : Int32} (h : s < 2048) : ng l p s t b ≤ p := by
  have := (gos_lt p (s / 8 * 8 + tw (s % 8) (l t (s % 8)) b, 0) (by have := @tw_lt (s % 8) (l t (s % 8)) b; show s / 8 * 8 + _ < 2048; omega)).2
  show (gos p _).2 ≤ p
  simpa using this
def Fg (k : Nat) (σ σ' : Sg) : Prop := (∀ c, c ≠ 16 + 2 * k → σ'.1 c = σ.1 c) ∧ (∀ i, i ≠ 6 → σ'.1 (16 + 2 * k) i = σ.1 (16 + 2 * k) i) ∧ σ'.2 = σ.2
theorem Fg.refl (k : Nat) (σ : Sg) : Fg k σ σ := ⟨fun _ _ => rfl, fun _ _ => rfl, rfl⟩
theorem Fg.trans {k : Nat} {a b c : Sg} (h1 : Fg k a b) (h2 : Fg k b c) : Fg k a c := ⟨fun x h => (h2.1 x h).trans (h1.1 x h), fun x h => (h2.2.1 x h).trans (h1.2.1 x h), h2.2.2.trans h1.2.2⟩
theorem Fg.set {k : Nat} {σ : Sg} {v : Int32} : Fg k σ (sI σ (16 + 2 * k) 6 v) := ⟨fun _ h => rd_ne h, fun i h => by rw [rd_in, if_neg h], rfl⟩
theorem stepX {k p : Nat} {J : Int32 → Int32 → Int32 → Sg → Prop} (hp : p < 1000) : ∀ (d i s a : Nat) (σ : Sg), i + d = p → s < 2048 → σ.1 (16 + 2 * k) 4 = nI p → σ.1 (16 + 2 * k) 6 = nI a →
    (∀ σ', Fg k σ σ' → σ'.1 (16 + 2 * k) 6 = nI (gos d (s, a)).2 → J (nI ((gos d (s, a)).1 % 8)) (nI ((gos d (s, a)).1 / 8 % 16)) (nI ((gos d (s, a)).1 / 128)) σ') → w_X3_next_l40 k J (d + 1) (nI (s % 8)) (nI (s / 8 % 16)) (nI (s / 128)) (nI i) σ
  | 0, i, s, a, σ, h, hs, h4, h6, hJ => by
    unfold w_X3_next_l40
    rw [h4, if_pos (nI_le (by omega) (by omega))]
    exact hJ σ (Fg.refl _ _) h6
  | d + 1, i, s, a, σ, h, hs, h4, h6, hJ => by
    unfold w_X3_next_l40
    rw [h4, if_neg (nI_ge (by omega) (by omega))]
    have hv : ∀ w : Nat, vp_in (nI (w % 8)) 8 := fun w => vp_nI (Nat.mod_lt _ (by decide)) (by decide)
    refine ⟨hv s, hv s, ?_⟩
    simp only [w_X3_onLand, cl_nI (show s % 8 < 1000000 by omega), bd_eq]
    have q4 : ∀ v : Int32, (sI σ (16 + 2 * k) 6 v).1 (16 + 2 * k) 4 = nI p := fun v => by rw [rd_in, if_neg (by decide)]; exact h4
    by_cases ho : onl s = true
    · obtain ⟨m1, m2, m3, m4⟩ := st2 s hs ho
      have es : stp s = (mv s, 1) := by unfold stp; rw [if_pos ho]
      rw [if_pos ((st1 s hs).mpr ho), if_neg one_ne]
      refine ⟨hv s, hv s, ?_⟩
      rw [m1, m2, h6, nI_1, nI_1, ← m3]
      refine stepX hp d (i + 1) (mv s) (a + 1) _ (by omega) m4 (q4 _) (by rw [rd_in, if_pos rfl]) (fun σ' hf hg => ?_)
      have eg : gos (d + 1) (s, a) = gos d (mv s, a + 1) := by show gos d ((stp s).1, a + (stp s).2) = _; rw [es]
      rw [eg] at hJ
      exact hJ σ' (Fg.set.trans hf) hg
    · rw [if_neg (fun q => ho ((st1 s hs).mp q)), if_pos trivial, st3 (s % 8) (Nat.mod_lt _ (by decide))]
      obtain ⟨f1, f2⟩ := fl_8 s
      have f3 : s / 8 % 16 = fl s / 8 % 16 := by rw [f2]
      have f4 : s / 128 = fl s / 128 := by have : ∀ x : Nat, x / 128 = x / 8 / 16 := fun x => by omega
                                           rw [this, this (fl s), f2]
      rw [← f1, f3, f4]
      refine ⟨hv _, hv _, ?_⟩
      rw [cl_nI (show fl s % 8 < 1000000 by omega)]
      by_cases ho2 : onl (fl s) = true
      · obtain ⟨m1, m2, m3, m4⟩ := st2 _ (fl_lt hs) ho2
        have es : stp s = (mv (fl s), 1) := by unfold stp; rw [if_neg ho, if_pos ho2]
        rw [if_pos ((st1 _ (fl_lt hs)).mpr ho2), if_neg one_ne]
        refine ⟨hv _, hv _, ?_⟩
        rw [m1, m2, h6, nI_1, nI_1, ← m3]
        refine stepX hp d (i + 1) (mv (fl s)) (a + 1) _ (by omega) m4 (q4 _) (by rw [rd_in, if_pos rfl]) (fun σ' hf hg => ?_)
        have eg : gos (d + 1) (s, a) = gos d (mv (fl s), a + 1) := by show gos d ((stp s).1, a + (stp s).2) = _; rw [es]
        rw [eg] at hJ
        exact hJ σ' (Fg.set.trans hf) hg
      · have es : stp s = (fl s, 0) := by unfold stp; rw [if_neg ho, if_neg ho2]
        rw [if_neg (fun q => ho2 ((st1 _ (fl_lt hs)).mp q)), if_pos trivial, nI_1]
        refine stepX hp d (i + 1) (fl s) a _ (by omega) (fl_lt hs) h4 h6 (fun σ' hf hg => ?_)
        have eg : gos (d + 1) (s, a) = gos d (fl s, a) := by show gos d ((stp s).1, a + (stp s).2) = _; rw [es]; rfl
        rw [eg] at hJ
        exact hJ σ' hf hg
def lw (g : Int32 → Int32 → Int32 → Int32 → Int32 → Int32 → Int32) (wi : Int32) (sh ho k p : Nat) : Nat → Nat → Int32 := fun t w => g wi (nI (sh - t)) (nI (min 99 (ho + t))) (nI w) (nI k) (nI p)
def CoK (σ : Sg) (k p : Nat) (l : Nat → Nat → Int32) : Prop :=
  (σ.1 (16 + 2 * k) 0 = nI k ∧ σ.1 (16 + 2 * k) 4 = nI p) ∧ (∀ t w, t3 (l t w)) ∧
  (∃ (g : Int32 → Int32 → Int32 → Int32 → Int32 → Int32 → Int32) (sh ho : Nat), XL σ g ∧ σ.1 5 k = nI sh ∧ sh ≤ 9 ∧ σ.1 1 10 = nI ho ∧ ho ≤ 99 ∧ l = lw g (σ.1 1 9) sh ho k p) ∧
  ∃ s : Nat, s ≤ 100000 ∧ σ.1 (16 + 2 * k) 5 = nI s ∧ ∀ i, i < 480 → ∃ v : Nat, σ.1 (17 + 2 * k) i = nI v ∧ v / 4 ≤ s ∧ (v / 4 = s → nI (v % 4) - 1 = l (i / 8) (i % 8))
theorem XL_c {σ σ' : Sg} {g : Int32 → Int32 → Int32 → Int32 → Int32 → Int32 → Int32} (h : XL σ g) (e1 : σ'.1 9 = σ.1 9) (e2 : σ'.1 8 1 = σ.1 8 1) : XL σ' g := fun w s h' d k p τ Q a b c => h w s h' d k p τ Q (a.trans e1) (b.trans e2) c
theorem ML_c {σ σ' : Sg} {g : Int32 → Int32 → Int32 → Int32 → Int32 → Int32 → Int32} (h : ML σ g) (e3 : sameLaw σ σ') : ML σ' g := fun k way shoe hour τ Q a b c => h k way shoe hour τ Q (e3.trans a) b c
theorem CoK_c {σ σ' : Sg} {k p : Nat} {l : Nat → Nat → Int32} (h : CoK σ k p l) (e1 : σ'.1 9 = σ.1 9) (e2 : σ'.1 8 1 = σ.1 8 1) (e3 : σ'.1 1 9 = σ.1 1 9) (e4 : σ'.1 1 10 = σ.1 1 10) (e5 : σ'.1 5 k = σ.1 5 k) (e6 : ∀ i, i ≠ 6 → σ'.1 (16 + 2 * k) i = σ.1 (16 + 2 * k) i) (e7 : σ'.1 (17 + 2 * k) = σ.1 (17 + 2 * k)) : CoK σ' k p l := by
  obtain ⟨⟨h1, h2⟩, h3, ⟨g, sh, ho, h4, h5, h6, h7, h8, h9⟩, s, h10, h11, h12⟩ := h
  exact ⟨⟨(e6 0 (by decide)).trans h1, (e6 4 (by decide)).trans h2⟩, h3, ⟨g, sh, ho, XL_c h4 e1 e2, e5.trans h5, h6, e4.trans h7, h8, by rw [e3]; exact h9⟩, s, h10, (e6 5 (by decide)).trans h11, by rw [e7]; exact h12⟩
def IKb (M : Nat) (σ : Sg) : Prop := ∀ k, k < 6 → σ.1 (16 + 2 * k) 0 = nI k ∧ ∃ s : Nat, s ≤ M ∧ σ.1 (16 + 2 * k) 5 = nI s ∧ ∀ i, i < 480 → ∃ v : Nat, σ.1 (17 + 2 * k) i = nI v ∧ v / 4 ≤ s
theorem IKb_c {M M' : Nat} {σ σ' : Sg} (h : IKb M σ) (hM : M ≤ M') (e : ∀ k, k < 6 → (∀ i, i ≠ 6 → σ'.1 (16 + 2 * k) i = σ.1 (16 + 2 * k) i) ∧ σ'.1 (17 + 2 * k) = σ.1 (17 + 2 * k)) : IKb M' σ' := fun k hk => by
  obtain ⟨h1, s, h2, h3, h4⟩ := h k hk
  obtain ⟨e1, e2⟩ := e k hk
  exact ⟨(e1 0 (by decide)).trans h1, s, by omega, (e1 5 (by decide)).trans h3, by rw [e2]; exact h4⟩
/-- what next() leaves of a state -/
def Fk (k : Nat) (σ σ' : Sg) : Prop := (∀ c, c ≠ 8 → c ≠ 10 → c ≠ 16 + 2 * k → c ≠ 17 + 2 * k → σ'.1 c = σ.1 c) ∧ σ'.1 8 1 = σ.1 8 1 ∧ (∀ i, i ≠ 6 → σ'.1 (16 + 2 * k) i = σ.1 (16 + 2 * k) i) ∧ σ'.2 = σ.2
theorem Fk.refl (k : Nat) (σ : Sg) : Fk k σ σ := ⟨fun _ _ _ _ _ => rfl, rfl, fun _ _ => rfl, rfl⟩
theorem Fk.trans {k : Nat} {a b c : Sg} (h1 : Fk k a b) (h2 : Fk k b c) : Fk k a c := ⟨fun x h h' h'' h3 => (h2.1 x h h' h'' h3).trans (h1.1 x h h' h'' h3), h2.2.1.trans h1.2.1, fun x h => (h2.2.2.1 x h).trans (h1.2.2.1 x h), h2.2.2.2.trans h1.2.2.2⟩
theorem Fk.of_g {k : Nat} {a b : Sg} (h : Fg k a b) (h8 : 8 ≠ 16 + 2 * k) : Fk k a b := ⟨fun c _ _ h2 _ => h.1 c h2, by rw [h.1 8 h8], h.2.1, h.2.2⟩
theorem sh3 {n : Nat} (h : n < 2000000000) : nI n >>> ((3 : Int32) &&& 31) = nI (n / 8) := pk_shrN (by omega) _ 3 (by decide)
theorem sh2 {n : Nat} (h : n < 2000000000) : nI n >>> ((2 : Int32) &&& 31) = nI (n / 4) := pk_shrN (by omega) _ 2 (by decide)
theorem sh7 {n : Nat} (h : n < 2000000000) : nI n >>> ((7 : Int32) &&& 31) = nI (n / 128) := pk_shrN (by omega) _ 7 (by decide)
theorem sh4 {n : Nat} (h : n < 2000000000) : nI n >>> ((4 : Int32) &&& 31) = nI (n / 16) := pk_shrN (by omega) _ 4 (by decide)
theorem an7 {n : Nat} (h : n < 2000000000) : nI n &&& 7 = nI (n % 8) := pk_andN (by omega) 3 (by decide)
theorem an3 {n : Nat} (h : n < 2000000000) : nI n &&& 3 = nI (n % 4) := pk_andN (by omega) 2 (by decide)
theorem an15 {n : Nat} (h : n < 2000000000) : nI n &&& 15 = nI (n % 16) := pk_andN (by omega) 4 (by decide)
theorem an1 {n : Nat} (h : n < 2000000000) : nI n &&& 1 = nI (n % 2) := pk_andN (by omega) 1 (by decide)
theorem imax_n {a b : Nat} (ha : a < 1000000000) (hb : b < 1000000000) : imax (nI a) (nI b) = nI (max a b) := by
  unfold imax
  by_cases h : a < b
  · rw [if_pos (nI_lt h (by omega)), Nat.max_eq_right (by omega)]
  · rw [if_neg (nI_nlt (by omega) (by omega)), Nat.max_eq_left (by omega)]
theorem imin_n {a b : Nat} (ha : a < 1000000000) (hb : b < 1000000000) : imin (nI a) (nI b) = nI (min a b) := by
  unfold imin
  by_cases h : b < a
  · rw [if_pos (nI_lt h (by omega)), Nat.min_eq_right (by omega)]
  · rw [if_neg (nI_nlt (by omega) (by omega)), Nat.min_eq_left (by omega)]
theorem shoe_x {a b : Nat} (ha : a < 1000000) (hb : b < 1000000) : imax 0 (nI a - nI b) = nI (a - b) := by
  by_cases h : b ≤ a
  · rw [pk_sub h, ← nI_0, imax_n (by omega) (by omega), Nat.max_eq_right (by omega)]
  · have : nI a - nI b < 0 := pk_sneg (by omega) (by omega)
    unfold imax
    rw [if_neg, show a - b = 0 by omega, nI_0]
    rw [i32_lt] at this ⊢
    omega
theorem hour_x {a b : Nat} (ha : a < 1000000) (hb : b < 1000000) : imin 99 (nI a + nI b) = nI (min 99 (a + b)) := by
  rw [nI_add, show (99 : Int32) = nI 99 from rfl, imin_n (by omega) (by omega)]
theorem giv {s v : Nat} {r : Int32} (h : t3 r) (hs : s ≤ 100000) : ∃ v : Nat, (((4 : Int32) * nI s) + 1) + r = nI v ∧ v / 4 = s ∧ v < 1000000 ∧ nI (v % 4) - 1 = r := by
  rw [show (4 : Int32) = nI 4 from rfl, pk_mul, nI_1]
  rcases h with rfl | rfl | rfl
  · exact ⟨4 * s, by rw [pk_m1], by omega, by omega, by rw [show 4 * s % 4 = 0 by omega]; decide⟩
  · exact ⟨4 * s + 1, by rw [← nI_0, nI_add], by omega, by omega, by rw [show (4 * s + 1) % 4 = 1 by omega]; decide⟩
  · exact ⟨4 * s + 2, by rw [nI_1], by omega, by omega, by rw [show (4 * s + 2) % 4 = 2 by omega]; decide⟩
theorem lawB_x {k p t w M : Nat} {l : Nat → Nat → Int32} {σ : Sg} {Q : Int32 → Sg → Prop} (hk : k < 6) (hC : CoK σ k p l) (hK : IKb M σ) (hMb : M ≤ 200000) (ht : t < 60) (hw : w < 8)
    (hQ : ∀ σ', Fk k σ σ' → CoK σ' k p l → IKb M σ' → Q (l t w) σ') : w_X3_lawBehind k (nI t) (nI w) σ Q := by
  obtain ⟨⟨h1, h2⟩, h3, ⟨g, sh, ho, h4, h5, h6, h7, h8, h9⟩, s, h10, h11, h12⟩ := id hC
  unfold w_X3_lawBehind
  have ei : ((8 : Int32) * nI t) + nI w = nI (8 * t + w) := by rw [show (8 : Int32) = nI 8 from rfl, pk_mul, nI_add]
  have hi : 8 * t + w < 480 := by omega
  have hv : vp_in (nI (8 * t + w)) 480 := vp_nI hi (by decide)
  have d1 : (8 * t + w) / 8 = t := by omega
  have d2 : (8 * t + w) % 8 = w := by omega
  simp only [bd_eq, ei, if_neg (nI_pos (show 8 * t + w < 2 ^ 31 by omega)), if_pos (show nI (8 * t + w) < 480 from nI_lt hi (by decide)), cl_nI (show 8 * t + w < 1000000 by omega), h1, h11, h2, h5, h7, cl_nI (show k < 1000000 by omega)]
  refine ⟨hv, ?_⟩
  obtain ⟨v, v1, v2, v3⟩ := h12 _ hi
  rw [v1, sh2 (by omega)]
  by_cases hg : v / 4 = s
  · rw [if_pos (by rw [hg]), an3 (by omega), v3 hg, d1, d2]
    exact ⟨hv, hQ σ (Fk.refl _ _) hC hK⟩
  · rw [if_neg (fun q => hg (nI_inj (by omega) (by omega) q))]
    refine ⟨vp_nI hk (by decide), ?_⟩
    rw [shoe_x (by omega) (by omega), hour_x (by omega) (by omega)]
    refine h4 _ _ _ _ _ _ _ _ rfl rfl (fun σ1 hf => ?_)
    obtain ⟨f1, f2, f3⟩ := hf
    have el : g (σ.1 1 9) (nI (sh - t)) (nI (min 99 (ho + t))) (nI w) (nI k) (nI p) = l t w := by rw [h9]; rfl
    rw [el]
    refine ⟨hv, ?_⟩
    obtain ⟨u, u1, u2, u3, u4⟩ := giv (v := 0) (h3 t w) h10
    rw [u1]
    refine ⟨hv, ?_⟩
    rw [rd_in, if_pos rfl, an3 (by omega), u4]
    have k1 : ∀ c, c ≠ 8 → c ≠ 10 → c ≠ 17 + 2 * k → (sI σ1 (17 + 2 * k) (8 * t + w) (nI u)).1 c = σ.1 c := fun c a b d => by rw [rd_ne d, f1 c a b]
    have k8 : (sI σ1 (17 + 2 * k) (8 * t + w) (nI u)).1 8 1 = σ.1 8 1 := by rw [rd_ne (by omega), f2]
    have k17 : ∀ j, (sI σ1 (17 + 2 * k) (8 * t + w) (nI u)).1 (17 + 2 * k) j = if j = 8 * t + w then nI u else σ.1 (17 + 2 * k) j := fun j => by rw [rd_in, f1 _ (by omega) (by omega)]
    apply hQ
    · exact ⟨fun c a b _ d => k1 c a b d, k8, fun i _ => by rw [k1 _ (by omega) (by omega) (by omega)], by rw [rd_2, f3]⟩
    · refine ⟨⟨by rw [k1 _ (by omega) (by omega) (by omega), h1], by rw [k1 _ (by omega) (by omega) (by omega), h2]⟩, h3, ⟨g, sh, ho, XL_c h4 (k1 9 (by omega) (by omega) (by omega)) k8, by rw [k1 5 (by omega) (by omega) (by omega), h5], h6, by rw [k1 1 (by omega) (by omega) (by omega), h7], h8, by rw [k1 1 (by omega) (by omega) (by omega)]; exact h9⟩, s, h10, by rw [k1 _ (by omega) (by omega) (by omega), h11], fun i hi' => ?_⟩
      rw [k17]
      by_cases hj : i = 8 * t + w
      · rw [if_pos hj]
        exact ⟨u, rfl, by omega, fun _ => by rw [hj, d1, d2]; exact u4⟩
      · rw [if_neg hj]
        exact h12 i hi'
    · intro j hj
      obtain ⟨q1, s', q2, q3, q4⟩ := hK j hj
      by_cases hjk : j = k
      · subst hjk
        have ess : s' = s := nI_inj (by omega) (by omega) (q3.symm.trans h11)
        refine ⟨by rw [k1 _ (by omega) (by omega) (by omega), q1], s', q2, by rw [k1 _ (by omega) (by omega) (by omega), q3], fun i hi' => ?_⟩
        rw [k17]
        by_cases hj' : i = 8 * t + w
        · rw [if_pos hj']
          exact ⟨u, rfl, by omega⟩
        · rw [if_neg hj']
          exact q4 i hi'
      · refine ⟨by rw [k1 _ (by omega) (by omega) (by omega), q1], s', q2, by rw [k1 _ (by omega) (by omega) (by omega), q3], fun i hi' => ?_⟩
        rw [k1 _ (by omega) (by omega) (by omega)]
        exact q4 i hi'
theorem tn_add (x y : Int32) : (x + y).toBitVec.toNat = (x.toBitVec.toNat + y.toBitVec.toNat) % 2 ^ 32 := by rw [Int32.toBitVec_add, BitVec.toNat_add]
theorem e3_n {a : Int32} (h : t3 a) : a.toBitVec.toNat % 8 = e3 a % 8 := by rcases h with rfl | rfl | rfl <;> decide
theorem twX {s : Nat} {a b : Int32} (hs : s < 2048) (ha : t3 a) (hb : t3 b) : ((nI s + a) + b) &&& 7 = nI (tw (s % 8) a b) := by
  rw [pk_and _ 3 (by decide), tn_add, tn_add, pk_tn (by omega)]
  have h1 := e3_n ha
  have h2 := e3_n hb
  unfold tw
  congr 1
  omega
theorem twM {w : Nat} {a b : Int32} (hw : w < 8) (ha : t3 a) (hb : t3 b) : (((nI w + a) + b) + (8 : Int32)) - (((nI w + a) + b) + (8 : Int32)) / (8 : Int32) * (8 : Int32) = nI (tw w a b) := by
  rcases ha with rfl | rfl | rfl <;> rcases hb with rfl | rfl | rfl
  · exact (by decide +kernel : ∀ w, w < 8 → (((nI w + -1) + -1) + (8 : Int32)) - (((nI w + -1) + -1) + (8 : Int32)) / (8 : Int32) * (8 : Int32) = nI (tw w (-1) (-1))) w hw
  · exact (by decide +kernel : ∀ w, w < 8 → (((nI w + -1) + 0) + (8 : Int32)) - (((nI w + -1) + 0) + (8 : Int32)) / (8 : Int32) * (8 : Int32) = nI (tw w (-1) 0)) w hw
  · exact (by decide +kernel : ∀ w, w < 8 → (((nI w + -1) + 1) + (8 : Int32)) - (((nI w + -1) + 1) + (8 : Int32)) / (8 : Int32) * (8 : Int32) = nI (tw w (-1) 1)) w hw
  · exact (by decide +kernel : ∀ w, w < 8 → (((nI w + 0) + -1) + (8 : Int32)) - (((nI w + 0) + -1) + (8 : Int32)) / (8 : Int32) * (8 : Int32) = nI (tw w 0 (-1))) w hw
  · exact (by decide +kernel : ∀ w, w < 8 → (((nI w + 0) + 0) + (8 : Int32)) - (((nI w + 0) + 0) + (8 : Int32)) / (8 : Int32) * (8 : Int32) = nI (tw w 0 0)) w hw
  · exact (by decide +kernel : ∀ w, w < 8 → (((nI w + 0) + 1) + (8 : Int32)) - (((nI w + 0) + 1) + (8 : Int32)) / (8 : Int32) * (8 : Int32) = nI (tw w 0 1)) w hw
  · exact (by decide +kernel : ∀ w, w < 8 → (((nI w + 1) + -1) + (8 : Int32)) - (((nI w + 1) + -1) + (8 : Int32)) / (8 : Int32) * (8 : Int32) = nI (tw w 1 (-1))) w hw
  · exact (by decide +kernel : ∀ w, w < 8 → (((nI w + 1) + 0) + (8 : Int32)) - (((nI w + 1) + 0) + (8 : Int32)) / (8 : Int32) * (8 : Int32) = nI (tw w 1 0)) w hw
  · exact (by decide +kernel : ∀ w, w < 8 → (((nI w + 1) + 1) + (8 : Int32)) - (((nI w + 1) + 1) + (8 : Int32)) / (8 : Int32) * (8 : Int32) = nI (tw w 1 1)) w hw
theorem next_x {k p s t M : Nat} {l : Nat → Nat → Int32} {b : Int32} {σ : Sg} {Q : Int32 → Sg → Prop} (hk : k < 6) (hC : CoK σ k p l) (hK : IKb M σ) (hMb : M ≤ 200000) (hs : s < 2048) (ht : t < 60) (hp : p < 1000) (hb : t3 b)
    (hQ : ∀ σ', Fk k σ σ' → CoK σ' k p l → IKb M σ' → σ'.1 (16 + 2 * k) 6 = nI (ng l p s t b) → Q (nI (nx l p s t b)) σ') : w_X3_next k (nI s) (nI t) b σ Q := by
  unfold w_X3_next
  rw [an7 (by omega), sh3 (by omega), an15 (by omega), sh7 (by omega)]
  refine lawB_x hk hC hK hMb ht (Nat.mod_lt _ (by decide)) (fun σ1 hf hC1 hK1 => ?_)
  simp only [bd_eq]
  rw [twX hs (hC.2.1 _ _) hb]
  have h0 := @tw_lt (s % 8) (l t (s % 8)) b
  have hd : ∀ w', w' < 8 → (s / 8 * 8 + w') % 8 = w' ∧ (s / 8 * 8 + w') / 8 % 16 = s / 8 % 16 ∧ (s / 8 * 8 + w') / 128 = s / 128 := fun w' h => by omega
  obtain ⟨d1, d2, d3⟩ := hd _ h0
  rw [← d2, ← d3]
  refine ⟨p + 1, ?_⟩
  have key := stepX (k := k) (p := p) (J := fun (x7 : Int32) (x8 : Int32) (x9 : Int32) (σ10 : Sg) => Q ((((128 : Int32) * x9) + ((8 : Int32) * x8)) + x7) σ10) hp p 0 (s / 8 * 8 + tw (s % 8) (l t (s % 8)) b) 0 (sI σ1 (16 + 2 * k) 6 0) (by omega) (by omega) (by rw [rd_in, if_neg (by decide)]; exact hC1.1.2) (by rw [rd_in, if_pos rfl]; rfl) (fun σ' hg h6 => ?_)
  · rw [d1] at key
    exact key
  · have e1 : nI (nx l p s t b) = (((128 : Int32) * nI (nx l p s t b / 128)) + ((8 : Int32) * nI (nx l p s t b / 8 % 16))) + nI (nx l p s t b % 8) := by
      rw [show (128 : Int32) = nI 128 from rfl, show (8 : Int32) = nI 8 from rfl, pk_mul, pk_mul, nI_add, nI_add]
      congr 1
      omega
    show Q ((((128 : Int32) * nI (nx l p s t b / 128)) + ((8 : Int32) * nI (nx l p s t b / 8 % 16))) + nI (nx l p s t b % 8)) σ'
    rw [← e1]
    have g2 := Fg.set.trans hg
    refine hQ σ' (hf.trans (Fk.of_g g2 (by omega))) (CoK_c hC1 (g2.1 9 (by omega)) (by rw [g2.1 8 (by omega)]) (by rw [g2.1 1 (by omega)]) (by rw [g2.1 1 (by omega)]) (by rw [g2.1 5 (by omega)]) g2.2.1 (g2.1 _ (by omega))) ?_ h6
    refine IKb_c hK1 (Nat.le_refl _) (fun j hj => ⟨fun i hi => ?_, g2.1 _ (by omega)⟩)
    by_cases hjk : j = k
    · subst hjk; exact g2.2.1 i hi
    · rw [g2.1 _ (by omega)]
