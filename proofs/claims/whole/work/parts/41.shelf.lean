/-! shelves: keep, row, put, element, taken -/
theorem Inv_sh {N : Nat} {σ : Sg} (hI : Inv N σ) {σ' : Sg} (e : ∀ c, (c < 45 ∨ 56 < c) → c ≠ 91 → c ≠ 92 → σ'.1 c = σ.1 c) (hS : IS σ') : Inv (N + 1) σ' := by
  obtain ⟨hA, hT, hC, hI2, hB, -, hK, hL⟩ := hI
  have o : ∀ c, (c < 45 ∨ 56 < c) ∧ c ≠ 91 ∧ c ≠ 92 → σ'.1 c = σ.1 c := fun c h => e c h.1 h.2.1 h.2.2
  exact ⟨IA_c hA (o 1 (by omega)) ⟨o 2 (by omega), o 3 (by omega), o 4 (by omega), o 5 (by omega), o 6 (by omega), o 7 (by omega)⟩ ⟨o 61 (by omega), o 62 (by omega), o 63 (by omega), o 64 (by omega), o 65 (by omega), o 66 (by omega)⟩ (by rw [o 60 (by omega)]) (by rw [o 60 (by omega)]) (o 67 (by omega)),
    IT_c hT (by rw [o 0 (by omega)]) (by rw [o 60 (by omega)]) (o 14 (by omega)) (o 72 (by omega)),
    IC_c hC (by rw [o 1 (by omega)]) (by rw [o 1 (by omega)]) (o 36 (by omega)) (o 37 (by omega)) (by rw [o 60 (by omega)]) (by rw [o 60 (by omega)]) (o 68 (by omega)) (o 69 (by omega)) (o 70 (by omega)) (o 71 (by omega)),
    II_c hI2 (o 84 (by omega)) (o 39 (by omega)) (o 38 (by omega)) (by rw [o 60 (by omega)]) (by rw [o 60 (by omega)]) (by rw [o 60 (by omega)]) (by rw [o 1 (by omega)]) ⟨o 40 (by omega), o 41 (by omega), o 42 (by omega), o 43 (by omega)⟩ ⟨o 85 (by omega), o 86 (by omega), o 87 (by omega), o 88 (by omega)⟩,
    IB_c hB (o 89 (by omega)) (o 90 (by omega)) (o 58 (by omega)) (o 59 (by omega)) (by rw [o 57 (by omega)]) (by rw [o 57 (by omega)]) (by rw [o 60 (by omega)]) (by rw [o 60 (by omega)]),
    hS, IK_c hK (fun k hk => ⟨o _ (by omega), o _ (by omega)⟩),
    IL_c hL (o 9 (by omega)) (by rw [o 8 (by omega)]) (sameLaw_of (o 73 (by omega)) (o 74 (by omega)) (o 75 (by omega)) (o 76 (by omega)) (o 77 (by omega)) (by rw [o 60 (by omega)]))⟩
/-- what a shelf holds -/
def ShE (σ : Sg) (s : Nat) : Prop := σ.1 91 s = -1 ∧ σ.1 (45 + 2 * s) 0 = -2
def ShB (σ : Sg) (b s m : Nat) : Prop := m < b ∧ σ.1 91 s = nI m ∧ σ.1 (45 + 2 * s) 0 = -1 ∧ σ.1 (45 + 2 * s) 1 = nI m
def ShR (σ : Sg) (s q n : Nat) : Prop := q ≤ 4 ∧ n ≤ 60 ∧ σ.1 91 s = -2 - nI q ∧ σ.1 (45 + 2 * s) 0 = nI q ∧ σ.1 (45 + 2 * s) 2 = nI n ∧ σ.1 92 s = nI n
theorem sh_of {σ : Sg} (h : IS σ) : ∃ b, b ≤ 50 ∧ σ.1 57 1 = nI b ∧ ∀ s, s < 6 → (ShE σ s ∨ (∃ m, ShB σ b s m) ∨ ∃ q n, ShR σ s q n) ∧ ∀ j, j < 60 → σ.2 93 (60 * s + j) = σ.2 (46 + 2 * s) j := by
  obtain ⟨b, h1, h2, h3⟩ := h
  refine ⟨b, h1, h2, fun s hs => ⟨?_, (h3 s hs).2⟩⟩
  rcases (h3 s hs).1 with ⟨p1, p2⟩ | ⟨p1, p2, p3, p4⟩ | ⟨p1, p2, p3, p4⟩
  · exact Or.inl ⟨p1, p2⟩
  · have e : σ.1 (45 + 2 * s) 1 = nI (σ.1 (45 + 2 * s) 1).toInt.toNat := toInt_nat (by omega) (by omega)
    exact Or.inr (Or.inl ⟨_, by omega, p2.trans e, p1, e⟩)
  · obtain ⟨q, q1, q2⟩ := inR_num (b := 4) p1 (by decide)
    obtain ⟨n, n1, n2⟩ := inR_num (b := 60) p4 (by decide)
    exact Or.inr (Or.inr ⟨q, n, q1, n1, by rw [p2, q2], q2, n2, p3.symm.trans n2⟩)
theorem IS_upd {σ σ' : Sg} {s : Nat} (hs : s < 6) (h : IS σ) (e57 : σ'.1 57 1 = σ.1 57 1) (eo : ∀ u, u < 6 → u ≠ s → σ'.1 (45 + 2 * u) = σ.1 (45 + 2 * u) ∧ σ'.1 91 u = σ.1 91 u ∧ σ'.1 92 u = σ.1 92 u ∧ (∀ j, j < 60 → σ'.2 93 (60 * u + j) = σ.2 93 (60 * u + j)) ∧ (∀ j, j < 60 → σ'.2 (46 + 2 * u) j = σ.2 (46 + 2 * u) j))
    (hn : ∀ b, σ.1 57 1 = nI b → b ≤ 50 → okSh b (σ'.1 91 s) (σ'.1 (45 + 2 * s) 0) (σ'.1 (45 + 2 * s) 1) (σ'.1 (45 + 2 * s) 2) (σ'.1 92 s)) (he : ∀ j, j < 60 → σ'.2 93 (60 * s + j) = σ'.2 (46 + 2 * s) j) : IS σ' := by
  obtain ⟨b, h1, h2, h3⟩ := h
  refine ⟨b, h1, e57.trans h2, fun u hu => ?_⟩
  by_cases e : u = s
  · subst e
    exact ⟨hn b h2 h1, he⟩
  · obtain ⟨o1, o2, o3, o4, o5⟩ := eo u hu e
    obtain ⟨p1, p2⟩ := h3 u hu
    rw [o1, o2, o3]
    exact ⟨p1, fun j hj => by rw [o4 j hj, o5 j hj]; exact p2 j hj⟩
theorem s6 {a : Int32} (h : inR a 0 5) : ∃ s, s < 6 ∧ a = nI s := by
  obtain ⟨s, h1, h2⟩ := inR_num (b := 5) h (by decide)
  exact ⟨s, by omega, h2⟩
theorem body_x {n : Nat} {a : Int32} {σ : Sg} {Q : Int32 → Sg → Prop} (hn : n ≤ 1000) (e : σ.1 57 1 = nI n) (h1 : CR n a → Q 1 σ) (h0 : ¬ CR n a → Q 0 σ) : w_X0_has a σ Q := by
  unfold w_X0_has
  rw [e]
  exact ltI hn h1 h0
theorem body_m {n : Nat} {a : Int32} {σ : Sg} {Q : Int32 → Sg → Prop} (hn : n ≤ 1000) (e : σ.1 60 47 = nI n) (h1 : CR n a → Q 1 σ) (h0 : ¬ CR n a → Q 0 σ) : w_X12_isBody a σ Q := by
  simp only [w_X12_isBody, w_X12_in, e, le_pred (show n < 1000000 by omega)]
  exact ltI hn (fun h => ⟨Or.inr trivial, h1 h⟩) (fun h => ⟨Or.inl trivial, h0 h⟩)
theorem keep_b {n : Nat} {a b : Int32} {σ : Sg} {Q : Int32 → Sg → Prop} (hn : n ≤ 1000) (e : σ.1 60 47 = nI n) (h : ¬ (inR a 0 5 ∧ (b = -1 ∨ CR n b))) (hQ : Q (-1) σ) : w_X12_keep a b σ Q := by
  unfold w_X12_keep
  refine shelf_m (fun h1 => ?_) (fun _ => by rw [if_pos rfl]; exact hQ)
  rw [if_neg one_ne, bd_eq, if_neg (fun q => h ⟨h1, Or.inl q⟩)]
  exact body_m hn e (fun q => absurd ⟨h1, Or.inr q⟩ h) (fun _ => by rw [if_pos rfl]; exact hQ)
theorem keep_m {n : Nat} {a b : Int32} {σ : Sg} {Q : Int32 → Sg → Prop} (hn : n ≤ 1000) (e : σ.1 60 47 = nI n) {s : Nat} (hs : s < 6) (ha : a = nI s) (hb : b = -1 ∨ CR n b) (hQ : Q 1 (sI σ 91 s b)) : w_X12_keep a b σ Q := by
  have hv : vp_in a 6 := by rw [ha]; exact vp_nI hs (by decide)
  have hr : inR a 0 5 := by rw [ha]; exact nI_inR (b := 5) (by omega) (by decide)
  have hJ : vp_in a 6 ∧ bd (sI σ 91 (Int32.toNatClampNeg a) b) fun σ4 => Q (1 : Int32) σ4 := by
    refine ⟨hv, ?_⟩
    rw [ha, cl_nI (by omega), bd_eq]
    exact hQ
  unfold w_X12_keep
  refine shelf_m (fun _ => ?_) (fun h => absurd hr h)
  rw [if_neg one_ne, bd_eq]
  by_cases g : b = -1
  · rw [if_pos g]
    exact hJ
  · rw [if_neg g]
    refine body_m hn e (fun _ => ?_) (fun q => absurd (hb.resolve_left g) q)
    rw [if_neg one_ne]
    exact hJ
theorem op_keep {N : Nat} {σ : Sg} (hI : Inv N σ) (a b : Int32) {Q : Int32 → Int32 → Sg → Prop} (hQ : ∀ r σ', Inv (N + 1) σ' → Q r r σ') : w_X11_keep a b σ (fun r σ1 => w_X12_keep a b σ1 (fun r' σ2 => Q r r' σ2)) := by
  obtain ⟨-, -, n, -, hn, -, b1, b2, -, -, -⟩ := id hI.2.2.2.2.1
  have hS := hI.2.2.2.2.2.1
  unfold w_X11_keep
  refine shelf_x (fun h1 => ?_) (fun h => by rw [if_pos rfl]; exact keep_b (by omega) b2 (fun q => h q.1) (hQ _ _ (Inv_up hI)))
  rw [if_neg one_ne, bd_eq]
  obtain ⟨s, hs, rfl⟩ := s6 h1
  have hv : vp_in (nI s) 6 := vp_nI hs (by decide)
  by_cases g : b = -1
  · rw [if_pos g]
    dsimp only
    rw [if_pos g, cl_nI (by omega)]
    refine ⟨hv, ?_⟩
    unfold w_X10_clear
    rw [bd_eq, bd_eq]
    refine keep_m (n := n) (by omega) (by rw [rd_ne (by omega), rd_ne (by omega), b2]) hs rfl (Or.inl g) (hQ _ _ (Inv_sh hI (fun c h h' h'' => by rw [rd_ne h', rd_ne (by omega), rd_ne (by omega)]) ?_))
    refine IS_upd hs hS (by rw [rd_ne (by decide), rd_ne (by omega), rd_ne (by omega)]) (fun u hu hne => ⟨by rw [rd_ne (by omega), rd_ne (by omega), rd_ne (by omega)], by rw [rd_in, if_neg hne, rd_ne (by omega), rd_ne (by omega)], by rw [rd_ne (by decide), rd_ne (by omega), rd_ne (by omega)], fun _ _ => rfl, fun _ _ => rfl⟩) (fun b' _ _ => Or.inl ⟨?_, ?_⟩) (fun j hj => ?_)
    · rw [rd_in, if_pos rfl, g]
    · rw [rd_ne (by omega), rd_in, if_neg (by decide), rd_in, if_pos rfl]
    · obtain ⟨_, _, _, h3⟩ := hS
      exact (h3 s hs).2 j hj
  · rw [if_neg g]
    refine body_x (n := n) (by omega) b1 (fun hc => ?_) (fun h => by rw [if_pos rfl]; exact keep_b (by omega) b2 (fun q => q.2.elim g h) (hQ _ _ (Inv_up hI)))
    rw [if_neg one_ne]
    dsimp only
    rw [if_neg g, cl_nI (by omega)]
    refine ⟨hv, ?_⟩
    unfold w_X10_holdBody
    rw [bd_eq, bd_eq, bd_eq]
    refine keep_m (n := n) (by omega) (by rw [rd_ne (by omega), rd_ne (by omega), rd_ne (by omega), b2]) hs rfl (Or.inr hc) (hQ _ _ (Inv_sh hI (fun c h h' h'' => by rw [rd_ne h', rd_ne (by omega), rd_ne (by omega), rd_ne (by omega)]) ?_))
    refine IS_upd hs hS (by rw [rd_ne (by decide), rd_ne (by omega), rd_ne (by omega), rd_ne (by omega)]) (fun u hu hne => ⟨by rw [rd_ne (by omega), rd_ne (by omega), rd_ne (by omega), rd_ne (by omega)], by rw [rd_in, if_neg hne, rd_ne (by omega), rd_ne (by omega), rd_ne (by omega)], by rw [rd_ne (by decide), rd_ne (by omega), rd_ne (by omega), rd_ne (by omega)], fun _ _ => rfl, fun _ _ => rfl⟩) (fun b' hb' hb2 => Or.inr (Or.inl ⟨?_, ?_, ?_⟩)) (fun j hj => ?_)
    · rw [rd_ne (by omega), rd_in, if_neg (by decide), rd_in, if_neg (by decide), rd_in, if_pos rfl]
    · rw [rd_in, if_pos rfl, rd_ne (by omega), rd_in, if_neg (by decide), rd_in, if_pos rfl]
    · obtain ⟨m, hm, rfl⟩ := hc
      have : b' = n := nI_inj (by omega) (by omega) (hb'.symm.trans b1)
      rw [rd_ne (by omega), rd_in, if_neg (by decide), rd_in, if_pos rfl, nI_toInt (by omega)]
      omega
    · obtain ⟨_, _, _, h3⟩ := hS
      exact (h3 s hs).2 j hj
theorem sJr_sJ {σ : Sg} {c k : Nat} {v : Int64} {f : Nat → Int64} : sJr (sJ σ c k v) c f = sJr σ c f := by
  unfold sJr sJ
  refine Prod.ext rfl ?_
  funext c'
  by_cases h : c' = c
  · simp [h]
  · simp [h]
theorem sJr_self {σ : Sg} {c : Nat} : sJr σ c (σ.2 c) = σ := by
  unfold sJr
  refine Prod.ext rfl ?_
  funext c'
  by_cases h : c' = c
  · simp [h]
  · simp [h]
theorem fillJ_l {c n : Nat} {v : Int64} {Q : Sg → Prop} (hn : n < 10000) : ∀ (d i : Nat) (σ : Sg), i + d = n → Q (sJr σ c (fun j => if i ≤ j ∧ j < n then v else σ.2 c j)) → w_J7_fill_d0a16_l6 c n v Q (nI n) (d + 1) (nI i) σ
  | 0, i, σ, h, hQ => by
    have : i = n := by omega
    subst this
    unfold w_J7_fill_d0a16_l6
    rw [if_pos (nI_le (Nat.le_refl _) (by omega))]
    have e : (fun j => if i ≤ j ∧ j < i then v else σ.2 c j) = σ.2 c := by
      funext j
      rw [if_neg (by omega)]
    rw [e, sJr_self] at hQ
    exact hQ
  | d + 1, i, σ, h, hQ => by
    unfold w_J7_fill_d0a16_l6
    rw [if_neg (nI_ge (by omega) (by omega)), cl_nI (by omega), bd_eq, nI_1]
    refine ⟨vp_nI (by omega) (by omega), fillJ_l hn d (i + 1) _ (by omega) ?_⟩
    rw [sJr_sJ]
    have e : (fun j => if i + 1 ≤ j ∧ j < n then v else (sJ σ c i v).2 c j) = (fun j => if i ≤ j ∧ j < n then v else σ.2 c j) := by
      funext j
      rw [rj_in]
      by_cases h1 : j = i
      · subst h1
        rw [if_neg (by omega), if_pos rfl, if_pos (by omega)]
      · by_cases h2 : i + 1 ≤ j ∧ j < n
        · rw [if_pos h2, if_pos (by omega)]
        · rw [if_neg h2, if_neg h1, if_neg (by omega)]
    rw [e]
    exact hQ
theorem fillJ_x {c n : Nat} {v : Int64} {σ : Sg} {Q : Sg → Prop} (hn : n < 10000) (hQ : Q (sJr σ c (fun j => if j < n then v else σ.2 c j))) : w_J7_fill_d0a16 c n v σ Q := by
  unfold w_J7_fill_d0a16
  rw [bd_eq]
  have e : (fun j => if 0 ≤ j ∧ j < n then v else σ.2 c j) = (fun j => if j < n then v else σ.2 c j) := by
    funext j
    simp
  exact ⟨n + 1, fillJ_l hn n 0 σ (by omega) (by rw [e]; exact hQ)⟩
theorem row_l {s : Nat} {Q : Int32 → Sg → Prop} (hs : s < 6) : ∀ (d i : Nat) (σ : Sg), i + d = 60 → Q 1 (sJr σ 93 (fun j => if 60 * s + i ≤ j ∧ j < 60 * s + 60 then 0 else σ.2 93 j)) → w_X12_row_l54 (nI s) Q (d + 1) (nI (60 * s + i)) σ
  | 0, i, σ, h, hQ => by
    have : i = 60 := by omega
    subst this
    unfold w_X12_row_l54
    have e1 : ((60 : Int32) * nI s) + (60 : Int32) = nI (60 * s + 60) := by rw [show (60 : Int32) = nI 60 from rfl, pk_mul, nI_add]
    rw [e1, if_pos (nI_le (Nat.le_refl _) (by omega))]
    have e : (fun j => if 60 * s + 60 ≤ j ∧ j < 60 * s + 60 then (0 : Int64) else σ.2 93 j) = σ.2 93 := by
      funext j
      rw [if_neg (by omega)]
    rw [e, sJr_self] at hQ
    exact hQ
  | d + 1, i, σ, h, hQ => by
    unfold w_X12_row_l54
    have e1 : ((60 : Int32) * nI s) + (60 : Int32) = nI (60 * s + 60) := by rw [show (60 : Int32) = nI 60 from rfl, pk_mul, nI_add]
    rw [e1, if_neg (nI_ge (by omega) (by omega)), cl_nI (by omega), bd_eq, nI_1]
    refine ⟨vp_nI (by omega) (by decide), row_l hs d (i + 1) _ (by omega) ?_⟩
    rw [sJr_sJ]
    have e : (fun j => if 60 * s + (i + 1) ≤ j ∧ j < 60 * s + 60 then (0 : Int64) else (sJ σ 93 (60 * s + i) 0).2 93 j) = (fun j => if 60 * s + i ≤ j ∧ j < 60 * s + 60 then (0 : Int64) else σ.2 93 j) := by
      funext j
      rw [rj_in]
      by_cases h1 : j = 60 * s + i
      · subst h1
        rw [if_neg (by omega), if_pos rfl, if_pos (by omega)]
      · by_cases h2 : 60 * s + (i + 1) ≤ j ∧ j < 60 * s + 60
        · rw [if_pos h2, if_pos (by omega)]
        · rw [if_neg h2, if_neg h1, if_neg (by omega)]
    rw [e]
    exact hQ
theorem row_b {a b c v : Int32} {σ : Sg} {Q : Int32 → Sg → Prop} (h : ¬ (inR a 0 5 ∧ inR b 0 4 ∧ c ≤ 60) ∧ v = -1 ∨ (inR a 0 5 ∧ inR b 0 4 ∧ c ≤ 60) ∧ ¬ 0 ≤ c ∧ v = -14) (hQ : Q v σ) : w_X12_row a b c σ Q := by
  have hb : ¬ (inR a 0 5 ∧ inR b 0 4 ∧ c ≤ 60) → Q (-1) σ := fun q => by
    rcases h with h | h
    · rw [← h.2]; exact hQ
    · exact absurd h.1 q
  unfold w_X12_row
  refine shelf_m (fun h1 => ?_) (fun q => by rw [if_pos rfl]; exact hb (fun r => q r.1))
  rw [if_neg one_ne]
  refine in_m (a := 0) (b := 4) (by decide) (by decide) (fun h2 => ?_) (fun q => by rw [if_pos rfl]; exact hb (fun r => q r.2.1))
  rw [if_neg one_ne]
  by_cases g : c ≤ 60
  · rw [if_pos g]
    rcases h with h | h
    · exact absurd ⟨h1, h2, g⟩ h.1
    · rw [if_neg h.2.1, ← h.2.2]
      exact hQ
  · rw [if_neg g]
    exact hb (fun r => g r.2.2)
theorem op_row {N : Nat} {σ : Sg} (hI : Inv N σ) (a b c : Int32) {Q : Int32 → Int32 → Sg → Prop} (hQ : ∀ r σ', Inv (N + 1) σ' → Q r r σ') : w_X11_row a b c σ (fun r σ1 => w_X12_row a b c σ1 (fun r' σ2 => Q r r' σ2)) := by
  have hS := hI.2.2.2.2.2.1
  unfold w_X11_row
  refine shelf_x (fun h1 => ?_) (fun h => by rw [if_pos rfl]; exact row_b (Or.inl ⟨fun q => h q.1, rfl⟩) (hQ _ _ (Inv_up hI)))
  rw [if_neg one_ne]
  refine within_x (a := 0) (b := 4) (by decide) (by decide) (fun h2 => ?_) (fun h => by rw [if_pos rfl]; exact row_b (Or.inl ⟨fun q => h q.2.1, rfl⟩) (hQ _ _ (Inv_up hI)))
  rw [if_neg one_ne]
  by_cases g : c ≤ 60
  · rw [if_pos g]
    by_cases g2 : 0 ≤ c
    · rw [if_pos g2]
      obtain ⟨s, hs, rfl⟩ := s6 h1
      obtain ⟨q, hq, rfl⟩ := inR_num (b := 4) h2 (by decide)
      have hcR : inR c 0 60 := ⟨by rw [i32_le] at g2; exact g2, by rw [i32_le] at g; exact g⟩
      have hv : vp_in (nI s) 6 := vp_nI hs (by decide)
      rw [cl_nI (by omega)]
      refine ⟨hv, ?_⟩
      unfold w_X10_holdRow
      rw [bd_eq, bd_eq]
      refine fillJ_x (by decide) ?_
      unfold w_X12_row
      refine shelf_m (fun _ => ?_) (fun h => absurd h1 h)
      rw [if_neg one_ne]
      refine in_m (a := 0) (b := 4) (by decide) (by decide) (fun _ => ?_) (fun h => absurd h2 h)
      rw [if_neg one_ne, if_pos g, if_pos g2, cl_nI (by omega), bd_eq, bd_eq, bd_eq]
      refine ⟨hv, hv, 61, ?_⟩
      have e0 : (60 : Int32) * nI s = nI (60 * s + 0) := by rw [show (60 : Int32) = nI 60 from rfl, pk_mul]; rfl
      rw [e0]
      refine row_l hs 60 0 _ (by decide) (hQ _ _ (Inv_sh hI (fun c h h' h'' => by rw [rjr_1, rd_ne h'', rd_ne h', rjr_1, rd_ne (by omega), rd_ne (by omega)]) ?_))
      refine IS_upd hs hS (by rw [rjr_1, rd_ne (by decide), rd_ne (by decide), rjr_1, rd_ne (by omega), rd_ne (by omega)]) (fun u hu hne => ⟨by rw [rjr_1, rd_ne (by omega), rd_ne (by omega), rjr_1, rd_ne (by omega), rd_ne (by omega)], by rw [rjr_1, rd_ne (by decide), rd_in, if_neg hne, rjr_1, rd_ne (by omega), rd_ne (by omega)], by rw [rjr_1, rd_in, if_neg hne, rd_ne (by decide), rjr_1, rd_ne (by omega), rd_ne (by omega)], fun j hj => ?_, fun j hj => ?_⟩) (fun b' hb' hb2 => Or.inr (Or.inr ⟨?_, ?_, ?_, ?_⟩)) (fun j hj => ?_)
      · rw [rjr_eq, if_neg (by omega), rd_2, rd_2, rjr_ne (by omega), rd_2, rd_2]
      · rw [rjr_ne (by omega), rd_2, rd_2, rjr_ne (by omega), rd_2, rd_2]
      · rw [rjr_1, rd_ne (by omega), rd_ne (by omega), rjr_1, rd_in, if_neg (by decide), rd_in, if_pos rfl]; exact h2
      · rw [rjr_1, rd_ne (by decide), rd_in, if_pos rfl, rd_ne (by omega), rd_ne (by omega), rjr_1, rd_in, if_neg (by decide), rd_in, if_pos rfl]
      · rw [rjr_1, rd_ne (by omega), rd_ne (by omega), rjr_1, rd_in, if_pos rfl, rd_in, if_pos rfl]
      · rw [rjr_1, rd_ne (by omega), rd_ne (by omega), rjr_1, rd_in, if_pos rfl]; exact hcR
      · rw [rjr_eq, if_pos (by omega), rjr_ne (by omega), rd_2, rd_2, rjr_eq, if_pos hj]
    · rw [if_neg g2]
      exact row_b (Or.inr ⟨⟨h1, h2, g⟩, g2, rfl⟩) (hQ _ _ (Inv_up hI))
  · rw [if_neg g]
    exact row_b (Or.inl ⟨fun q => g q.2.2, rfl⟩) (hQ _ _ (Inv_up hI))
