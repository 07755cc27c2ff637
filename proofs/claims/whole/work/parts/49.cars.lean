/-! carriages from a row -/
def okC (f : Nat → Int32) (len a nC j : Nat) : Prop := a + 3 * j + 3 ≤ len ∧ inR (f (a + 3 * j)) 0 255 ∧ inR (f (a + 3 * j + 1)) 0 7 ∧ inR (f (a + 3 * j + 2)) 1 4 ∧ nC + j < 6
theorem okC_m (f : Nat → Int32) (len a nC : Nat) : ∀ n, ∃ m, m ≤ n ∧ (∀ j, j < m → okC f len a nC j) ∧ (m < n → ¬ okC f len a nC m)
  | 0 => ⟨0, Nat.le_refl _, fun j hj => by omega, fun h => by omega⟩
  | n + 1 => by
    obtain ⟨m, h1, h2, h3⟩ := okC_m f len a nC n
    by_cases e : m < n
    · exact ⟨m, by omega, h2, fun _ => h3 e⟩
    · have e2 : m = n := by omega
      subst e2
      by_cases g : okC f len a nC m
      · refine ⟨m + 1, Nat.le_refl _, fun j hj => ?_, fun h => by omega⟩
        by_cases ej : j = m
        · rw [ej]; exact g
        · exact h2 j (by omega)
      · exact ⟨m, by omega, h2, fun _ => g⟩
def upC (g : Nat → Int32) (v : Nat → Int32) (nC j : Nat) : Nat → Int32 := fun k => if nC ≤ k ∧ k < nC + j then v (k - nC) else g k
theorem upC_s {g v : Nat → Int32} {nC j : Nat} : (fun k => if k = nC + j then v j else upC g v nC j k) = upC g v nC (j + 1) := by
  funext k
  unfold upC
  by_cases e : k = nC + j
  · subst e
    rw [if_pos rfl, if_pos (by omega), show nC + j - nC = j by omega]
  · rw [if_neg e]
    by_cases g : nC ≤ k ∧ k < nC + j
    · rw [if_pos g, if_pos (by omega)]
    · rw [if_neg g, if_neg (by omega)]
theorem upC_0 {g v : Nat → Int32} {nC : Nat} : upC g v nC 0 = g := by
  funext k
  unfold upC
  rw [if_neg (by omega)]
def UX (f : Nat → Int32) (a nC : Nat) (σ τ : Sg) (j : Nat) : Prop := (∀ c, c = 0 ∨ 5 < c → τ.1 c = σ.1 c) ∧ (∀ i, i ≠ 4 → τ.1 1 i = σ.1 1 i) ∧ τ.2 = σ.2 ∧ τ.1 1 4 = nI (nC + j) ∧
  τ.1 2 = upC (σ.1 2) (fun i => f (a + 3 * i)) nC j ∧ τ.1 3 = upC (σ.1 3) (fun i => f (a + 3 * i + 1)) nC j ∧ τ.1 4 = upC (σ.1 4) (fun i => f (a + 3 * i + 2)) nC j ∧ τ.1 5 = upC (σ.1 5) (fun _ => 9) nC j
theorem UX_0 {f : Nat → Int32} {a nC : Nat} {σ : Sg} (h : σ.1 1 4 = nI nC) : UX f a nC σ σ 0 := ⟨fun _ _ => rfl, fun _ _ => rfl, rfl, h, by rw [upC_0], by rw [upC_0], by rw [upC_0], by rw [upC_0]⟩
def UM (f : Nat → Int32) (a nC : Nat) (σ τ : Sg) (j : Nat) : Prop := (∀ c, c < 60 ∨ 64 < c → τ.1 c = σ.1 c) ∧ (∀ i, i ≠ 1 → τ.1 60 i = σ.1 60 i) ∧ τ.2 = σ.2 ∧ τ.1 60 1 = nI (nC + j) ∧
  τ.1 61 = upC (σ.1 61) (fun i => f (a + 3 * i)) nC j ∧ τ.1 62 = upC (σ.1 62) (fun i => f (a + 3 * i + 1)) nC j ∧ τ.1 63 = upC (σ.1 63) (fun i => f (a + 3 * i + 2)) nC j ∧ τ.1 64 = upC (σ.1 64) (fun _ => 9) nC j
theorem UM_0 {f : Nat → Int32} {a nC : Nat} {σ : Sg} (h : σ.1 60 1 = nI nC) : UM f a nC σ σ 0 := ⟨fun _ _ => rfl, fun _ _ => rfl, rfl, h, by rw [upC_0], by rw [upC_0], by rw [upC_0], by rw [upC_0]⟩
theorem sub3 {len : Nat} (h : len ≤ 60) : (nI len - 3).toInt = (len : Int) - 3 := by
  have := pk_sub_toInt (a := len) (b := 3) (by omega) (by decide)
  exact this
/-- one of the row: it comes, or it doesn't -/
theorem comes_x {f : Nat → Int32} {a nC j s len : Nat} {σ τ : Sg} {Q : Int32 → Sg → Prop} (hU : UX f a nC σ τ j) (hf : ∀ i, i < 60 → Int64.toInt32 (σ.2 (46 + 2 * s) i) = f i) (hl : len ≤ 60) (h3 : a + 3 * j + 3 ≤ len) (hnc : nC + j ≤ 6)
    (h1 : okC f len a nC j → ∀ τ', UX f a nC σ τ' (j + 1) → Q 1 τ') (h0 : ¬ okC f len a nC j → Q 0 τ) : w_X11_comesFrom s (nI (a + 3 * j)) τ Q := by
  obtain ⟨u1, u2, u3, u4, u5, u6, u7, u8⟩ := id hU
  unfold w_X11_comesFrom
  rw [nI_1, show (2 : Int32) = nI 2 from rfl, nI_add, cl_nI (by omega), cl_nI (by omega), cl_nI (by omega), u3, hf _ (by omega), hf _ (by omega), hf _ (by omega), bd_eq, bd_eq, bd_eq]
  refine ⟨vp_nI (by omega) (by decide), vp_nI (by omega) (by decide), vp_nI (by omega) (by decide), ?_⟩
  rw [← nI_0]
  refine may_x (w := 0) (by decide) (fun p1 => ?_) (fun p1 => ?_)
  · rw [nI_0, if_neg one_ne, show (1 : Int32) = nI 1 from rfl]
    refine may_x (w := 1) (by decide) (fun p2 => ?_) (fun p2 => ?_)
    · rw [if_neg one_ne]
      refine may_x (w := 2) (by decide) (fun p3 => ?_) (fun p3 => ?_)
      · rw [if_neg one_ne]
        unfold w_X7_addCarriage
        by_cases g : nC + j < 6
        · rw [u4, if_pos (show nI (nC + j) < 6 from nI_lt (b := 6) g (by decide))]
          have hv : vp_in (nI (nC + j)) 6 := vp_nI g (by decide)
          simp only [bd_eq, u4, rd_ne, rd_fn, rd_2, rdr_eq, rdr_ne, rdr_2, rj_1, rj_ne, rj_fn, rjr_1, rjr_eq, rjr_ne, ne_eq, not_false_eq_true, reduceCtorEq, Nat.reduceEqDiff, if_true, if_false, ite_true, ite_false, cl_nI (show nC + j < 1000000 by omega), hv, true_and, nI_add1]
          rw [if_neg (fun q => by have := congrArg Int32.toInt q; rw [nI_toInt (by omega), show (-3 : Int32).toInt = -3 by decide] at this; omega)]
          refine h1 ⟨h3, p1, p2, p3, g⟩ _ ⟨fun c hc => ?_, fun i hi => ?_, u3, ?_, ?_, ?_, ?_, ?_⟩
          · rw [rd_ne (by omega), rd_ne (by omega), rd_ne (by omega), rd_ne (by omega), rd_ne (by omega), u1 c hc]
          · rw [rd_in, if_neg hi, rd_ne (by decide), rd_ne (by decide), rd_ne (by decide), rd_ne (by decide), u2 i hi]
          · rw [rd_in, if_pos rfl, nI_1]; rfl
          · simp only [rd_ne, rd_fn, rd_2, rdr_eq, rdr_ne, rdr_2, rj_1, rj_ne, rj_fn, rjr_1, rjr_eq, rjr_ne, ne_eq, not_false_eq_true, reduceCtorEq, Nat.reduceEqDiff, if_true, if_false, ite_true, ite_false]; rw [u5, ← upC_s]
          · simp only [rd_ne, rd_fn, rd_2, rdr_eq, rdr_ne, rdr_2, rj_1, rj_ne, rj_fn, rjr_1, rjr_eq, rjr_ne, ne_eq, not_false_eq_true, reduceCtorEq, Nat.reduceEqDiff, if_true, if_false, ite_true, ite_false]; rw [u6, ← upC_s]
          · simp only [rd_ne, rd_fn, rd_2, rdr_eq, rdr_ne, rdr_2, rj_1, rj_ne, rj_fn, rjr_1, rjr_eq, rjr_ne, ne_eq, not_false_eq_true, reduceCtorEq, Nat.reduceEqDiff, if_true, if_false, ite_true, ite_false]; rw [u7, ← upC_s]
          · simp only [rd_ne, rd_fn, rd_2, rdr_eq, rdr_ne, rdr_2, rj_1, rj_ne, rj_fn, rjr_1, rjr_eq, rjr_ne, ne_eq, not_false_eq_true, reduceCtorEq, Nat.reduceEqDiff, if_true, if_false, ite_true, ite_false]; rw [u8, ← upC_s]
        · have e6 : nC + j = 6 := by omega
          rw [u4, e6, if_neg (by decide)]
          dsimp only
          rw [if_pos rfl]
          exact h0 (fun q => by have := q.2.2.2.2; omega)
      · rw [if_pos rfl]
        exact h0 (fun q => p3 q.2.2.2.1)
    · rw [if_pos rfl]
      exact h0 (fun q => p2 q.2.2.1)
  · rw [nI_0, if_pos rfl]
    exact h0 (fun q => p1 q.2.1)
theorem cars_x {f : Nat → Int32} {a nC s len n m : Nat} {σ : Sg} {Q : Int32 → Sg → Prop} (hs : s < 6) (ha : a < 2 ^ 31) (hn : n ≤ 6) (hnC : nC ≤ 6) (hlen : σ.1 (45 + 2 * s) 2 = nI len) (hl : len ≤ 60) (hf : ∀ i, i < 60 → Int64.toInt32 (σ.2 (46 + 2 * s) i) = f i) (hm : m ≤ n) (hok : ∀ j, j < m → okC f len a nC j) (hno : m < n → ¬ okC f len a nC m)
    (hQ : ∀ τ', UX f a nC σ τ' m → Q (nI m) τ') : ∀ (d j : Nat) (τ : Sg), j + d = m → UX f a nC σ τ j → w_X11_carriages_l57 (nI s) (nI n) Q (d + 1) (nI j) (nI (a + 3 * j)) τ
  | 0, j, τ, h, hU => by
    have : j = m := by omega
    subst this
    unfold w_X11_carriages_l57
    by_cases g : j = n
    · rw [if_pos (by rw [g]; exact nI_le (Nat.le_refl _) (by omega))]
      exact hQ τ hU
    · have hno' := hno (by omega)
      have hbig : a + 3 * j < 2 ^ 31 := by
        cases j with
        | zero => omega
        | succ i => have := (hok i (by omega)).1; omega
      rw [if_neg (nI_ge (by omega) (by omega)), if_neg (nI_pos hbig), cl_nI (by omega), hU.1 _ (by omega), hlen]
      by_cases g2 : a + 3 * j + 3 ≤ len
      · rw [if_neg (by rw [i32_lt, sub3 hl, nI_toInt hbig]; omega)]
        have hnc : nC + j ≤ 6 := by
          cases j with
          | zero => omega
          | succ i => have := (hok i (by omega)).2.2.2.2; omega
        refine comes_x hU hf hl g2 hnc (fun q => absurd q hno') (fun _ => ?_)
        rw [if_pos rfl]
        exact hQ τ hU
      · rw [if_pos (by rw [i32_lt, sub3 hl, nI_toInt hbig]; omega)]
        exact hQ τ hU
  | d + 1, j, τ, h, hU => by
    have hj := hok j (by omega)
    obtain ⟨o1, o2, o3, o4, o5⟩ := id hj
    unfold w_X11_carriages_l57
    rw [if_neg (nI_ge (by omega) (by omega)), if_neg (nI_pos (by omega)), cl_nI (by omega), hU.1 _ (by omega), hlen, if_neg (by rw [i32_lt, sub3 hl, nI_toInt (by omega)]; omega)]
    refine comes_x hU hf hl o1 (by omega) (fun _ τ' hU' => ?_) (fun q => absurd hj q)
    rw [if_neg one_ne, nI_1, show (3 : Int32) = nI 3 from rfl, nI_add, show a + 3 * j + 3 = a + 3 * (j + 1) by omega]
    exact cars_x hs ha hn hnC hlen hl hf hm hok hno hQ d (j + 1) τ' (by omega) hU'
theorem lgc {x y : Nat} (hx : x < 2 ^ 62) (hy : y < 2 ^ 62) : lg_cmp (lN x) (lN y) = if y < x then 1 else if x = y then 0 else -1 := by
  unfold lg_cmp
  by_cases g : y < x
  · rw [if_pos g, if_pos (show lN y < lN x from (pk_lLT (by omega) (by omega)).mpr g)]
  · rw [if_neg g, if_neg (show ¬ lN y < lN x from fun q => g ((pk_lLT (by omega) (by omega)).mp q))]
    by_cases g2 : x = y
    · rw [if_pos g2, if_pos (by rw [g2])]
    · rw [if_neg g2, if_neg (fun q => g2 ((pk_lEQ (by omega) (by omega)).mp q))]
theorem lgc0 {x : Nat} (hx : x < 2 ^ 62) : ¬ lg_cmp (lN x) 0 < 0 := by
  rw [show (0 : Int64) = lN 0 from rfl, lgc hx (by decide)]
  by_cases g : 0 < x
  · rw [if_pos g]; decide
  · rw [if_neg g, if_pos (by omega)]; decide
theorem cars_m {f : Nat → Int32} {a nC s len n m : Nat} {σ : Sg} {Q : Int32 → Sg → Prop} (hs : s < 6) (ha : a < 2 ^ 31) (hn : n ≤ 6) (hnC : nC ≤ 6) (hlen : σ.1 92 s = nI len) (hl : len ≤ 60) (hf : ∀ i, i < 60 → Int64.toInt32 (σ.2 93 (60 * s + i)) = f i) (hm : m ≤ n) (hok : ∀ j, j < m → okC f len a nC j) (hno : m < n → ¬ okC f len a nC m)
    (hQ : ∀ τ', UM f a nC σ τ' m → Q (nI m) τ') : ∀ (d j : Nat) (τ : Sg), j + d = m → UM f a nC σ τ j → w_X12_carriages_l58 (nI s) (nI a) (nI n) Q (d + 1) (nI j) τ
  | d, j, τ, h, hU => by
    obtain ⟨u1, u2, u3, u4, u5, u6, u7, u8⟩ := id hU
    have hv6 : vp_in (nI s) 6 := vp_nI hs (by decide)
    unfold w_X12_carriages_l58
    by_cases g : j = n
    · rw [if_pos (by rw [g]; exact nI_le (Nat.le_refl _) (by omega))]
      have : j = m := by omega
      rw [← g, this]
      rw [this] at hU
      exact hQ τ hU
    · have hbig : a + 3 * j < 2 ^ 31 + 60 := by
        cases j with
        | zero => omega
        | succ i => have := (hok i (by omega)).1; omega
      have ex : Int32.toInt64 (nI a) + Int32.toInt64 ((3 : Int32) * nI j) = lN (a + 3 * j) := by
        rw [show (3 : Int32) = nI 3 from rfl, pk_mul, nI_l ha, nI_l (by omega), lN_add]
      have hstop : ¬ okC f len a nC j → Q (nI j) τ := fun q => by
        have : j = m := by
          apply Classical.byContradiction
          intro hne
          exact q (hok j (by omega))
        rw [this] at hU ⊢
        exact hQ τ hU
      rw [if_neg (nI_ge (by omega) (by omega)), ex, bd_eq, if_neg (lgc0 (by omega)), show (2 : Int64) = lN 2 from rfl, lN_add, cl_nI (by omega), u1 92 (by decide), hlen, nI_l (by omega), lgc (by omega) (by omega), u4]
      refine ⟨hv6, ?_⟩
      by_cases g2 : a + 3 * j + 3 ≤ len
      · rw [if_neg (show ¬ (0 : Int32) ≤ (if len < a + 3 * j + 2 then 1 else if a + 3 * j + 2 = len then 0 else -1) by rw [if_neg (by omega), if_neg (by omega)]; decide)]
        by_cases g3 : nC + j < 6
        · have hii : ∀ c, c < 3 → (60 * s + (a + 3 * j)) + c < 360 := fun c hc => by omega
          rw [if_neg (fun q => by have := nI_inj (b := 6) (by omega) (by decide) q; omega), lN_i, show (60 : Int32) = nI 60 from rfl, pk_mul, nI_add, bd_eq, nI_1, show (2 : Int32) = nI 2 from rfl, nI_add, cl_nI (by omega), cl_nI (by omega), cl_nI (by omega)]
          have v0 : vp_in (nI (60 * s + (a + 3 * j))) 360 := vp_nI (by omega) (by decide)
          have v1 : vp_in (nI (60 * s + (a + 3 * j) + 1)) 360 := vp_nI (by omega) (by decide)
          have v2 : vp_in (nI (60 * s + (a + 3 * j) + 2)) 360 := vp_nI (by omega) (by decide)
          refine ⟨v0, ?_⟩
          rw [u3, hf _ (by omega)]
          refine cell_m (fun p1 => ?_) (fun p1 => ?_)
          · rw [if_neg one_ne]
            refine ⟨v1, ?_⟩
            rw [u3, show 60 * s + (a + 3 * j) + 1 = 60 * s + (a + 3 * j + 1) by omega, hf _ (by omega)]
            refine in_m (a := 0) (b := 7) (by decide) (by decide) (fun p2 => ?_) (fun p2 => ?_)
            · rw [if_neg one_ne]
              refine ⟨v2, ?_⟩
              rw [u3, show 60 * s + (a + 3 * j) + 2 = 60 * s + (a + 3 * j + 2) by omega, hf _ (by omega)]
              refine in_m (a := 1) (b := 4) (by decide) (by decide) (fun p3 => ?_) (fun p3 => ?_)
              · rw [if_neg one_ne, u3, hf _ (by omega), hf _ (by omega), hf _ (by omega)]
                refine ⟨v0, v1, v2, ?_⟩
                have hj : okC f len a nC j := ⟨g2, p1, p2, p3, g3⟩
                cases d with
                | zero =>
                  exfalso
                  have : j = m := by omega
                  exact hno (by omega) (this ▸ hj)
                | succ d =>
                  unfold w_X12_addCarriage
                  have hv : vp_in (nI (nC + j)) 6 := vp_nI g3 (by decide)
                  simp only [bd_eq, u4, rd_ne, rd_fn, rd_2, rdr_eq, rdr_ne, rdr_2, rj_1, rj_ne, rj_fn, rjr_1, rjr_eq, rjr_ne, ne_eq, not_false_eq_true, reduceCtorEq, Nat.reduceEqDiff, if_true, if_false, ite_true, ite_false, cl_nI (show nC + j < 1000000 by omega), hv, true_and, nI_1]
                  refine cars_m hs ha hn hnC hlen hl hf hm hok hno hQ d (j + 1) _ (by omega) ⟨fun c hc => ?_, fun i hi => ?_, u3, ?_, ?_, ?_, ?_, ?_⟩
                  · rw [rd_ne (by omega), rd_ne (by omega), rd_ne (by omega), rd_ne (by omega), rd_ne (by omega), u1 c hc]
                  · rw [rd_in, if_neg hi, rd_ne (by decide), rd_ne (by decide), rd_ne (by decide), rd_ne (by decide), u2 i hi]
                  · rw [rd_in, if_pos rfl]; rfl
                  · simp only [rd_ne, rd_fn, rd_2, rdr_eq, rdr_ne, rdr_2, rj_1, rj_ne, rj_fn, rjr_1, rjr_eq, rjr_ne, ne_eq, not_false_eq_true, reduceCtorEq, Nat.reduceEqDiff, if_true, if_false, ite_true, ite_false]; rw [u5, ← upC_s]
                  · simp only [rd_ne, rd_fn, rd_2, rdr_eq, rdr_ne, rdr_2, rj_1, rj_ne, rj_fn, rjr_1, rjr_eq, rjr_ne, ne_eq, not_false_eq_true, reduceCtorEq, Nat.reduceEqDiff, if_true, if_false, ite_true, ite_false]; rw [u6, ← upC_s]
                  · simp only [rd_ne, rd_fn, rd_2, rdr_eq, rdr_ne, rdr_2, rj_1, rj_ne, rj_fn, rjr_1, rjr_eq, rjr_ne, ne_eq, not_false_eq_true, reduceCtorEq, Nat.reduceEqDiff, if_true, if_false, ite_true, ite_false]; rw [u7, ← upC_s]
                  · simp only [rd_ne, rd_fn, rd_2, rdr_eq, rdr_ne, rdr_2, rj_1, rj_ne, rj_fn, rjr_1, rjr_eq, rjr_ne, ne_eq, not_false_eq_true, reduceCtorEq, Nat.reduceEqDiff, if_true, if_false, ite_true, ite_false]; rw [u8, ← upC_s]
              · rw [if_pos rfl]
                exact hstop (fun q => p3 q.2.2.2.1)
            · rw [if_pos rfl]
              exact hstop (fun q => p2 q.2.2.1)
          · rw [if_pos rfl]
            exact hstop (fun q => p1 q.2.1)
        · have e6 : nC + j = 6 := by
            cases j with
            | zero => omega
            | succ i => have := (hok i (by omega)).2.2.2.2; omega
          rw [e6, if_pos (show nI 6 = 6 from rfl)]
          exact hstop (fun q => by have := q.2.2.2.2; omega)
      · rw [if_pos (show (0 : Int32) ≤ (if len < a + 3 * j + 2 then 1 else if a + 3 * j + 2 = len then 0 else -1) by
          by_cases g4 : len < a + 3 * j + 2
          · rw [if_pos g4]; decide
          · rw [if_neg g4, if_pos (by omega)]; decide)]
        exact hstop (fun q => g2 q.1)
  termination_by d => d
theorem Inv_cars {N : Nat} {σ : Sg} (hI : Inv N σ) {f : Nat → Int32} {a nC m : Nat} {τ τ' : Sg} {len : Nat} (hnC : σ.1 1 4 = nI nC) (hn6 : nC + m ≤ 6) (hok : ∀ j, j < m → okC f len a nC j) (hX : UX f a nC σ τ m) (hM : UM f a nC τ τ' m) : Inv (N + 1) τ' := by
  obtain ⟨hA, hT, hC, hI2, hB, hS, hK, hL⟩ := id hI
  obtain ⟨⟨a1, a2, a3, a4, a5, a6⟩, ⟨e1, e2, e3, e4, e5⟩, ⟨mC, nP, ⟨hn', en'⟩, ⟨hp, ep⟩, hr, hq⟩, r1, r2, r3⟩ := id hA
  have x1 : mC = nC := nI_inj (by omega) (by omega) (en'.symm.trans hnC)
  subst x1
  obtain ⟨u1, u2, u3, u4, u5, u6, u7, u8⟩ := hX
  obtain ⟨v1, v2, v3, v4, v5, v6, v7, v8⟩ := hM
  have o : ∀ c, (c = 0 ∨ (5 < c ∧ c < 60) ∨ 64 < c) → τ'.1 c = σ.1 c := fun c h => by rw [v1 c (by omega), u1 c (by omega)]
  have y : ∀ c, 1 ≤ c → c ≤ 5 → τ'.1 c = τ.1 c := fun c h1 h2 => v1 c (by omega)
  have o60 : ∀ i, i ≠ 1 → τ'.1 60 i = σ.1 60 i := fun i hi => by rw [v2 i hi, u1 60 (by decide)]
  have o1 : ∀ i, i ≠ 4 → τ'.1 1 i = σ.1 1 i := fun i hi => by rw [y 1 (by decide) (by decide), u2 i hi]
  have o14 : τ'.1 1 4 = nI (mC + m) := by rw [y 1 (by decide) (by decide), u4]
  refine ⟨⟨⟨by rw [v5, u1 61 (by decide), a1, y 2 (by decide) (by decide), u5], by rw [v6, u1 62 (by decide), a2, y 3 (by decide) (by decide), u6], by rw [v7, u1 63 (by decide), a3, y 4 (by decide) (by decide), u7], by rw [v8, u1 64 (by decide), a4, y 5 (by decide) (by decide), u8], by rw [o 65 (by omega), o 6 (by omega), a5], by rw [o 66 (by omega), o 7 (by omega), a6]⟩, ⟨by rw [v4, o14], by rw [o60 6 (by decide), o1 7 (by decide), e2], by rw [o 67 (by omega), o1 8 (by decide), e3], by rw [o 67 (by omega), o1 9 (by decide), e4], by rw [o 67 (by omega), o1 10 (by decide), e5]⟩,
      ⟨mC + m, nP, ⟨hn6, o14⟩, ⟨hp, by rw [o1 7 (by decide), ep]⟩, fun k hk => ?_, fun q hq' => by rw [o 6 (by omega), o 7 (by omega)]; exact hq q hq'⟩, by rw [o1 8 (by decide)]; exact r1, by rw [o1 9 (by decide)]; exact r2, by rw [o1 10 (by decide)]; exact r3⟩,
    IT_c hT (by rw [o 0 (by omega)]) (o60 17 (by decide)) (o 14 (by omega)) (o 72 (by omega)),
    IC_grow (nC := mC) (nC' := mC + m) (nP := nP) (nP' := nP) hC hnC ep o14 (by rw [o1 7 (by decide), ep]) ⟨by omega, hn6⟩ ⟨Nat.le_refl _, hp⟩ (o 36 (by omega)) (o 37 (by omega)) (o60 10 (by decide)) (o60 11 (by decide)) (o 68 (by omega)) (o 69 (by omega)) (o 70 (by omega)) (o 71 (by omega)),
    II_grow (nC := mC) (nC' := mC + m) hI2 hnC hn' o14 ⟨by omega, hn6⟩ (o 84 (by omega)) (o 39 (by omega)) (o 38 (by omega)) (o60 40 (by decide)) (o60 41 (by decide)) (o60 42 (by decide)) ⟨o 40 (by omega), o 41 (by omega), o 42 (by omega), o 43 (by omega)⟩ ⟨o 85 (by omega), o 86 (by omega), o 87 (by omega), o 88 (by omega)⟩,
    IB_c hB (o 89 (by omega)) (o 90 (by omega)) (o 58 (by omega)) (o 59 (by omega)) (by rw [o 57 (by omega)]) (by rw [o 57 (by omega)]) (o60 47 (by decide)) (o60 49 (by decide)),
    IS_c hS (by rw [o 57 (by omega)]) (o 91 (by omega)) (o 92 (by omega)) (fun s hs => o _ (by omega)) (by rw [v3, u3]), IK_c hK (fun k hk => ⟨o _ (by omega), o _ (by omega)⟩),
    IL_c hL (o 9 (by omega)) (by rw [o 8 (by omega)]) (sameLaw_of (o 73 (by omega)) (o 74 (by omega)) (o 75 (by omega)) (o 76 (by omega)) (o 77 (by omega)) (o60 29 (by decide)))⟩
  rw [y 2 (by decide) (by decide), y 3 (by decide) (by decide), y 4 (by decide) (by decide), y 5 (by decide) (by decide), u5, u6, u7, u8]
  unfold upC
  by_cases g : mC ≤ k ∧ k < mC + m
  · obtain ⟨o1', o2, o3, o4, o5⟩ := hok (k - mC) (by omega)
    rw [if_pos g, if_pos g, if_pos g, if_pos g]
    exact ⟨o2, o3, o4, by show inR 9 0 9; unfold inR; decide⟩
  · rw [if_neg g, if_neg g, if_neg g, if_neg g]
    exact hr k (by omega)
theorem cars_b {a b c v : Int32} {σ : Sg} {Q : Int32 → Sg → Prop} (h : ¬ (inR a 0 5 ∧ inR c 1 6) ∧ v = -1 ∨ (inR a 0 5 ∧ inR c 1 6) ∧ ∃ s, s < 6 ∧ a = nI s ∧ (σ.1 91 s = -1 ∧ v = 0 ∨ ¬ σ.1 91 s = -1 ∧ ¬ σ.1 91 s = -3 ∧ v = -12)) (hQ : Q v σ) : w_X12_carriages a b c σ Q := by
  have hb : ¬ (inR a 0 5 ∧ inR c 1 6) → Q (-1) σ := fun q => by
    rcases h with h | h
    · rw [← h.2]; exact hQ
    · exact absurd h.1 q
  unfold w_X12_carriages
  refine shelf_m (fun h1 => ?_) (fun q => by rw [if_pos rfl]; exact hb (fun r => q r.1))
  rw [if_neg one_ne]
  refine in_m (a := 1) (b := 6) (by decide) (by decide) (fun h2 => ?_) (fun q => by rw [if_pos rfl]; exact hb (fun r => q r.2))
  rw [if_neg one_ne]
  rcases h with h | ⟨-, s, hs, rfl, h⟩
  · exact absurd ⟨h1, h2⟩ h.1
  · have hv := vp_nI hs (show 6 < 1000000 by decide)
    rw [cl_nI (by omega)]
    refine ⟨hv, ?_⟩
    rw [bd_eq]
    rcases h with ⟨h, hv'⟩ | ⟨h, h', hv'⟩
    · rw [if_pos h, ← hv']
      dsimp only
      rw [if_pos h]
      exact ⟨hv, hQ⟩
    · rw [if_neg h, if_neg h', ← hv']
      exact ⟨hv, hQ⟩
theorem op_carriages {N : Nat} {σ : Sg} (hI : Inv N σ) (a b c : Int32) {Q : Int32 → Int32 → Sg → Prop} (hQ : ∀ r σ', Inv (N + 1) σ' → Q r r σ') : w_X11_carriages a b c σ (fun r σ1 => w_X12_carriages a b c σ1 (fun r' σ2 => Q r r' σ2)) := by
  have hS := hI.2.2.2.2.2.1
  have hU := Inv_up hI
  obtain ⟨bb, hbb, b1, hsh⟩ := sh_of hS
  obtain ⟨-, ⟨e1, -⟩, ⟨nC, nP, ⟨hn, en⟩, -⟩, -⟩ := id hI.1
  unfold w_X11_carriages
  refine shelf_x (fun h1 => ?_) (fun h => by rw [if_pos rfl]; exact cars_b (Or.inl ⟨fun q => h q.1, rfl⟩) (hQ _ _ hU))
  rw [if_neg one_ne]
  refine within_x (a := 1) (b := 6) (by decide) (by decide) (fun h2 => ?_) (fun h => by rw [if_pos rfl]; exact cars_b (Or.inl ⟨fun q => h q.2, rfl⟩) (hQ _ _ hU))
  rw [if_neg one_ne]
  obtain ⟨s, hs, rfl⟩ := s6 h1
  have hv := vp_nI hs (show 6 < 1000000 by decide)
  rw [cl_nI (by omega)]
  refine ⟨hv, ?_⟩
  rcases (hsh s hs).1 with h | ⟨m, h⟩ | ⟨q, len, h⟩
  · rw [h.2, if_pos rfl]
    exact cars_b (Or.inr ⟨⟨h1, h2⟩, s, hs, rfl, Or.inl ⟨h.1, rfl⟩⟩) (hQ _ _ hU)
  · have hm := h.1
    rw [h.2.2.1, if_neg (by decide), if_neg (by decide)]
    refine cars_b (Or.inr ⟨⟨h1, h2⟩, s, hs, rfl, Or.inr ⟨by rw [h.2.1]; exact (nI_n1 (by omega)).1, fun z => ?_, rfl⟩⟩) (hQ _ _ hU)
    rw [h.2.1] at z
    exact (nI_n1 (show m < 2 ^ 31 by omega)).2.1 (by rw [z]; decide)
  · obtain ⟨q1, q2, q3, q4, q5, q6⟩ := h
    rw [q4, if_neg (m2q q q1).2.2.2.2.1]
    by_cases g : q = 1
    · subst g
      rw [if_pos (show nI 1 = 1 from rfl)]
      obtain ⟨n, hn6, rfl⟩ := inR_num (v := c) (b := 6) ⟨by have := h2.1; omega, h2.2⟩ (by decide)
      have hn1 : 1 ≤ n := by have := h2.1; rw [nI_toInt (by omega)] at this; omega
      have mopen : ∀ (τ : Sg) (P : Int32 → Sg → Prop), τ.1 91 = σ.1 91 → (∃ k, w_X12_carriages_l58 (nI s) b (nI n) P k (0 : Int32) τ) → w_X12_carriages (nI s) b (nI n) τ P := by
        intro τ P h91 hk
        unfold w_X12_carriages
        refine shelf_m (fun _ => ?_) (fun z => absurd h1 z)
        rw [if_neg one_ne]
        refine in_m (a := 1) (b := 6) (by decide) (by decide) (fun _ => ?_) (fun z => absurd h2 z)
        rw [if_neg one_ne, cl_nI (by omega), h91, q3, bd_eq, if_neg (by decide), if_pos (by decide)]
        refine ⟨hv, hv, ?_⟩
        dsimp only
        rw [h91, q3, if_neg (by decide)]
        exact ⟨hv, hk⟩
      by_cases hb : b < 0
      · refine ⟨1, ?_⟩
        unfold w_X11_carriages_l57
        rw [if_neg (show ¬ nI n ≤ 0 from nI_nle (by omega) (by omega)), if_pos hb]
        refine mopen σ _ rfl ⟨1, ?_⟩
        unfold w_X12_carriages_l58
        rw [if_neg (show ¬ nI n ≤ 0 from nI_nle (by omega) (by omega)), bd_eq]
        have ex : Int32.toInt64 b + Int32.toInt64 ((3 : Int32) * 0) = Int32.toInt64 b := by
          rw [show Int32.toInt64 ((3 : Int32) * 0) = 0 by decide, Int64.add_zero]
        have hl : Int32.toInt64 b < 0 := by
          rw [Int64.lt_iff_toInt_lt, Int32.toInt_toInt64, Int64.toInt_zero]
          rw [i32_lt, Int32.toInt_zero] at hb
          exact hb
        have hc : lg_cmp (Int32.toInt64 b) 0 = -1 := by
          unfold lg_cmp
          rw [if_neg (show ¬ (0 : Int64) < Int32.toInt64 b by rw [Int64.lt_iff_toInt_lt] at hl ⊢; omega), if_neg (fun z => by rw [z] at hl; exact absurd hl (by decide))]
        rw [ex, hc, if_pos (by decide)]
        exact hQ _ _ hU
      · obtain ⟨a, ha, rfl⟩ := nI_of hb
        obtain ⟨m, m1, m2, m3⟩ := okC_m (fun i => Int64.toInt32 (σ.2 (46 + 2 * s) i)) len a nC n
        have hnm : nC + m ≤ 6 := by
          cases m with
          | zero => omega
          | succ i => have := (m2 i (by omega)).2.2.2.2; omega
        refine ⟨m + 1, cars_x (f := fun i => Int64.toInt32 (σ.2 (46 + 2 * s) i)) hs ha hn6 hn q5 q2 (fun _ _ => rfl) m1 m2 m3 (fun τ hUX => ?_) m 0 σ (by omega) (UX_0 en)⟩
        refine mopen τ _ (hUX.1 91 (by decide)) ⟨m + 1, cars_m (f := fun i => Int64.toInt32 (σ.2 (46 + 2 * s) i)) hs ha hn6 hn (by rw [hUX.1 92 (by decide)]; exact q6) q2 (fun i hi => ?_) m1 m2 m3 (fun τ' hUM => hQ _ _ (Inv_cars hI en hnm m2 hUX hUM)) m 0 τ (by omega) (UM_0 (by rw [hUX.1 60 (by decide), e1, en]))⟩
        rw [hUX.2.2.1, (hsh s hs).2 i hi]
    · rw [if_neg (show ¬ nI q = 1 from fun z => g (nI_inj (b := 1) (by omega) (by decide) z))]
      refine cars_b (Or.inr ⟨⟨h1, h2⟩, s, hs, rfl, Or.inr ⟨by rw [q3]; exact (m2q q q1).1, fun z => ?_, rfl⟩⟩) (hQ _ _ hU)
      rw [q3] at z
      exact g (m2i (q := 1) q1 (by decide) (z.trans (by decide)))
