/-! shift -/
theorem sh1_l {s n : Nat} {b : Nat} {J : Sg → Prop} (hs : s < 6) (hb : b + n ≤ 60) : ∀ (d i : Nat) (σ : Sg), i + d = n → (∀ σ', σ'.1 = σ.1 → (∀ c, c ≠ 94 → σ'.2 c = σ.2 c) → (∀ j, i ≤ j → j < n → σ'.2 94 j = σ.2 93 (60 * s + b + j)) → (∀ j, j < i → σ'.2 94 j = σ.2 94 j) → J σ') → w_X12_shift_l113 (nI s) (nI b) (nI n) J (d + 1) (nI i) σ
  | 0, i, σ, h, hJ => by
    unfold w_X12_shift_l113
    rw [if_pos (nI_le (by omega) (by omega))]
    exact hJ σ rfl (fun _ _ => rfl) (fun j h1 h2 => by omega) (fun _ _ => rfl)
  | d + 1, i, σ, h, hJ => by
    unfold w_X12_shift_l113
    have e : (((60 : Int32) * nI s) + nI b) + nI i = nI (60 * s + b + i) := by rw [show (60 : Int32) = nI 60 from rfl, pk_mul, nI_add, nI_add]
    rw [if_neg (nI_ge (by omega) (by omega)), e, cl_nI (by omega), cl_nI (by omega), bd_eq, nI_1]
    refine ⟨vp_nI (by omega) (by decide), vp_nI (by omega) (by decide), sh1_l hs hb d (i + 1) _ (by omega) (fun σ' e1 e2 e3 e4 => hJ σ' e1 (fun c hc => by rw [e2 c hc, rj_ne hc]) (fun j h1 h2 => ?_) (fun j hj => ?_))⟩
    · by_cases ej : j = i
      · subst ej
        rw [e4 j (by omega), rj_in, if_pos rfl]
      · rw [e3 j (by omega) h2, rj_ne (by decide)]
    · rw [e4 j (by omega), rj_in, if_neg (by omega)]
theorem sh2_l {c n : Nat} {d' : Nat} {Q : Int32 → Sg → Prop} (hs : c < 6) (hb : d' + n ≤ 60) : ∀ (d i : Nat) (σ : Sg), i + d = n → (∀ σ', σ'.1 = σ.1 → (∀ x, x ≠ 93 → σ'.2 x = σ.2 x) → (∀ j, i ≤ j → j < n → σ'.2 93 (60 * c + d' + j) = σ.2 94 j) → (∀ j, j < 60 * c + d' + i ∨ 60 * c + d' + n ≤ j → σ'.2 93 j = σ.2 93 j) → Q (nI n) σ') → w_X12_shift_l150 (nI c) (nI d') (nI n) Q (d + 1) (nI i) σ
  | 0, i, σ, h, hJ => by
    unfold w_X12_shift_l150
    rw [if_pos (nI_le (by omega) (by omega))]
    exact hJ σ rfl (fun _ _ => rfl) (fun j h1 h2 => by omega) (fun _ _ => rfl)
  | d + 1, i, σ, h, hJ => by
    unfold w_X12_shift_l150
    have e : (((60 : Int32) * nI c) + nI d') + nI i = nI (60 * c + d' + i) := by rw [show (60 : Int32) = nI 60 from rfl, pk_mul, nI_add, nI_add]
    rw [if_neg (nI_ge (by omega) (by omega)), e, cl_nI (by omega), cl_nI (by omega), bd_eq, nI_1]
    refine ⟨vp_nI (by omega) (by decide), vp_nI (by omega) (by decide), sh2_l hs hb d (i + 1) _ (by omega) (fun σ' e1 e2 e3 e4 => hJ σ' e1 (fun x hx => by rw [e2 x hx, rj_ne hx]) (fun j h1 h2 => ?_) (fun j hj => ?_))⟩
    · by_cases ej : j = i
      · subst ej
        rw [e4 _ (by omega), rj_in, if_pos rfl]
      · rw [e3 j (by omega) h2, rj_ne (by decide)]
    · rw [e4 j (by omega), rj_in, if_neg (by omega)]
/-- a stretch of a row -/
def RG (i n : Int32) (len : Nat) : Prop := ∃ a m : Nat, i = nI a ∧ n = nI m ∧ a + m ≤ len
theorem rg_x {k len : Nat} {i n : Int32} {σ : Sg} {Q : Int32 → Sg → Prop} (hl : len ≤ 60) (h : σ.1 (45 + 2 * k) 2 = nI len) (h1 : RG i n len → Q 1 σ) (h0 : ¬ RG i n len → Q 0 σ) : w_X10_hasRange k i n σ Q := by
  unfold w_X10_hasRange
  rw [h]
  by_cases g1 : n < 0
  · rw [if_pos g1]
    exact h0 (fun ⟨a, m, _, e, _⟩ => absurd (e ▸ g1) (nI_pos (by omega)))
  rw [if_neg g1]
  obtain ⟨m, hm, rfl⟩ := nI_of g1
  by_cases g2 : nI len < nI m
  · rw [if_pos g2]
    refine h0 (fun ⟨a, m', _, e, h'⟩ => ?_)
    have := (nI_eq hm (by omega)).mp e
    exact absurd g2 (nI_nlt (by omega) (by omega))
  rw [if_neg g2]
  have hml : m ≤ len := Nat.le_of_not_lt (fun q => g2 (nI_lt q hm))
  by_cases g3 : i < 0
  · rw [if_pos g3]
    exact h0 (fun ⟨a, m', e, _, _⟩ => absurd (e ▸ g3) (nI_pos (by omega)))
  rw [if_neg g3]
  obtain ⟨a, ha, rfl⟩ := nI_of g3
  rw [pk_sub hml]
  by_cases g4 : nI (len - m) < nI a
  · rw [if_pos g4]
    refine h0 (fun ⟨a', m', e', e, h'⟩ => ?_)
    have := (nI_eq hm (by omega)).mp e
    have := (nI_eq ha (by omega)).mp e'
    exact absurd g4 (nI_nlt (by omega) (by omega))
  · rw [if_neg g4]
    have : a ≤ len - m := Nat.le_of_not_lt (fun q => g4 (nI_lt q ha))
    exact h1 ⟨a, m, rfl, rfl, by omega⟩
/-- the reference's tests of both stretches -/
theorem rg_m {A B : Prop} {i j n : Int32} {l1 l2 : Nat} (h1 : l1 ≤ 60) (h2 : l2 ≤ 60) {V W : Prop} (hV : V) (hW : W) (ok : RG i n l1 → RG j n l2 → A) (no : ¬ (RG i n l1 ∧ RG j n l2) → B) :
    if n < 0 then B else (if i < 0 then B else (if j < 0 then B else (V ∧ if (nI l1 - n) < i then B else (W ∧ if j ≤ (nI l2 - n) then A else B)))) := by
  by_cases g1 : n < 0
  · rw [if_pos g1]
    exact no (fun ⟨⟨a, m, _, e, _⟩, _⟩ => absurd (e ▸ g1) (nI_pos (by omega)))
  rw [if_neg g1]
  obtain ⟨m, hm, rfl⟩ := nI_of g1
  by_cases g2 : i < 0
  · rw [if_pos g2]
    exact no (fun ⟨⟨a, m, e, _, _⟩, _⟩ => absurd (e ▸ g2) (nI_pos (by omega)))
  rw [if_neg g2]
  obtain ⟨a, ha, rfl⟩ := nI_of g2
  by_cases g3 : j < 0
  · rw [if_pos g3]
    exact no (fun ⟨_, ⟨a, m, e, _, _⟩⟩ => absurd (e ▸ g3) (nI_pos (by omega)))
  rw [if_neg g3]
  obtain ⟨c, hc, rfl⟩ := nI_of g3
  refine ⟨hV, ?_⟩
  have ti : ∀ l, l ≤ 60 → (nI l - nI m).toInt = (l : Int) - m := fun l hl => by
    rw [Int32.toInt_sub, nI_toInt (by omega), nI_toInt hm, Int.bmod_eq_of_le (by omega) (by omega)]
  by_cases g4 : (nI l1 - nI m) < nI a
  · rw [if_pos g4]
    refine no (fun ⟨⟨a', m', e', e, h'⟩, _⟩ => ?_)
    have q1 := (nI_eq hm (by omega)).mp e
    have q2 := (nI_eq ha (by omega)).mp e'
    rw [i32_lt, ti l1 h1, nI_toInt ha] at g4
    omega
  rw [if_neg g4]
  refine ⟨hW, ?_⟩
  rw [i32_lt, ti l1 h1, nI_toInt ha] at g4
  by_cases g5 : nI c ≤ (nI l2 - nI m)
  · rw [if_pos g5]
    rw [i32_le, ti l2 h2, nI_toInt hc] at g5
    exact ok ⟨a, m, rfl, rfl, by omega⟩ ⟨c, m, rfl, rfl, by omega⟩
  · rw [if_neg g5]
    rw [i32_le, ti l2 h2, nI_toInt hc] at g5
    refine no (fun ⟨_, ⟨a', m', e', e, h'⟩⟩ => ?_)
    have q1 := (nI_eq hm (by omega)).mp e
    have q2 := (nI_eq hc (by omega)).mp e'
    omega
theorem shift_b {a c : Int32} {b d e : Int32} {σ : Sg} {Q : Int32 → Sg → Prop} (h : ¬ (inR a 0 5 ∧ inR c 0 5)) (hQ : Q (-1) σ) : w_X12_shift a b c d e σ Q := by
  unfold w_X12_shift
  refine shelf_m (fun h1 => ?_) (fun _ => by rw [if_pos rfl]; exact hQ)
  rw [if_neg one_ne]
  exact shelf_m (fun h2 => absurd ⟨h1, h2⟩ h) (fun _ => by rw [if_pos rfl]; exact hQ)
theorem op_shift {N : Nat} {σ : Sg} (hI : Inv N σ) (a b c d e : Int32) {Q : Int32 → Int32 → Sg → Prop} (hQ : ∀ r σ', Inv (N + 1) σ' → Q r r σ') : w_X11_shift a b c d e σ (fun r σ1 => w_X12_shift a b c d e σ1 (fun r' σ2 => Q r r' σ2)) := by
  have hS := hI.2.2.2.2.2.1
  have hU := Inv_up hI
  obtain ⟨bb, hb, b1, hs⟩ := sh_of hS
  unfold w_X11_shift
  refine shelf_x (fun h1 => ?_) (fun h => by rw [if_pos rfl]; exact shift_b (fun q => h q.1) (hQ _ _ hU))
  rw [if_neg one_ne]
  refine shelf_x (fun h2 => ?_) (fun h => by rw [if_pos rfl]; exact shift_b (fun q => h q.2) (hQ _ _ hU))
  rw [if_neg one_ne]
  obtain ⟨s, hs6, rfl⟩ := s6 h1
  obtain ⟨t, ht6, rfl⟩ := s6 h2
  have hv := vp_nI hs6 (show 6 < 1000000 by decide)
  have hv' := vp_nI ht6 (show 6 < 1000000 by decide)
  rw [cl_nI (by omega), cl_nI (by omega)]
  refine ⟨hv, hv', ?_⟩
  have mopen : ∀ {P : Int32 → Sg → Prop} {τ : Sg}, (vp_in (nI s) 6 ∧ if (τ.1 91 s) = (-1 : Int32) then (P (-11 : Int32) τ) else (vp_in (nI t) 6 ∧ if (τ.1 91 t) = (-1 : Int32) then (P (-11 : Int32) τ) else (vp_in (nI s) 6 ∧ if 0 ≤ (τ.1 91 s) then (P (-12 : Int32) τ) else (vp_in (nI s) 6 ∧ vp_in (nI t) 6 ∧ if (τ.1 91 s) = (τ.1 91 t) then (if e < 0 then (P (-13 : Int32) τ) else (if b < 0 then (P (-13 : Int32) τ) else (if d < 0 then (P (-13 : Int32) τ) else (vp_in (nI s) 6 ∧ if ((τ.1 92 s) - e) < b then (P (-13 : Int32) τ) else (vp_in (nI t) 6 ∧ if d ≤ ((τ.1 92 t) - e) then (bd (fun (σ5 : Sg) => ∃ n, w_X12_shift_l150 (nI t) d e P n (0 : Int32) σ5) fun J147 => ∃ n, w_X12_shift_l113 (nI s) b e J147 n (0 : Int32) τ) else (P (-13 : Int32) τ)))))) else (P (-12 : Int32) τ))))) → w_X12_shift (nI s) b (nI t) d e τ P := by
    intro P τ h
    unfold w_X12_shift
    refine shelf_m (fun _ => ?_) (fun q => absurd h1 q)
    rw [if_neg one_ne]
    refine shelf_m (fun _ => ?_) (fun q => absurd h2 q)
    rw [if_neg one_ne, cl_nI (by omega), cl_nI (by omega)]
    exact h
  rcases (hs s hs6).1 with hA | ⟨m, hA⟩ | ⟨q, n, hA⟩
  · rw [hA.2, if_pos rfl]
    refine mopen ⟨hv, ?_⟩
    rw [hA.1, if_pos rfl]
    exact hQ _ _ hU
  · have hm := hA.1
    rw [hA.2.2.1, if_neg (by decide)]
    rcases (hs t ht6).1 with hC | ⟨m', hC⟩ | ⟨q', n', hC⟩
    · rw [hC.2, if_pos rfl]
      refine mopen ⟨hv, ?_⟩
      rw [hA.2.1, if_neg (nI_n1 (by omega)).1, hC.1, if_pos rfl]
      exact ⟨hv', hQ _ _ hU⟩
    · have hm' := hC.1
      rw [hC.2.2.1, if_neg (by decide), if_pos rfl]
      refine mopen ⟨hv, ?_⟩
      rw [hA.2.1, if_neg (nI_n1 (by omega)).1, hC.2.1, if_neg (nI_n1 (by omega)).1, if_pos (nI_n1 (by omega)).2.2]
      exact ⟨hv', hv, hQ _ _ hU⟩
    · obtain ⟨q1, q2, q3, q4, q5, q6⟩ := hC
      rw [q4, if_neg (m2q q' q1).2.2.2.2.1, if_pos rfl]
      refine mopen ⟨hv, ?_⟩
      rw [hA.2.1, if_neg (nI_n1 (by omega)).1, q3, if_neg (m2q q' q1).1, if_pos (nI_n1 (by omega)).2.2]
      exact ⟨hv', hv, hQ _ _ hU⟩
  · obtain ⟨p1, p2, p3, p4, p5, p6⟩ := id hA
    rw [p4, if_neg (m2q q p1).2.2.2.2.1]
    rcases (hs t ht6).1 with hC | ⟨m', hC⟩ | ⟨q', n', hC⟩
    · rw [hC.2, if_pos rfl]
      refine mopen ⟨hv, ?_⟩
      rw [p3, if_neg (m2q q p1).1, hC.1, if_pos rfl]
      exact ⟨hv', hQ _ _ hU⟩
    · have hm' := hC.1
      rw [hC.2.2.1, if_neg (by decide), if_neg (m2q q p1).2.2.2.2.2, if_neg (m2q q p1).2.2.2.2.2]
      refine mopen ⟨hv, ?_⟩
      rw [p3, if_neg (m2q q p1).1, hC.2.1, if_neg (nI_n1 (by omega)).1, if_neg (m2q q p1).2.2.1, if_neg (fun z => by have h1 := (m2q q p1).2.1; rw [z] at h1; exact (nI_n1 (by omega)).2.1 h1)]
      exact ⟨hv', hv, hv, hv', hQ _ _ hU⟩
    · obtain ⟨q1, q2, q3, q4, q5, q6⟩ := id hC
      rw [q4, if_neg (m2q q' q1).2.2.2.2.1, if_neg (m2q q p1).2.2.2.2.2]
      by_cases hqq : q = q'
      · subst hqq
        rw [if_pos rfl]
        have mrun : ∀ v : Int32, ∀ τ : Sg, τ.1 = σ.1 → (∀ P : Int32 → Sg → Prop, (RG b e n → RG d e n' → bd (fun (σ5 : Sg) => ∃ k, w_X12_shift_l150 (nI t) d e P k (0 : Int32) σ5) fun J147 => ∃ k, w_X12_shift_l113 (nI s) b e J147 k (0 : Int32) τ) → (¬ (RG b e n ∧ RG d e n') → P (-13) τ) → w_X12_shift (nI s) b (nI t) d e τ P) := by
          intro v τ hτ P ok no
          refine mopen ⟨hv, ?_⟩
          rw [hτ, p3, if_neg (m2q q p1).1, q3, if_neg (m2q q p1).1, if_neg (m2q q p1).2.2.1, if_pos rfl, p6, q6]
          refine ⟨hv', hv, hv, hv', ?_⟩
          exact rg_m p2 q2 hv hv' ok no
        refine rg_x p2 p5 (fun g1 => ?_) (fun g1 => ?_)
        · rw [if_neg one_ne]
          refine rg_x q2 q5 (fun g2 => ?_) (fun g2 => ?_)
          · rw [if_neg one_ne]
            obtain ⟨i, k, rfl, rfl, hik⟩ := id g1
            obtain ⟨j, k', rfl, ek, hjk⟩ := id g2
            have ekk : k' = k := nI_inj (by omega) (by omega) ek.symm
            subst ekk
            rw [cl_nI (by omega), cl_nI (by omega), cl_nI (by omega), bd_eq]
            refine ⟨⟨nI_pos (by omega), nI_pos (by omega), nI_pos (by omega), by rw [cl_nI (by omega), cl_nI (by omega)]; omega, by rw [cl_nI (by omega), cl_nI (by omega)]; omega⟩, ?_⟩
            refine mrun 0 _ rjr_1 _ (fun _ _ => ?_) (fun h => absurd ⟨g1, g2⟩ h)
            rw [bd_eq]
            refine ⟨k' + 1, sh1_l hs6 (by omega) k' 0 _ (by omega) (fun τ1 e1 e2 e3 e4 => ⟨k' + 1, sh2_l ht6 (by omega) k' 0 τ1 (by omega) (fun τ2 f1 f2 f3 f4 => hQ _ _ (Inv_sh hI (fun x _ _ _ => by rw [f1, e1, rjr_1]) (IS_upd ht6 hS (by rw [f1, e1, rjr_1]) (fun u hu hne => ⟨by rw [f1, e1, rjr_1], by rw [f1, e1, rjr_1], by rw [f1, e1, rjr_1], fun y hy => ?_, fun y hy => ?_⟩) (fun b' h1' h2' => ?_) (fun y hy => ?_))))⟩)⟩
            · rw [f4 _ (by omega), e2 93 (by decide), rjr_ne (by omega)]
            · rw [f2 _ (by omega), e2 _ (by omega), rjr_ne (by omega)]
            · rw [f1, e1, rjr_1]
              obtain ⟨b2, h3, h4, h5⟩ := hS
              have : b' = b2 := nI_inj (by omega) (by omega) (h1'.symm.trans h4)
              rw [this]
              exact (h5 t ht6).1
            · rw [f2 (46 + 2 * t) (by omega), e2 _ (by omega), rjr_eq]
              unfold va_cpy
              by_cases hy2 : j ≤ y ∧ y < j + k'
              · rw [if_pos hy2, show 60 * t + y = 60 * t + j + (y - j) by omega, f3 _ (by omega) (by omega), e3 _ (by omega) (by omega), rjr_ne (by omega), show 60 * s + i + (y - j) = 60 * s + (i + (y - j)) by omega, (hs s hs6).2 _ (by omega)]
              · rw [if_neg hy2, f4 _ (by omega), e2 93 (by decide), rjr_ne (by omega), (hs t ht6).2 y hy]
          · rw [if_pos rfl]
            exact mrun 0 σ rfl _ (fun _ h => absurd h g2) (fun _ => hQ _ _ hU)
        · rw [if_pos rfl]
          exact mrun 0 σ rfl _ (fun h _ => absurd h g1) (fun _ => hQ _ _ hU)
      · rw [if_neg (fun z => hqq (nI_inj (by omega) (by omega) z))]
        refine mopen ⟨hv, ?_⟩
        rw [p3, if_neg (m2q q p1).1, q3, if_neg (m2q q' q1).1, if_neg (m2q q p1).2.2.1, if_neg (fun z => hqq (m2i p1 q1 z))]
        exact ⟨hv', hv, hv, hv', hQ _ _ hU⟩
