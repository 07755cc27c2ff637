/-! soonest -/
def stS (m : Nat) (E : Nat → Nat → Bool) (P : Nat → Bool) : Nat → Bool := fun j => P j || anyT (fun k => P k && E k j) m
def itS (m : Nat) (E : Nat → Nat → Bool) : Nat → (Nat → Bool) → Nat → Bool
  | 0, P => P
  | n + 1, P => itS m E n (stS m E P)
theorem anyT_congr {f g : Nat → Bool} : ∀ {n : Nat}, (∀ i, i < n → f i = g i) → anyT f n = anyT g n
  | 0, _ => rfl
  | n + 1, h => by
    show (anyT f n || f n) = (anyT g n || g n)
    rw [anyT_congr (fun i hi => h i (by omega)), h n (by omega)]
theorem anyT_iff {f : Nat → Bool} : ∀ {n : Nat}, anyT f n = true ↔ ∃ i, i < n ∧ f i = true
  | 0 => by simp [anyT]
  | n + 1 => by
    show (anyT f n || f n) = true ↔ _
    rw [Bool.or_eq_true, anyT_iff]
    constructor
    · rintro (⟨i, h1, h2⟩ | h)
      · exact ⟨i, by omega, h2⟩
      · exact ⟨n, by omega, h⟩
    · rintro ⟨i, h1, h2⟩
      by_cases e : i = n
      · subst e; exact Or.inr h2
      · exact Or.inl ⟨i, by omega, h2⟩
theorem stS_congr {m : Nat} {E : Nat → Nat → Bool} {P R : Nat → Bool} (h : ∀ i, i < m → P i = R i) : ∀ i, i < m → stS m E P i = stS m E R i := fun i hi => by
  unfold stS
  rw [h i hi, anyT_congr (n := m) (fun k hk => by rw [h k hk])]
theorem itS_congr {m : Nat} {E : Nat → Nat → Bool} : ∀ {n : Nat} {P R : Nat → Bool}, (∀ i, i < m → P i = R i) → ∀ i, i < m → itS m E n P i = itS m E n R i
  | 0, _, _, h, i, hi => h i hi
  | n + 1, _, _, h, i, hi => itS_congr (n := n) (stS_congr h) i hi
theorem itS_succ {m : Nat} {E : Nat → Nat → Bool} : ∀ (n : Nat) (P : Nat → Bool), itS m E (n + 1) P = stS m E (itS m E n P)
  | 0, _ => rfl
  | n + 1, P => itS_succ n (stS m E P)
/-- steady, once -/
theorem itS_fix {m : Nat} {E : Nat → Nat → Bool} {P : Nat → Bool} (h : ∀ i, i < m → stS m E P i = P i) : ∀ n, ∀ i, i < m → itS m E n P i = P i
  | 0, i, hi => rfl
  | n + 1, i, hi => by
    have h1 := itS_congr (E := E) (n := n) h i hi
    show itS m E n (stS m E P) i = P i
    rw [h1]
    exact itS_fix h n i hi
theorem itS_add {m : Nat} {E : Nat → Nat → Bool} : ∀ (a b : Nat) (P : Nat → Bool), itS m E (a + b) P = itS m E b (itS m E a P)
  | 0, b, P => by rw [Nat.zero_add]; rfl
  | a + 1, b, P => by
    rw [show a + 1 + b = (a + b) + 1 by omega]
    exact itS_add a b (stS m E P)
theorem stS_mono {m : Nat} {E : Nat → Nat → Bool} {P : Nat → Bool} (i : Nat) (h : P i = true) : stS m E P i = true := by unfold stS; rw [h]; rfl
theorem grow {m : Nat} {E : Nat → Nat → Bool} {P : Nat → Bool} (h : ¬ ∀ i, i < m → stS m E P i = P i) : cnt P m < cnt (stS m E P) m := by
  refine cnt_lt (fun i _ hi => stS_mono i hi) ?_
  apply Classical.byContradiction
  intro hc
  apply h
  intro i hi
  cases hP : P i with
  | true => exact stS_mono i hP
  | false =>
    cases hS : stS m E P i with
    | false => rfl
    | true => exact absurd ⟨i, hi, hP, hS⟩ hc
theorem steady {m : Nat} {E : Nat → Nat → Bool} {P : Nat → Bool} (hm : m ≤ 6) : ∀ i, i < m → stS m E (itS m E 5 P) i = itS m E 5 P i := by
  apply Classical.byContradiction
  intro hc
  have hall : ∀ j, j ≤ 5 → ¬ ∀ i, i < m → stS m E (itS m E j P) i = itS m E j P i := by
    intro j hj hf
    apply hc
    intro i hi
    have e : itS m E 5 P = itS m E (5 - j) (itS m E j P) := by rw [← itS_add]; congr 1; omega
    rw [e, ← itS_succ, itS_fix hf _ i hi, itS_fix hf _ i hi]
  have hg : ∀ j, j ≤ 5 → cnt (itS m E j P) m < cnt (itS m E (j + 1) P) m := fun j hj => by
    rw [itS_succ]; exact grow (hall j hj)
  have h0 : 0 < cnt P m := by
    apply Classical.byContradiction
    intro h0
    apply hall 0 (by decide)
    intro i hi
    have hz : ∀ j, j < m → P j = false := by
      intro j hj
      cases hP : P j with
      | false => rfl
      | true =>
        have : cnt (fun _ => false) m < cnt P m := cnt_lt (fun i _ h => absurd h (by decide)) ⟨j, hj, rfl, hP⟩
        omega
    show stS m E P i = P i
    unfold stS
    have : anyT (fun k => P k && E k i) m = false := by
      cases hA : anyT (fun k => P k && E k i) m with
      | false => rfl
      | true =>
        obtain ⟨k, hk, hk2⟩ := anyT_iff.mp hA
        rw [hz k hk] at hk2
        exact absurd hk2 (by simp)
    rw [this, Bool.or_false]
  have g0 : cnt P m < cnt (itS m E 1 P) m := hg 0 (by decide)
  have g1 : cnt (itS m E 1 P) m < cnt (itS m E 2 P) m := hg 1 (by decide)
  have g2 : cnt (itS m E 2 P) m < cnt (itS m E 3 P) m := hg 2 (by decide)
  have g3 : cnt (itS m E 3 P) m < cnt (itS m E 4 P) m := hg 3 (by decide)
  have g4 : cnt (itS m E 4 P) m < cnt (itS m E 5 P) m := hg 4 (by decide)
  have g5 : cnt (itS m E 5 P) m < cnt (itS m E 6 P) m := hg 5 (by decide)
  have hl := cnt_le (itS m E 6 P) m
  omega
theorem bN_31 {m : Nat} {P : Nat → Bool} (hm : m ≤ 8) : bN m P < 2 ^ 31 := Nat.lt_trans (bN_lt m P) (Nat.pow_lt_pow_right (by decide) (by omega))
theorem bN_nI {m : Nat} {P R : Nat → Bool} (hm : m ≤ 8) : nI (bN m P) = nI (bN m R) ↔ ∀ i, i < m → P i = R i := by
  rw [nI_eq (bN_31 hm) (bN_31 hm)]
  exact ⟨bN_inj, bN_congr⟩
/-- one round of changes, on either side -/
theorem chg1_x {σ : Sg} {nC nP r n t : Nat} {sp wo : Nat → Nat} {S : Nat → Nat → Nat} {P : Nat → Bool} {J : Int32 → Sg → Prop} (hL : LX σ nC nP r sp wo) (hJ : ∀ k, k < nC → JX σ k n (S k)) (hn : n ≤ 60) (ht : t ≤ n) (hQ : J (nI (bN nC (stS nC (fun k j => nr r (S k t / 8) (S j t / 8)) P))) σ) :
    ∀ (d i : Nat), i + d = nC → w_X6_withChanges_l18 (nI t) (nI (bN nC P)) J (d + 1) (nI (bN nC (fun j => P j || anyT (fun k => P k && nr r (S k t / 8) (S j t / 8)) i))) (nI i) σ
  | 0, i, h => by
    obtain ⟨⟨l1, l2, l3⟩, l4, l5, l6, l7, l8⟩ := id hL
    have : i = nC := by omega
    subst this
    unfold w_X6_withChanges_l18
    rw [l4, if_pos (nI_le (Nat.le_refl _) (by omega))]
    exact hQ
  | d + 1, i, h => by
    obtain ⟨⟨l1, l2, l3⟩, l4, l5, l6, l7, l8⟩ := id hL
    unfold w_X6_withChanges_l18
    have h1 := hJ i (by omega) t ht
    have ih := chg1_x (P := P) hL hJ hn ht hQ d (i + 1) (by omega)
    rw [l4, if_neg (nI_ge (by omega) (by omega)), bd_eq, nI_1, bit_of (by omega) (by omega)]
    by_cases g : P i = true
    · rw [if_pos g, if_pos rfl, cellB_x (by omega) (by omega) h1.1 h1.2]
      refine carN_x hL hJ hn ht (by omega) ?_
      rw [bd_eq]
      have e : nI (bN nC (fun j => P j || anyT (fun k => P k && nr r (S k t / 8) (S j t / 8)) i)) ||| nI (CN r nC S t (S i t / 8)) = nI (bN nC (fun j => P j || anyT (fun k => P k && nr r (S k t / 8) (S j t / 8)) (i + 1))) := by
        unfold CN
        rw [nI_or, bN_or]
        congr 1
        refine bN_congr (fun j _ => ?_)
        show ((P j || anyT _ i) || nr r (S j t / 8) (S i t / 8)) = (P j || (anyT _ i || (P i && nr r (S i t / 8) (S j t / 8))))
        rw [g, Bool.true_and, nr_comm, Bool.or_assoc]
      rw [e]
      exact ih
    · rw [if_neg g, if_neg (by decide)]
      have e : bN nC (fun j => P j || anyT (fun k => P k && nr r (S k t / 8) (S j t / 8)) (i + 1)) = bN nC (fun j => P j || anyT (fun k => P k && nr r (S k t / 8) (S j t / 8)) i) := by
        refine bN_congr (fun j _ => ?_)
        show (P j || (anyT _ i || (P i && nr r (S i t / 8) (S j t / 8)))) = (P j || anyT _ i)
        rw [Bool.eq_false_iff.mpr g, Bool.false_and, Bool.or_false]
      rw [e] at ih
      exact ih
theorem chg_x {σ : Sg} {nC nP r n t : Nat} {sp wo : Nat → Nat} {S : Nat → Nat → Nat} {Q : Int32 → Sg → Prop} (hL : LX σ nC nP r sp wo) (hJ : ∀ k, k < nC → JX σ k n (S k)) (hn : n ≤ 60) (ht : t ≤ n) : ∀ (d c : Nat) (P : Nat → Bool), c + d = 6 → Q (nI (bN nC (itS nC (fun k j => nr r (S k t / 8) (S j t / 8)) d P))) σ → w_X6_withChanges_l5 (nI t) Q (d + 1) (nI (bN nC P)) (nI c) σ
  | 0, c, P, h, hQ => by
    have : c = 6 := by omega
    subst this
    unfold w_X6_withChanges_l5
    rw [if_pos (by decide)]
    exact hQ
  | d + 1, c, P, h, hQ => by
    have h6 := hL.1.1
    unfold w_X6_withChanges_l5
    rw [if_neg (show ¬ (6 : Int32) ≤ nI c from nI_ge (a := c) (b := 6) (by omega) (by decide)), bd_eq]
    have key := chg1_x (P := P) (J := fun x4 σ5 => if x4 = nI (bN nC P) then Q x4 σ5 else w_X6_withChanges_l5 (nI t) Q (d + 1) x4 (nI c + 1) σ5) hL hJ hn ht ?_ nC 0 (by omega)
    · have e : bN nC (fun j => P j || anyT (fun k => P k && nr r (S k t / 8) (S j t / 8)) 0) = bN nC P := bN_congr (fun j _ => by show (P j || false) = P j; rw [Bool.or_false])
      rw [e] at key
      exact ⟨nC + 1, key⟩
    · show if _ then _ else _
      by_cases g : ∀ i, i < nC → stS nC (fun k j => nr r (S k t / 8) (S j t / 8)) P i = P i
      · rw [if_pos ((bN_nI (by omega)).mpr g), bN_congr g]
        have e := bN_congr (itS_fix g (d + 1))
        rw [e] at hQ
        exact hQ
      · rw [if_neg (fun q => g ((bN_nI (by omega)).mp q)), nI_1]
        exact chg_x hL hJ hn ht d (c + 1) _ (by omega) hQ
theorem bN_one {m b : Nat} (h : b < m) : 2 ^ b = bN m (fun j => decide (j = b)) := by
  apply Nat.eq_of_testBit_eq
  intro i
  rw [bN_bit, Nat.testBit_two_pow]
  by_cases e : b = i
  · subst e; simp [h]
  · simp [e, Ne.symm e]
theorem chg2_m {σ : Sg} {nC nP r t a : Nat} {sp wo : Nat → Nat} {S : Nat → Nat → Nat} {R : Nat → Bool} {J : Int32 → Sg → Prop} (hL : LM σ nC nP r sp wo) (hJ : ∀ k, k < nC → JM σ k (S k)) (ht : t < 61) (ha : a < nC) (hQ : J (nI (bN nC (fun j => R j || nr r (S a t / 8) (S j t / 8)))) σ) :
    ∀ (d i : Nat), i + d = nC → w_X12_changed_l42 (nI t) (nI a) J (d + 1) (nI (bN nC (fun j => R j || (decide (j < i) && nr r (S a t / 8) (S j t / 8))))) (nI i) σ
  | 0, i, h => by
    obtain ⟨⟨l1, l2, l3⟩, l4, l5, l6, l7, l8⟩ := id hL
    have : i = nC := by omega
    subst this
    unfold w_X12_changed_l42
    rw [l4, if_pos (nI_le (Nat.le_refl _) (by omega))]
    rw [bN_congr (R := fun j => R j || nr r (S a t / 8) (S j t / 8)) (fun j hj => by simp [hj])]
    exact hQ
  | d + 1, i, h => by
    obtain ⟨⟨l1, l2, l3⟩, l4, l5, l6, l7, l8⟩ := id hL
    unfold w_X12_changed_l42
    have ih := chg2_m (R := R) hL hJ ht ha hQ d (i + 1) (by omega)
    rw [l4, if_neg (nI_ge (by omega) (by omega)), meetAt_m (by omega) (by omega) ht (hJ a ha) (hJ i (by omega)) l3 l8, bd_eq, nI_1]
    by_cases g : nr r (S a t / 8) (S i t / 8) = true
    · rw [if_pos g, if_neg one_ne, bd_eq, one_sh (by omega), bN_one (show i < nC by omega), nI_or, bN_or]
      rw [bN_congr (R := fun j => R j || (decide (j < i + 1) && nr r (S a t / 8) (S j t / 8))) (fun j hj => ?_)]
      · exact ih
      · by_cases e : j = i
        · subst e; simp [g]
        · by_cases e2 : j < i
          · simp [e, e2, show j < i + 1 by omega]
          · simp [e, e2, show ¬ j < i + 1 by omega]
    · rw [if_neg g, if_pos rfl]
      rw [bN_congr (R := fun j => R j || (decide (j < i) && nr r (S a t / 8) (S j t / 8))) (fun j hj => ?_)] at ih
      · exact ih
      · by_cases e : j = i
        · subst e; simp [Bool.eq_false_iff.mpr g]
        · by_cases e2 : j < i
          · simp [e2, show j < i + 1 by omega]
          · simp [e2, show ¬ j < i + 1 by omega]
theorem chg1_m {σ : Sg} {nC nP r t : Nat} {sp wo : Nat → Nat} {S : Nat → Nat → Nat} {P : Nat → Bool} {J : Int32 → Sg → Prop} (hL : LM σ nC nP r sp wo) (hJ : ∀ k, k < nC → JM σ k (S k)) (ht : t < 61) (hQ : J (nI (bN nC (stS nC (fun k j => nr r (S k t / 8) (S j t / 8)) P))) σ) :
    ∀ (d i : Nat), i + d = nC → w_X12_changed_l17 (nI t) (nI (bN nC P)) J (d + 1) (nI (bN nC (fun j => P j || anyT (fun k => P k && nr r (S k t / 8) (S j t / 8)) i))) (nI i) σ
  | 0, i, h => by
    obtain ⟨⟨l1, l2, l3⟩, l4, l5, l6, l7, l8⟩ := id hL
    have : i = nC := by omega
    subst this
    unfold w_X12_changed_l17
    rw [l4, if_pos (nI_le (Nat.le_refl _) (by omega))]
    exact hQ
  | d + 1, i, h => by
    obtain ⟨⟨l1, l2, l3⟩, l4, l5, l6, l7, l8⟩ := id hL
    unfold w_X12_changed_l17
    have ih := chg1_m (P := P) hL hJ ht hQ d (i + 1) (by omega)
    rw [l4, if_neg (nI_ge (by omega) (by omega)), has_m, bit_of (by omega) (by omega)]
    by_cases g : P i = true
    · rw [if_pos g, if_pos rfl, bd_eq, if_neg one_ne, nI_1]
      have key := chg2_m (a := i) (R := fun j => P j || anyT (fun k => P k && nr r (S k t / 8) (S j t / 8)) i) (J := fun x σ' => w_X12_changed_l17 (nI t) (nI (bN nC P)) J (d + 1) x (nI (i + 1)) σ') hL hJ ht (by omega) ?_ nC 0 (by omega)
      · have e : bN nC (fun j => (P j || anyT (fun k => P k && nr r (S k t / 8) (S j t / 8)) i) || (decide (j < 0) && nr r (S i t / 8) (S j t / 8))) = bN nC (fun j => P j || anyT (fun k => P k && nr r (S k t / 8) (S j t / 8)) i) := bN_congr (fun j hj => by simp only [Nat.not_lt_zero, decide_false, Bool.false_and, Bool.or_false])
        rw [e] at key
        exact ⟨nC + 1, key⟩
      · have e : bN nC (fun j => (P j || anyT (fun k => P k && nr r (S k t / 8) (S j t / 8)) i) || nr r (S i t / 8) (S j t / 8)) = bN nC (fun j => P j || anyT (fun k => P k && nr r (S k t / 8) (S j t / 8)) (i + 1)) := bN_congr (fun j hj => by
          show ((P j || anyT _ i) || _) = (P j || (anyT _ i || (P i && nr r (S i t / 8) (S j t / 8))))
          rw [g, Bool.true_and, Bool.or_assoc])
        rw [e]
        exact ih
    · rw [if_neg g, if_neg (by decide), bd_eq, if_pos rfl, nI_1]
      have e : bN nC (fun j => P j || anyT (fun k => P k && nr r (S k t / 8) (S j t / 8)) (i + 1)) = bN nC (fun j => P j || anyT (fun k => P k && nr r (S k t / 8) (S j t / 8)) i) := bN_congr (fun j hj => by
        show (P j || (anyT _ i || (P i && nr r (S i t / 8) (S j t / 8)))) = (P j || anyT _ i)
        rw [Bool.eq_false_iff.mpr g, Bool.false_and, Bool.or_false])
      rw [e] at ih
      exact ih
theorem chgR_m {σ : Sg} {nC nP r t : Nat} {sp wo : Nat → Nat} {S : Nat → Nat → Nat} {P : Nat → Bool} {Q : Int32 → Sg → Prop} {d : Nat} {x : Int32} (hL : LM σ nC nP r sp wo) (hJ : ∀ k, k < nC → JM σ k (S k)) (ht : t < 61) (hx : nI (bN nC P) ≠ x) (hQ : w_X12_changed_l5 (nI t) Q d (nI (bN nC (stS nC (fun k j => nr r (S k t / 8) (S j t / 8)) P))) (nI (bN nC P)) σ) : w_X12_changed_l5 (nI t) Q (d + 1) (nI (bN nC P)) x σ := by
  unfold w_X12_changed_l5
  rw [if_neg hx, bd_eq]
  have key := chg1_m (P := P) (J := fun x4 σ5 => w_X12_changed_l5 (nI t) Q d x4 (nI (bN nC P)) σ5) hL hJ ht hQ nC 0 (by omega)
  have e : bN nC (fun j => P j || anyT (fun k => P k && nr r (S k t / 8) (S j t / 8)) 0) = bN nC P := bN_congr (fun j hj => by show (P j || false) = P j; rw [Bool.or_false])
  rw [e] at key
  exact ⟨nC + 1, key⟩
theorem chgL_m {σ : Sg} {nC nP r t : Nat} {sp wo : Nat → Nat} {S : Nat → Nat → Nat} {P : Nat → Bool} {Q : Int32 → Sg → Prop} (hL : LM σ nC nP r sp wo) (hJ : ∀ k, k < nC → JM σ k (S k)) (ht : t < 61) (hQ : Q (nI (bN nC (itS nC (fun k j => nr r (S k t / 8) (S j t / 8)) 5 P))) σ) :
    ∀ (d i : Nat), i + d = 5 → w_X12_changed_l5 (nI t) Q (d + 1) (nI (bN nC (itS nC (fun k j => nr r (S k t / 8) (S j t / 8)) (i + 1) P))) (nI (bN nC (itS nC (fun k j => nr r (S k t / 8) (S j t / 8)) i P))) σ
  | 0, i, h => by
    have : i = 5 := by omega
    subst this
    unfold w_X12_changed_l5
    have e : bN nC (itS nC (fun k j => nr r (S k t / 8) (S j t / 8)) (5 + 1) P) = bN nC (itS nC (fun k j => nr r (S k t / 8) (S j t / 8)) 5 P) := by
      rw [itS_succ]
      exact bN_congr (steady hL.1.1)
    rw [e, if_pos rfl]
    exact hQ
  | d + 1, i, h => by
    have h6 := hL.1.1
    by_cases g : ∀ j, j < nC → itS nC (fun k j => nr r (S k t / 8) (S j t / 8)) (i + 1) P j = itS nC (fun k j => nr r (S k t / 8) (S j t / 8)) i P j
    · unfold w_X12_changed_l5
      rw [bN_congr g, if_pos rfl]
      rw [itS_succ] at g
      have e : itS nC (fun k j => nr r (S k t / 8) (S j t / 8)) 5 P = itS nC (fun k j => nr r (S k t / 8) (S j t / 8)) (d + 1) (itS nC (fun k j => nr r (S k t / 8) (S j t / 8)) i P) := by rw [← itS_add, h]
      rw [e, bN_congr (itS_fix g (d + 1))] at hQ
      exact hQ
    · refine chgR_m hL hJ ht (fun q => g ((bN_nI (by omega)).mp q)) ?_
      rw [← itS_succ]
      exact chgL_m hL hJ ht hQ d (i + 1) (by omega)
theorem chg_m {σ : Sg} {nC nP r t : Nat} {sp wo : Nat → Nat} {S : Nat → Nat → Nat} {P : Nat → Bool} {Q : Int32 → Sg → Prop} (hL : LM σ nC nP r sp wo) (hJ : ∀ k, k < nC → JM σ k (S k)) (ht : t < 61) (hQ : Q (nI (bN nC (itS nC (fun k j => nr r (S k t / 8) (S j t / 8)) 5 P))) σ) : w_X12_changed (nI (bN nC P)) (nI t) σ Q := by
  have h6 := hL.1.1
  refine ⟨7, ?_⟩
  by_cases g : ∀ j, j < nC → P j = false
  · have e1 : bN nC P = 0 := bN_eq0.mpr g
    have gf : ∀ i, i < nC → stS nC (fun k j => nr r (S k t / 8) (S j t / 8)) P i = P i := by
      intro i hi
      unfold stS
      have : anyT (fun k => P k && nr r (S k t / 8) (S i t / 8)) nC = false := by
        cases hA : anyT (fun k => P k && nr r (S k t / 8) (S i t / 8)) nC with
        | false => rfl
        | true =>
          obtain ⟨k, hk, hk2⟩ := anyT_iff.mp hA
          rw [g k hk] at hk2
          exact absurd hk2 (by simp)
      rw [this, Bool.or_false]
    rw [bN_congr (itS_fix gf 5), e1] at hQ
    rw [e1]
    unfold w_X12_changed_l5
    rw [if_pos nI_0]
    exact hQ
  · refine chgR_m hL hJ ht (fun q => g ?_) (chgL_m hL hJ ht hQ 5 0 (by decide))
    rw [← nI_0, nI_eq (bN_31 (by omega)) (by decide)] at q
    exact bN_eq0.mp q
/-- soonest: hour by hour -/
def soF (r nC : Nat) (S : Nat → Nat → Nat) (a b : Nat) : Nat → Nat → (Nat → Bool) → Int32 × Int32
  | 0, _, _ => (-2, -2)
  | d + 1, t, P => if bN nC (itS nC (fun k j => nr r (S k t / 8) (S j t / 8)) 5 (fun k => P k || nr r (S k t / 8) a)) &&& CN r nC S t b = 0 then soF r nC S a b d (t + 1) (itS nC (fun k j => nr r (S k t / 8) (S j t / 8)) 5 (fun k => P k || nr r (S k t / 8) a)) else (nI (bN nC (itS nC (fun k j => nr r (S k t / 8) (S j t / 8)) 5 (fun k => P k || nr r (S k t / 8) a))), nI t)
theorem and_0 {m : Nat} {P R : Nat → Bool} (hm : m ≤ 8) : nI (bN m P) &&& nI (bN m R) = 0 ↔ bN m P &&& bN m R = 0 := by
  rw [nI_and, bN_and, ← nI_0, nI_eq (bN_31 hm) (by decide)]
theorem and_0c {m r t c : Nat} {P : Nat → Bool} {S : Nat → Nat → Nat} (hm : m ≤ 8) : nI (bN m P) &&& nI (CN r m S t c) = 0 ↔ bN m P &&& CN r m S t c = 0 := and_0 hm
theorem soon_x {σ : Sg} {nC nP r a b : Nat} {sp wo : Nat → Nat} {S : Nat → Nat → Nat} {Q : Int32 → Sg → Prop} {J : Int32 → Int32 → Sg → Prop} (hL : LX σ nC nP r sp wo) (hJ : ∀ k, k < nC → JX σ k 60 (S k)) (ha : a < 256) (hb : b < 256) {c : Int32} (hJ' : ∀ x y, J x y σ = Q (if c = 0 then y else x) σ) :
    ∀ (d t : Nat) (P : Nat → Bool), t + d = 61 → Q (if c = 0 then (soF r nC S a b d t P).2 else (soF r nC S a b d t P).1) σ → w_X6_soonestBetween_l6 (nI a) (nI b) Q J (d + 1) (nI (bN nC P)) (nI t) σ
  | 0, t, P, h, hQ => by
    have : t = 61 := by omega
    subst this
    unfold w_X6_soonestBetween_l6
    rw [if_pos (by decide)]
    have e : soF r nC S a b 0 61 P = (-2, -2) := rfl
    rw [e, ite_self] at hQ
    exact hQ
  | d + 1, t, P, h, hQ => by
    have h6 := hL.1.1
    unfold w_X6_soonestBetween_l6
    rw [if_neg (show ¬ (60 : Int32) < nI t from nI_nlt (a := 60) (by omega) (by decide))]
    refine carN_x hL hJ (Nat.le_refl _) (by omega) ha ?_
    have e1 : nI (bN nC P) ||| nI (CN r nC S t a) = nI (bN nC (fun k => P k || nr r (S k t / 8) a)) := by
      unfold CN
      rw [nI_or, bN_or]
    rw [e1]
    refine ⟨6, chg_x hL hJ (Nat.le_refl _) (by omega) 5 1 _ (by decide) ?_⟩
    refine carN_x hL hJ (Nat.le_refl _) (by omega) hb ?_
    have e2 : soF r nC S a b (d + 1) t P = if bN nC (itS nC (fun k j => nr r (S k t / 8) (S j t / 8)) 5 (fun k => P k || nr r (S k t / 8) a)) &&& CN r nC S t b = 0 then soF r nC S a b d (t + 1) (itS nC (fun k j => nr r (S k t / 8) (S j t / 8)) 5 (fun k => P k || nr r (S k t / 8) a)) else (nI (bN nC (itS nC (fun k j => nr r (S k t / 8) (S j t / 8)) 5 (fun k => P k || nr r (S k t / 8) a))), nI t) := rfl
    rw [e2] at hQ
    by_cases g : bN nC (itS nC (fun k j => nr r (S k t / 8) (S j t / 8)) 5 (fun k => P k || nr r (S k t / 8) a)) &&& CN r nC S t b = 0
    · rw [if_pos g] at hQ
      rw [if_pos ((and_0c (by omega)).mpr g), nI_1]
      exact soon_x hL hJ ha hb hJ' d (t + 1) _ (by omega) hQ
    · rw [if_neg g] at hQ
      rw [if_neg (fun q => g ((and_0c (by omega)).mp q)), hJ']
      exact hQ
theorem soon_m {σ : Sg} {nC nP r m : Nat} {sp wo : Nat → Nat} {S : Nat → Nat → Nat} {Q : Int32 → Sg → Prop} {J : Int32 → Int32 → Sg → Prop} (hm : m < 2 ^ 31) (hL : LM σ nC nP r sp wo) (hJ : ∀ k, k < nC → JM σ k (S k)) (ha : m / 10 < nP) (hb : m % 10 < nP) {c : Int32} (hJ' : ∀ x y, J x y σ = Q (if c = 0 then y else x) σ) :
    ∀ (d t : Nat) (P : Nat → Bool), t + d = 61 → Q (if c = 0 then (soF r nC S (sp (m / 10)) (sp (m % 10)) d t P).2 else (soF r nC S (sp (m / 10)) (sp (m % 10)) d t P).1) σ → w_X12_soonest_l57 (nI m) Q J (d + 1) (nI (bN nC P)) (nI t) σ
  | 0, t, P, h, hQ => by
    have : t = 61 := by omega
    subst this
    unfold w_X12_soonest_l57
    rw [if_pos (by decide)]
    have e : soF r nC S (sp (m / 10)) (sp (m % 10)) 0 61 P = (-2, -2) := rfl
    rw [e, ite_self] at hQ
    exact hQ
  | d + 1, t, P, h, hQ => by
    obtain ⟨⟨l1, l2, l3⟩, l4, l5, l6, l7, l8⟩ := id hL
    obtain ⟨s1, s2⟩ := l6 _ ha
    obtain ⟨s3, s4⟩ := l6 _ hb
    unfold w_X12_soonest_l57
    rw [if_neg (show ¬ (60 : Int32) < nI t from nI_nlt (a := 60) (by omega) (by decide)), rem10 hm, div10 hm, cl_nI (by omega), s1]
    refine ⟨vp_nI (by omega) (by decide), carN_m hL hJ (by omega) s2 ?_⟩
    have e1 : nI (bN nC P) ||| nI (CN r nC S t (sp (m / 10))) = nI (bN nC (fun k => P k || nr r (S k t / 8) (sp (m / 10)))) := by
      unfold CN
      rw [nI_or, bN_or]
    rw [e1]
    refine chg_m hL hJ (by omega) ?_
    rw [cl_nI (by omega), s3]
    refine ⟨vp_nI (by omega) (by decide), carN_m hL hJ (by omega) s4 ?_⟩
    have e2 : soF r nC S (sp (m / 10)) (sp (m % 10)) (d + 1) t P = if bN nC (itS nC (fun k j => nr r (S k t / 8) (S j t / 8)) 5 (fun k => P k || nr r (S k t / 8) (sp (m / 10)))) &&& CN r nC S t (sp (m % 10)) = 0 then soF r nC S (sp (m / 10)) (sp (m % 10)) d (t + 1) (itS nC (fun k j => nr r (S k t / 8) (S j t / 8)) 5 (fun k => P k || nr r (S k t / 8) (sp (m / 10)))) else (nI (bN nC (itS nC (fun k j => nr r (S k t / 8) (S j t / 8)) 5 (fun k => P k || nr r (S k t / 8) (sp (m / 10))))), nI t) := rfl
    rw [e2] at hQ
    by_cases g : bN nC (itS nC (fun k j => nr r (S k t / 8) (S j t / 8)) 5 (fun k => P k || nr r (S k t / 8) (sp (m / 10)))) &&& CN r nC S t (sp (m % 10)) = 0
    · rw [if_pos g] at hQ
      rw [if_pos ((and_0c (by omega)).mpr g), nI_1]
      exact soon_m hm hL hJ ha hb hJ' d (t + 1) _ (by omega) hQ
    · rw [if_neg g] at hQ
      rw [if_neg (fun q => g ((and_0c (by omega)).mp q)), hJ']
      exact hQ
theorem twoP_x {n : Nat} {a : Int32} {σ : Sg} {Q : Int32 → Sg → Prop} (hn : n ≤ 8) (e : σ.1 1 7 = nI n) (h1 : T2 n a → Q 1 σ) (h0 : ¬ T2 n a → Q 0 σ) : w_X11_areTwoPlaces a σ Q := by
  unfold w_X11_areTwoPlaces
  by_cases h : a < 0
  · rw [if_pos h]
    exact h0 (fun ⟨m, hm, e, _⟩ => absurd (e ▸ h) (nI_pos hm))
  · rw [if_neg h]
    obtain ⟨m, hm, rfl⟩ := nI_of h
    rw [rem10 hm, div10 hm]
    have key : T2 n (nI m) ↔ m / 10 < n ∧ m % 10 < n ∧ m / 10 ≠ m % 10 := ⟨fun ⟨m', hm', e, h2⟩ => by rw [(nI_eq hm hm').mp e]; exact h2, fun h => ⟨m, hm, rfl, h⟩⟩
    refine place_x (by omega) e (fun hc => ?_) (fun hc => ?_)
    · rw [if_neg one_ne]
      refine place_x (by omega) e (fun hc' => ?_) (fun hc' => ?_)
      · rw [if_neg one_ne]
        by_cases g : m / 10 = m % 10
        · rw [if_pos (by rw [g])]
          exact h0 (fun q => (key.mp q).2.2 g)
        · rw [if_neg (fun q => g ((nI_eq (by omega) (by omega)).mp q))]
          exact h1 (key.mpr ⟨CR_n (by omega) (by omega) hc, CR_n (by omega) (by omega) hc', g⟩)
      · rw [if_pos rfl]
        exact h0 (fun q => hc' ⟨_, (key.mp q).2.1, rfl⟩)
    · rw [if_pos rfl]
      exact h0 (fun q => hc ⟨_, (key.mp q).1, rfl⟩)
/-- the reference's opening of soonest(): -1, or on -/
theorem soon0_m {nP : Nat} {a b : Int32} {σ : Sg} {Q : Int32 → Sg → Prop} (hn : nP ≤ 8) (e : σ.1 60 6 = nI nP) (h1 : T2 nP a → inR b 0 1 → w_X12_layAll σ (fun σ7 => bd (fun (x8 : Int32) (x9 : Int32) (σ10 : Sg) => if b = 0 then (Q x9 σ10) else (Q x8 σ10)) fun J108 => ∃ n, w_X12_soonest_l57 a Q J108 n (0 : Int32) (0 : Int32) σ7)) (h0 : ¬ (T2 nP a ∧ inR b 0 1) → Q (-1) σ) : w_X12_soonest a b σ Q := by
  unfold w_X12_soonest
  by_cases h : a < 0
  · rw [if_pos h]
    exact h0 (fun ⟨⟨m, hm, e, _⟩, _⟩ => absurd (e ▸ h) (nI_pos hm))
  · rw [if_neg h]
    obtain ⟨m, hm, rfl⟩ := nI_of h
    rw [rem10 hm, div10 hm]
    have key : T2 nP (nI m) ↔ m / 10 < nP ∧ m % 10 < nP ∧ m / 10 ≠ m % 10 := ⟨fun ⟨m', hm', e, h2⟩ => by rw [(nI_eq hm hm').mp e]; exact h2, fun h => ⟨m, hm, rfl, h⟩⟩
    refine place_m (by omega) e (fun hc => ?_) (fun hc => ?_)
    · rw [if_neg one_ne]
      refine place_m (by omega) e (fun hc' => ?_) (fun hc' => ?_)
      · rw [if_neg one_ne]
        by_cases g : m / 10 = m % 10
        · rw [if_pos (by rw [g])]
          exact h0 (fun q => (key.mp q.1).2.2 g)
        · rw [if_neg (fun q => g ((nI_eq (by omega) (by omega)).mp q))]
          have h3 := key.mpr ⟨CR_n (by omega) (by omega) hc, CR_n (by omega) (by omega) hc', g⟩
          refine in_m (a := 0) (b := 1) (by decide) (by decide) (fun hb => ?_) (fun hb => ?_)
          · rw [if_neg one_ne]
            exact h1 h3 hb
          · rw [if_pos rfl]
            exact h0 (fun q => hb q.2)
      · rw [if_pos rfl]
        exact h0 (fun q => hc' ⟨_, (key.mp q.1).2.1, rfl⟩)
    · rw [if_pos rfl]
      exact h0 (fun q => hc ⟨_, (key.mp q.1).1, rfl⟩)
theorem op_soonest {N : Nat} {σ : Sg} (hI : Inv N σ) (hN : N < 600) (a b : Int32) {Q : Int32 → Int32 → Sg → Prop} (hQ : ∀ r σ', Inv (N + 1) σ' → Q r r σ') : w_X11_soonest a b σ (fun r σ1 => w_X12_soonest a b σ1 (fun r' σ2 => Q r r' σ2)) := by
  obtain ⟨nC, nP, g, hB, hq, h3, hX, hM⟩ := Inv_get hI
  have hK := Inv_K hI
  obtain ⟨hn, hp, en, ep⟩ := hB.1
  have c60 := c60_x hq hB (Fx.refl σ)
  unfold w_X11_soonest
  refine twoP_x hp ep (fun h1 => ?_) (fun h => by rw [if_pos rfl]; exact soon0_m hp c60.2 (fun q => absurd q h) (fun _ => hQ _ _ (Inv_up hI)))
  rw [if_neg one_ne]
  refine within_x (a := 0) (b := 1) (by decide) (by decide) (fun h2 => ?_) (fun h => by rw [if_pos rfl]; exact soon0_m hp c60.2 (fun _ q => absurd q h) (fun _ => hQ _ _ (Inv_up hI)))
  rw [if_neg one_ne]
  obtain ⟨m, hm, rfl, ha, hb, hab⟩ := id h1
  refine followAll_x (n := 60) hB h3 hX (by decide) hK (by omega) (fun σ1 hF hK1 ht => ?_)
  have hL := LX_of hB hF
  have c60' := c60_x hq hB hF
  have mrun : ∀ c : Int32, (c = 0 ↔ b = 0) → w_X12_soonest (nI m) b σ1 (fun r' σ2 => Q (if c = 0 then (soF (vN σ 1 8) nC (TR g σ) (vN σ 6 (m / 10)) (vN σ 6 (m % 10)) 61 0 (fun _ => false)).2 else (soF (vN σ 1 8) nC (TR g σ) (vN σ 6 (m / 10)) (vN σ 6 (m % 10)) 61 0 (fun _ => false)).1) r' σ2) := by
    intro c hc
    refine soon0_m hp c60'.2 (fun _ _ => ?_) (fun h => absurd ⟨h1, h2⟩ h)
    refine layAll_m hB hq h3 hM hF (fun σ2 hr ht2 => ?_)
    have hLm := LM_of hB hq hF hr.m
    have hI' := th_e hI hF hK1 (by omega) hr.m
    rw [bd_eq]
    have key := soon_m (c := b) (Q := fun r' σ2 => Q (if c = 0 then (soF (vN σ 1 8) nC (TR g σ) (vN σ 6 (m / 10)) (vN σ 6 (m % 10)) 61 0 (fun _ => false)).2 else (soF (vN σ 1 8) nC (TR g σ) (vN σ 6 (m / 10)) (vN σ 6 (m % 10)) 61 0 (fun _ => false)).1) r' σ2) (J := fun (x8 : Int32) (x9 : Int32) (σ10 : Sg) => if b = 0 then (Q (if c = 0 then (soF (vN σ 1 8) nC (TR g σ) (vN σ 6 (m / 10)) (vN σ 6 (m % 10)) 61 0 (fun _ => false)).2 else (soF (vN σ 1 8) nC (TR g σ) (vN σ 6 (m / 10)) (vN σ 6 (m % 10)) 61 0 (fun _ => false)).1) x9 σ10) else (Q (if c = 0 then (soF (vN σ 1 8) nC (TR g σ) (vN σ 6 (m / 10)) (vN σ 6 (m % 10)) 61 0 (fun _ => false)).2 else (soF (vN σ 1 8) nC (TR g σ) (vN σ 6 (m / 10)) (vN σ 6 (m % 10)) 61 0 (fun _ => false)).1) x8 σ10)) hm hLm (S := TR g σ) (fun k hk t h => ⟨ht2 k hk t h, TR_lt hB hk t⟩) ha hb (fun x y => by show (if b = 0 then _ else _) = _; split <;> rfl) 61 0 (fun _ => false) (by decide) ?_
    · rw [bN_0] at key
      exact ⟨62, key⟩
    · show Q _ _ _
      have e : (if b = 0 then (soF (vN σ 1 8) nC (TR g σ) (vN σ 6 (m / 10)) (vN σ 6 (m % 10)) 61 0 (fun _ => false)).2 else (soF (vN σ 1 8) nC (TR g σ) (vN σ 6 (m / 10)) (vN σ 6 (m % 10)) 61 0 (fun _ => false)).1) = (if c = 0 then (soF (vN σ 1 8) nC (TR g σ) (vN σ 6 (m / 10)) (vN σ 6 (m % 10)) 61 0 (fun _ => false)).2 else (soF (vN σ 1 8) nC (TR g σ) (vN σ 6 (m / 10)) (vN σ 6 (m % 10)) 61 0 (fun _ => false)).1) := by
        by_cases h : c = 0
        · rw [if_pos h, if_pos (hc.mp h)]
        · rw [if_neg h, if_neg (fun q => h (hc.mpr q))]
      rw [e]
      exact hQ _ _ hI'
  have xrun : ∀ c : Int32, (c = 0 ↔ b = 0) → w_X6_soonestBetween (nI (vN σ 6 (m / 10))) (nI (vN σ 6 (m % 10))) c σ1 (fun r11 σ10 => w_X12_soonest (nI m) b σ10 (fun r' σ2 => Q r11 r' σ2)) := by
    intro c hc
    unfold w_X6_soonestBetween
    rw [bd_eq]
    have key := soon_x (c := c) (Q := fun r11 σ10 => w_X12_soonest (nI m) b σ10 (fun r' σ2 => Q r11 r' σ2)) (J := fun (x1 : Int32) (x2 : Int32) (σ3 : Sg) => if c = 0 then (w_X12_soonest (nI m) b σ3 (fun r' σ2 => Q x2 r' σ2)) else (w_X12_soonest (nI m) b σ3 (fun r' σ2 => Q x1 r' σ2))) hL (S := TR g σ) (fun k hk t h => ⟨ht k hk t h, TR_lt hB hk t⟩) (hL.2.2.2.1 _ ha).2 (hL.2.2.2.1 _ hb).2 (fun x y => by show (if c = 0 then _ else _) = _; split <;> rfl) 61 0 (fun _ => false) (by decide) (mrun c hc)
    rw [bN_0] at key
    exact ⟨62, key⟩
  rw [rem10 hm, div10 hm, bd_eq, cl_nI (by omega), cl_nI (by omega), (hL.2.2.2.1 _ ha).1, (hL.2.2.2.1 _ hb).1]
  refine ⟨vp_nI (by omega) (by decide), vp_nI (by omega) (by decide), ?_⟩
  rcases one_of h2 with e | e
  · rw [if_neg (by rw [e]; decide)]
    exact xrun 0 ⟨fun _ => e, fun _ => rfl⟩
  · rw [if_pos e]
    exact xrun 1 ⟨fun h => absurd h one_ne, fun h => absurd (e.symm.trans h) one_ne⟩
