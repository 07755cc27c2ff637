/-! the fewest reins: plans -/
def co (t i : Nat) : Nat := (if i = 0 then 0 else 16777216) + i * 4 ^ (11 - t)
def bpF (l : Nat → Nat → Int32) (p r b : Nat) : Nat → Nat → Nat → Nat
  | 0, _, s => if nr r (s / 8) b = true then 0 else 2147483647
  | d + 1, t, s => min 2147483647 (min (co t 0 + bpF l p r b d (t + 1) (nx l p s t (chz 0))) (min (co t 1 + bpF l p r b d (t + 1) (nx l p s t (chz 1))) (co t 2 + bpF l p r b d (t + 1) (nx l p s t (chz 2)))))
def by1 (i y : Nat) : Nat := if y = 15 then 15 else y + if i = 0 then 0 else 1
def fewF (l : Nat → Nat → Int32) (p r b : Nat) : Nat → Nat → Nat → Nat
  | 0, _, s => if nr r (s / 8) b = true then 0 else 15
  | d + 1, t, s => min (by1 0 (fewF l p r b d (t + 1) (nx l p s t (chz 0)))) (min (by1 1 (fewF l p r b d (t + 1) (nx l p s t (chz 1)))) (by1 2 (fewF l p r b d (t + 1) (nx l p s t (chz 2)))))
def byF (l : Nat → Nat → Int32) (p r b d t s i : Nat) : Nat := by1 i (fewF l p r b d (t + 1) (nx l p s t (chz i)))
theorem fewF_s (l : Nat → Nat → Int32) (p r b d t s : Nat) : fewF l p r b (d + 1) t s = min (byF l p r b d t s 0) (min (byF l p r b d t s 1) (byF l p r b d t s 2)) := rfl
def fdF (l : Nat → Nat → Int32) (p r b d t s : Nat) : Nat := fi (byF l p r b d t s 0) (byF l p r b d t s 1) (byF l p r b d t s 2)
def lxF (l : Nat → Nat → Int32) (p r b : Nat) : Nat → Nat → Nat → Nat
  | 0, _, _ => 0
  | d + 1, t, s => fdF l p r b d t s * 4 ^ (11 - t) + lxF l p r b d (t + 1) (nx l p s t (chz (fdF l p r b d t s)))
theorem fi_3 (a b c : Nat) : fi a b c < 3 := by unfold fi; split <;> (try split) <;> decide
theorem few_le {l : Nat → Nat → Int32} {p r b : Nat} : ∀ (d t s : Nat), fewF l p r b d t s = 15 ∨ fewF l p r b d t s ≤ d
  | 0, t, s => by
    unfold fewF
    split
    · exact Or.inr (Nat.le_refl _)
    · exact Or.inl rfl
  | d + 1, t, s => by
    have h0 := few_le (l := l) (p := p) (r := r) (b := b) d (t + 1) (nx l p s t (chz 0))
    have h1 := few_le (l := l) (p := p) (r := r) (b := b) d (t + 1) (nx l p s t (chz 1))
    have h2 := few_le (l := l) (p := p) (r := r) (b := b) d (t + 1) (nx l p s t (chz 2))
    have g : ∀ i y, (y = 15 ∨ y ≤ d) → by1 i y = 15 ∨ by1 i y ≤ d + 1 := by
      intro i y h
      unfold by1
      split
      · exact Or.inl rfl
      · split <;> omega
    have g0 := g 0 _ h0
    have g1 := g 1 _ h1
    have g2 := g 2 _ h2
    unfold fewF
    omega
theorem by_15 {l : Nat → Nat → Int32} {p r b d t s i : Nat} (h : d ≤ 12) : byF l p r b d t s i < 16 := by
  have h0 := few_le (l := l) (p := p) (r := r) (b := b) d (t + 1) (nx l p s t (chz i))
  unfold byF by1
  split
  · decide
  · split <;> omega
theorem few_15 {l : Nat → Nat → Int32} {p r b d t s : Nat} (h : d ≤ 12) : fewF l p r b d t s < 16 := by
  have h0 := few_le (l := l) (p := p) (r := r) (b := b) d t s
  omega
theorem lx_lt {l : Nat → Nat → Int32} {p r b : Nat} : ∀ (d t s : Nat), t + d ≤ 12 → lxF l p r b d t s < 4 ^ (12 - t)
  | 0, t, s, h => Nat.pow_pos (by decide)
  | d + 1, t, s, h => by
    have ih := lx_lt (l := l) (p := p) (r := r) (b := b) d (t + 1) (nx l p s t (chz (fdF l p r b d t s))) (by omega)
    have h3 : fdF l p r b d t s < 3 := fi_3 _ _ _
    have e : 4 ^ (12 - t) = 4 ^ (11 - t) * 4 := by rw [← Nat.pow_succ]; congr 1; omega
    rw [show 12 - (t + 1) = 11 - t by omega] at ih
    show fdF l p r b d t s * 4 ^ (11 - t) + lxF l p r b d (t + 1) _ < _
    have : fdF l p r b d t s * 4 ^ (11 - t) ≤ 2 * 4 ^ (11 - t) := Nat.mul_le_mul_right _ (by omega)
    omega
theorem pl_core {P y0 y1 y2 L0 L1 L2 B0 B1 B2 : Nat} (hP : P ≤ 4194304) (h0 : L0 < P) (h1 : L1 < P) (h2 : L2 < P) (q0 : y0 = 15 ∨ y0 ≤ 11) (q1 : y1 = 15 ∨ y1 ≤ 11) (q2 : y2 = 15 ∨ y2 ≤ 11) (e0 : B0 = if y0 = 15 then 2147483647 else y0 * 16777216 + L0) (e1 : B1 = if y1 = 15 then 2147483647 else y1 * 16777216 + L1) (e2 : B2 = if y2 = 15 then 2147483647 else y2 * 16777216 + L2) :
    min 2147483647 (min (0 + 0 * P + B0) (min (16777216 + 1 * P + B1) (16777216 + 2 * P + B2))) = if min (by1 0 y0) (min (by1 1 y1) (by1 2 y2)) = 15 then 2147483647 else min (by1 0 y0) (min (by1 1 y1) (by1 2 y2)) * 16777216 + (fi (by1 0 y0) (by1 1 y1) (by1 2 y2) * P + (if fi (by1 0 y0) (by1 1 y1) (by1 2 y2) = 0 then L0 else if fi (by1 0 y0) (by1 1 y1) (by1 2 y2) = 1 then L1 else L2)) := by
  have g0 : by1 0 y0 = y0 := by unfold by1; split <;> simp_all
  have g1 : by1 1 y1 = if y1 = 15 then 15 else y1 + 1 := rfl
  have g2 : by1 2 y2 = if y2 = 15 then 15 else y2 + 1 := rfl
  rw [g0, g1, g2]
  generalize hz1 : (if y1 = 15 then 15 else y1 + 1) = z1
  generalize hz2 : (if y2 = 15 then 15 else y2 + 1) = z2
  have w1 : z1 = 15 ∧ y1 = 15 ∨ y1 ≤ 11 ∧ z1 = y1 + 1 := by
    rcases q1 with q | q
    · rw [if_pos q] at hz1; omega
    · rw [if_neg (by omega)] at hz1; omega
  have w2 : z2 = 15 ∧ y2 = 15 ∨ y2 ≤ 11 ∧ z2 = y2 + 1 := by
    rcases q2 with q | q
    · rw [if_pos q] at hz2; omega
    · rw [if_neg (by omega)] at hz2; omega
  have v0 : y0 = 15 ∧ B0 = 2147483647 ∨ y0 ≤ 11 ∧ B0 = y0 * 16777216 + L0 := by
    rcases q0 with q | q
    · rw [if_pos q] at e0; omega
    · rw [if_neg (by omega)] at e0; omega
  have v1 : y1 = 15 ∧ B1 = 2147483647 ∨ y1 ≤ 11 ∧ B1 = y1 * 16777216 + L1 := by
    rcases q1 with q | q
    · rw [if_pos q] at e1; omega
    · rw [if_neg (by omega)] at e1; omega
  have v2 : y2 = 15 ∧ B2 = 2147483647 ∨ y2 ≤ 11 ∧ B2 = y2 * 16777216 + L2 := by
    rcases q2 with q | q
    · rw [if_pos q] at e2; omega
    · rw [if_neg (by omega)] at e2; omega
  clear e0 e1 e2 hz1 hz2 g0 g1 g2 q0 q1 q2
  have u0 : B0 ≤ 2147483647 := by rcases v0 with ⟨_, e⟩ | ⟨_, e⟩ <;> omega
  have u1 : B1 ≤ 2147483647 := by rcases v1 with ⟨_, e⟩ | ⟨_, e⟩ <;> omega
  have u2 : B2 ≤ 2147483647 := by rcases v2 with ⟨_, e⟩ | ⟨_, e⟩ <;> omega
  have M3 : ∀ a b c x : Nat, (x = a ∨ x = b ∨ x = c) → x ≤ a → x ≤ b → x ≤ c → min a (min b c) = x := by
    intro a b c x h1 h2 h3 h4
    have p1 : min b c ≤ b := Nat.min_le_left _ _
    have p2 : min b c ≤ c := Nat.min_le_right _ _
    have p3 := Nat.min_le_left a (min b c)
    have p4 := Nat.min_le_right a (min b c)
    have p5 : x ≤ min a (min b c) := Nat.le_min.mpr ⟨h2, Nat.le_min.mpr ⟨h3, h4⟩⟩
    rcases h1 with e | e | e <;> omega
  unfold fi
  by_cases c1 : y0 ≤ z1 ∧ y0 ≤ z2
  · obtain ⟨d1, d2⟩ := c1
    have m1 : 0 + 0 * P + B0 ≤ 16777216 + 1 * P + B1 := by
      rcases v0 with ⟨a0, a1⟩ | ⟨a0, a1⟩ <;> rcases v1 with ⟨b0, b1⟩ | ⟨b0, b1⟩ <;> omega
    have m2 : 0 + 0 * P + B0 ≤ 16777216 + 2 * P + B2 := by
      rcases v0 with ⟨a0, a1⟩ | ⟨a0, a1⟩ <;> rcases v2 with ⟨b0, b1⟩ | ⟨b0, b1⟩ <;> omega
    rw [if_pos (show y0 ≤ z1 ∧ y0 ≤ z2 from ⟨d1, d2⟩), if_pos (show (0 : Nat) = 0 from rfl), M3 _ _ _ _ (Or.inl rfl) (Nat.le_refl _) d1 d2, M3 _ _ _ _ (Or.inl rfl) (Nat.le_refl _) m1 m2]
    clear M3 m1 m2 d1 d2 w1 w2 v1 v2 u1 u2
    rcases v0 with ⟨a0, a1⟩ | ⟨a0, a1⟩
    · rw [if_pos a0]; omega
    · rw [if_neg (by omega)]; omega
  · rw [if_neg c1]
    by_cases c2 : z1 ≤ z2
    · have c3 : z1 < y0 := by omega
      have m0 : 16777216 + 1 * P + B1 ≤ 0 + 0 * P + B0 ∨ 2147483647 ≤ 0 + 0 * P + B0 := by
        rcases v0 with ⟨a0, a1⟩ | ⟨a0, a1⟩ <;> rcases v1 with ⟨b0, b1⟩ | ⟨b0, b1⟩ <;> omega
      have m2 : 16777216 + 1 * P + B1 ≤ 16777216 + 2 * P + B2 := by
        rcases v1 with ⟨a0, a1⟩ | ⟨a0, a1⟩ <;> rcases v2 with ⟨b0, b1⟩ | ⟨b0, b1⟩ <;> omega
      rw [if_pos c2, if_neg (show ¬ (1 : Nat) = 0 by decide), if_pos (show (1 : Nat) = 1 from rfl), M3 y0 z1 z2 z1 (by omega) (by omega) (by omega) c2]
      have v1' : z1 = 15 ∧ B1 = 2147483647 ∨ z1 ≤ 12 ∧ 16777216 + B1 = z1 * 16777216 + L1 := by
        rcases v1 with ⟨a0, a1⟩ | ⟨a0, a1⟩ <;> omega
      clear w1 w2 v0 v2 v1 c1 c2
      rcases v1' with ⟨a0, a1⟩ | ⟨a0, a1⟩
      · rw [if_pos a0]
        have : 2147483647 ≤ min (0 + 0 * P + B0) (min (16777216 + 1 * P + B1) (16777216 + 2 * P + B2)) := Nat.le_min.mpr ⟨by omega, Nat.le_min.mpr ⟨by omega, by omega⟩⟩
        exact Nat.min_eq_left this
      · rw [if_neg (by omega), M3 (0 + 0 * P + B0) (16777216 + 1 * P + B1) (16777216 + 2 * P + B2) (16777216 + 1 * P + B1) (Or.inr (Or.inl rfl)) (by omega) (Nat.le_refl _) m2, Nat.min_eq_right (by omega)]
        omega
    · have c3 : z2 < y0 := by omega
      have m0 : 16777216 + 2 * P + B2 ≤ 0 + 0 * P + B0 ∨ 2147483647 ≤ 0 + 0 * P + B0 := by
        rcases v0 with ⟨a0, a1⟩ | ⟨a0, a1⟩ <;> rcases v2 with ⟨b0, b1⟩ | ⟨b0, b1⟩ <;> omega
      have m2 : 16777216 + 2 * P + B2 ≤ 16777216 + 1 * P + B1 ∨ 2147483647 ≤ B1 := by
        rcases v1 with ⟨a0, a1⟩ | ⟨a0, a1⟩ <;> rcases v2 with ⟨b0, b1⟩ | ⟨b0, b1⟩ <;> omega
      rw [if_neg c2, if_neg (show ¬ (2 : Nat) = 0 by decide), if_neg (show ¬ (2 : Nat) = 1 by decide), M3 y0 z1 z2 z2 (by omega) (by omega) (by omega) (by omega)]
      have v2' : z2 ≤ 12 ∧ 16777216 + B2 = z2 * 16777216 + L2 := by
        rcases v2 with ⟨a0, a1⟩ | ⟨a0, a1⟩ <;> omega
      clear w1 w2 v0 v2 v1 c1 c2
      obtain ⟨a0, a1⟩ := v2'
      rw [if_neg (by omega), M3 (0 + 0 * P + B0) (16777216 + 1 * P + B1) (16777216 + 2 * P + B2) (16777216 + 2 * P + B2) (Or.inr (Or.inr rfl)) (by omega) (by omega) (Nat.le_refl _), Nat.min_eq_right (by omega)]
      omega
theorem bp_few {l : Nat → Nat → Int32} {p r b : Nat} : ∀ (d t s : Nat), t + d ≤ 12 → bpF l p r b d t s = if fewF l p r b d t s = 15 then 2147483647 else fewF l p r b d t s * 16777216 + lxF l p r b d t s
  | 0, t, s, h => by
    unfold bpF fewF lxF
    by_cases g : nr r (s / 8) b = true
    · rw [if_pos g, if_pos g, if_neg (by decide)]
    · rw [if_neg g, if_neg g, if_pos rfl]
  | d + 1, t, s, h => by
    have i0 := bp_few (l := l) (p := p) (r := r) (b := b) d (t + 1) (nx l p s t (chz 0)) (by omega)
    have i1 := bp_few (l := l) (p := p) (r := r) (b := b) d (t + 1) (nx l p s t (chz 1)) (by omega)
    have i2 := bp_few (l := l) (p := p) (r := r) (b := b) d (t + 1) (nx l p s t (chz 2)) (by omega)
    have b0 := few_le (l := l) (p := p) (r := r) (b := b) d (t + 1) (nx l p s t (chz 0))
    have b1 := few_le (l := l) (p := p) (r := r) (b := b) d (t + 1) (nx l p s t (chz 1))
    have b2 := few_le (l := l) (p := p) (r := r) (b := b) d (t + 1) (nx l p s t (chz 2))
    have l0 := lx_lt (l := l) (p := p) (r := r) (b := b) d (t + 1) (nx l p s t (chz 0)) (by omega)
    have l1 := lx_lt (l := l) (p := p) (r := r) (b := b) d (t + 1) (nx l p s t (chz 1)) (by omega)
    have l2 := lx_lt (l := l) (p := p) (r := r) (b := b) d (t + 1) (nx l p s t (chz 2)) (by omega)
    rw [show 12 - (t + 1) = 11 - t by omega] at l0 l1 l2
    have hP : 4 ^ (11 - t) ≤ 4194304 := Nat.le_trans (Nat.pow_le_pow_right (by decide) (show 11 - t ≤ 11 by omega)) (by decide)
    have key := pl_core hP l0 l1 l2 (by omega) (by omega) (by omega) i0 i1 i2
    refine Eq.trans key ?_
    have hf : fdF l p r b d t s = fi (by1 0 (fewF l p r b d (t + 1) (nx l p s t (chz 0)))) (by1 1 (fewF l p r b d (t + 1) (nx l p s t (chz 1)))) (by1 2 (fewF l p r b d (t + 1) (nx l p s t (chz 2)))) := rfl
    have hL : lxF l p r b (d + 1) t s = fdF l p r b d t s * 4 ^ (11 - t) + lxF l p r b d (t + 1) (nx l p s t (chz (fdF l p r b d t s))) := rfl
    have hF : fewF l p r b (d + 1) t s = min (by1 0 (fewF l p r b d (t + 1) (nx l p s t (chz 0)))) (min (by1 1 (fewF l p r b d (t + 1) (nx l p s t (chz 1)))) (by1 2 (fewF l p r b d (t + 1) (nx l p s t (chz 2))))) := rfl
    rw [hL, hF, ← hf]
    generalize min (by1 0 (fewF l p r b d (t + 1) (nx l p s t (chz 0)))) (min (by1 1 (fewF l p r b d (t + 1) (nx l p s t (chz 1)))) (by1 2 (fewF l p r b d (t + 1) (nx l p s t (chz 2))))) = FF
    have h3 : fdF l p r b d t s < 3 := fi_3 _ _ _
    have : fdF l p r b d t s = 0 ∨ fdF l p r b d t s = 1 ∨ fdF l p r b d t s = 2 := by omega
    rcases this with e | e | e
    · rw [e, if_pos rfl]
    · rw [e, if_neg (show ¬ (1 : Nat) = 0 by decide), if_pos rfl]
    · rw [e, if_neg (show ¬ (2 : Nat) = 0 by decide), if_neg (show ¬ (2 : Nat) = 1 by decide)]
/-- the best way's stands -/
def gsF (l : Nat → Nat → Int32) (p r b T s0 : Nat) : Nat → Nat
  | 0 => s0
  | k + 1 => nx l p (gsF l p r b T s0 k) k (chz (fdF l p r b (T - k - 1) k (gsF l p r b T s0 k)))
theorem gs_lt {l : Nat → Nat → Int32} {p r b T s0 : Nat} (h : s0 < 2048) : ∀ k, gsF l p r b T s0 k < 2048
  | 0 => h
  | k + 1 => nx_lt (gs_lt h k)
theorem lx_k {l : Nat → Nat → Int32} {p r b T s0 : Nat} (hT : T ≤ 12) : ∀ k, k ≤ T → ∃ A, lxF l p r b T 0 s0 = A * 4 ^ (12 - k) + lxF l p r b (T - k) k (gsF l p r b T s0 k)
  | 0, h => ⟨0, by rw [Nat.zero_mul, Nat.zero_add]; rfl⟩
  | k + 1, h => by
    obtain ⟨A, hA⟩ := lx_k (l := l) (p := p) (r := r) (b := b) (s0 := s0) hT k (by omega)
    refine ⟨A * 4 + fdF l p r b (T - k - 1) k (gsF l p r b T s0 k), ?_⟩
    have e : lxF l p r b (T - k) k (gsF l p r b T s0 k) = fdF l p r b (T - k - 1) k (gsF l p r b T s0 k) * 4 ^ (11 - k) + lxF l p r b (T - k - 1) (k + 1) (gsF l p r b T s0 (k + 1)) := by
      rw [show T - k = (T - k - 1) + 1 by omega]; rfl
    have e2 : 4 ^ (12 - k) = 4 * 4 ^ (11 - k) := by rw [Nat.mul_comm, ← Nat.pow_succ]; congr 1; omega
    rw [hA, e, e2, ← Nat.mul_assoc, show 12 - (k + 1) = 11 - k by omega, show T - (k + 1) = T - k - 1 by omega, Nat.add_mul, Nat.add_assoc]
theorem digit {l : Nat → Nat → Int32} {p r b T s0 k : Nat} (hT : T ≤ 12) (hk : k < T) (F : Nat) : (F * 16777216 + lxF l p r b T 0 s0) / 4 ^ (11 - k) % 4 = fdF l p r b (T - k - 1) k (gsF l p r b T s0 k) := by
  obtain ⟨A, hA⟩ := lx_k (l := l) (p := p) (r := r) (b := b) (s0 := s0) hT k (by omega)
  have e : lxF l p r b (T - k) k (gsF l p r b T s0 k) = fdF l p r b (T - k - 1) k (gsF l p r b T s0 k) * 4 ^ (11 - k) + lxF l p r b (T - k - 1) (k + 1) (gsF l p r b T s0 (k + 1)) := by
    rw [show T - k = (T - k - 1) + 1 by omega]; rfl
  have hl := lx_lt (l := l) (p := p) (r := r) (b := b) (T - k - 1) (k + 1) (gsF l p r b T s0 (k + 1)) (by omega)
  rw [show 12 - (k + 1) = 11 - k by omega] at hl
  have h3 : fdF l p r b (T - k - 1) k (gsF l p r b T s0 k) < 3 := fi_3 _ _ _
  have e1 : 16777216 = 4 ^ k * 4 * 4 ^ (11 - k) := by rw [← Nat.pow_succ, ← Nat.pow_add, show k.succ + (11 - k) = 12 by omega]
  have e2 : 4 ^ (12 - k) = 4 * 4 ^ (11 - k) := by rw [Nat.mul_comm, ← Nat.pow_succ]; congr 1; omega
  rw [hA, e, e1, e2, ← Nat.mul_assoc, ← Nat.mul_assoc, ← Nat.mul_assoc, ← Nat.add_assoc, ← Nat.add_assoc, ← Nat.add_mul, ← Nat.add_mul]
  have hP : 0 < 4 ^ (11 - k) := Nat.pow_pos (by decide)
  rw [Nat.mul_comm _ (4 ^ (11 - k)), Nat.mul_add_div hP, Nat.div_eq_of_lt hl]
  omega
