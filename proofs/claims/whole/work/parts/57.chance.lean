/-! chance, mean -/
def chF (l : Nat → Nat → Int32) (p x : Nat) (val : Nat → Nat) : Nat → Nat → Nat → Nat
  | 0, _, s => val s
  | d + 1, t, s => (12 - x) * chF l p x val d (t + 1) (nx l p s t 0) + x * chF l p x val d (t + 1) (nx l p s t 1)
def wvF (l : Nat → Nat → Int32) (p x : Nat) (val : Nat → Nat) : Nat → Nat → Nat → Nat → Nat
  | 0, _, _, s => val s
  | d + 1, t, g, s => (if g % 2 = 1 then x else 12 - x) * wvF l p x val d (t + 1) (g / 2) (nx l p s t (if g % 2 = 1 then 1 else 0))
theorem sm_congr {f g : Nat → Nat} : ∀ {n : Nat}, (∀ i, i < n → f i = g i) → sm f n = sm g n
  | 0, _ => rfl
  | n + 1, h => by
    show sm f n + f n = sm g n + g n
    rw [sm_congr (fun i hi => h i (by omega)), h n (by omega)]
theorem sm_dbl (f : Nat → Nat) : ∀ n, sm f (2 * n) = sm (fun g => f (2 * g) + f (2 * g + 1)) n
  | 0 => rfl
  | n + 1 => by
    have : sm f (2 * (n + 1)) = sm f (2 * n) + f (2 * n) + f (2 * n + 1) := rfl
    rw [this, sm_dbl f n]
    show _ = sm _ n + (f (2 * n) + f (2 * n + 1))
    omega
theorem sm_lin (a b : Nat) (f g : Nat → Nat) : ∀ n, sm (fun i => a * f i + b * g i) n = a * sm f n + b * sm g n
  | 0 => rfl
  | n + 1 => by
    show sm _ n + (a * f n + b * g n) = a * (sm f n + f n) + b * (sm g n + g n)
    rw [sm_lin a b f g n, Nat.mul_add, Nat.mul_add]
    omega
theorem wv_sum (l : Nat → Nat → Int32) (p x : Nat) (val : Nat → Nat) : ∀ (d t s : Nat), sm (fun g => wvF l p x val d t g s) (2 ^ d) = chF l p x val d t s
  | 0, t, s => by show 0 + val s = val s; omega
  | d + 1, t, s => by
    rw [Nat.pow_succ, Nat.mul_comm, sm_dbl]
    have e : ∀ g, wvF l p x val (d + 1) t (2 * g) s + wvF l p x val (d + 1) t (2 * g + 1) s = (12 - x) * wvF l p x val d (t + 1) g (nx l p s t 0) + x * wvF l p x val d (t + 1) g (nx l p s t 1) := by
      intro g
      show (if 2 * g % 2 = 1 then x else 12 - x) * wvF l p x val d (t + 1) (2 * g / 2) (nx l p s t (if 2 * g % 2 = 1 then 1 else 0)) + (if (2 * g + 1) % 2 = 1 then x else 12 - x) * wvF l p x val d (t + 1) ((2 * g + 1) / 2) (nx l p s t (if (2 * g + 1) % 2 = 1 then 1 else 0)) = _
      rw [if_neg (by omega), if_neg (by omega), if_pos (by omega), if_pos (by omega), show 2 * g / 2 = g by omega, show (2 * g + 1) / 2 = g by omega]
    rw [sm_congr (fun g _ => e g), sm_lin, wv_sum l p x val d, wv_sum l p x val d]
    rfl
theorem chF_le {l : Nat → Nat → Int32} {p x V : Nat} {val : Nat → Nat} (hx : x ≤ 12) (hV : ∀ s, s < 2048 → val s ≤ V) : ∀ (d t s : Nat), s < 2048 → chF l p x val d t s ≤ 12 ^ d * V
  | 0, t, s, hs => by rw [Nat.pow_zero, Nat.one_mul]; exact hV s hs
  | d + 1, t, s, hs => by
    have h1 := chF_le (l := l) (p := p) hx hV d (t + 1) _ (nx_lt (l := l) (p := p) (t := t) (b := 0) hs)
    have h2 := chF_le (l := l) (p := p) hx hV d (t + 1) _ (nx_lt (l := l) (p := p) (t := t) (b := 1) hs)
    show (12 - x) * _ + x * _ ≤ _
    have q1 : (12 - x) * chF l p x val d (t + 1) (nx l p s t 0) ≤ (12 - x) * (12 ^ d * V) := Nat.mul_le_mul_left _ h1
    have q2 : x * chF l p x val d (t + 1) (nx l p s t 1) ≤ x * (12 ^ d * V) := Nat.mul_le_mul_left _ h2
    have q3 : (12 - x) * (12 ^ d * V) + x * (12 ^ d * V) = 12 ^ (d + 1) * V := by
      rw [← Nat.add_mul, show 12 - x + x = 12 by omega, Nat.pow_succ, Nat.mul_comm (12 ^ d) 12, Nat.mul_assoc]
    omega
theorem lg_0 {w : Nat} (h : w < 2 ^ 62) : lg_cmp (lN w) (0 : Int64) = 0 ↔ w = 0 := by
  rw [show (0 : Int64) = lN 0 from rfl, lgc h (by decide)]
  by_cases g : 0 < w
  · rw [if_pos g]
    exact ⟨fun q => absurd q (by decide), fun q => by omega⟩
  · rw [if_neg g, if_pos (by omega)]
    exact ⟨fun _ => by omega, fun _ => rfl⟩
theorem odds {x : Nat} (h : x ≤ 12) : Int32.toInt64 (nI x) = lN x ∧ Int32.toInt64 ((12 : Int32) - nI x) = lN (12 - x) := by
  refine ⟨nI_l (by omega), ?_⟩
  rw [show (12 : Int32) = nI 12 from rfl, pk_sub h, nI_l (by omega)]
/-- one way that it may go -/
theorem way_x {σ : Sg} {m k p x M T G : Nat} {l : Nat → Nat → Int32} {J : Int64 → Int32 → Sg → Prop} (hm : m < 2 ^ 31) (hkm : m / 10 = k) (hk : k < 6) (hp : p < 1000) (hM : M ≤ 200000) (hx : x ≤ 12) (hT : T ≤ 8) (hG : G < 256) : ∀ (d i w s : Nat) (τ : Sg), i + d = T → s < 2048 → w ≤ 12 ^ i → XT σ τ k p M l →
    (∀ w' s' τ', s' < 2048 → XT σ τ' k p M l → (∀ val, w' * val s' = w * wvF l p x val d i (G / 2 ^ i) s) → J (lN w') (nI s') τ') → w_X1_weight_l69 (nI m) (nI T) (nI x) (nI G) J (d + 1) (lN w) (nI s) (nI i) τ
  | 0, i, w, s, τ, h, hs, hw, hX, hJ => by
    have : i = T := by omega
    subst this
    unfold w_X1_weight_l69
    rw [if_pos (nI_le (Nat.le_refl _) (by omega))]
    exact hJ w s τ hs hX (fun val => rfl)
  | d + 1, i, w, s, τ, h, hs, hw, hX, hJ => by
    have hw2 : w < 2 ^ 62 := Nat.lt_of_le_of_lt hw (Nat.lt_of_le_of_lt (Nat.pow_le_pow_right (by decide) (show i ≤ 8 by omega)) (by decide))
    unfold w_X1_weight_l69
    rw [if_neg (nI_ge (by omega) (by omega))]
    by_cases g0 : w = 0
    · rw [if_pos ((lg_0 hw2).mpr g0)]
      exact hJ w s τ hs hX (fun val => by rw [g0, Nat.zero_mul, Nat.zero_mul])
    · rw [if_neg (fun q => g0 ((lg_0 hw2).mp q)), n_shr (by omega) (by omega), an1 (by have := Nat.div_le_self G (2 ^ i); omega), bd_eq, bd_eq, (odds hx).1, (odds hx).2, nI_1, div10 hm, hkm, cl_nI (by omega)]
      have ediv : G / 2 ^ (i + 1) = G / 2 ^ i / 2 := by rw [Nat.pow_succ, Nat.div_div_eq_div_mul]
      have hpow : 12 ^ (i + 1) = 12 ^ i * 12 := Nat.pow_succ _ _
      by_cases g1 : G / 2 ^ i % 2 = 1
      · rw [g1, if_pos (show nI 1 = 1 from rfl)]
        dsimp only
        rw [bd_eq]
        refine next_x (b := 1) hk hX.2.1 hX.2.2 hM hs (by omega) hp (Or.inr (Or.inr rfl)) (fun τ1 hf hC1 hK1 _ => ?_)
        rw [lN_mul]
        refine way_x hm hkm hk hp hM hx hT hG d (i + 1) (w * x) _ τ1 (by omega) (nx_lt hs) (by rw [hpow]; exact Nat.mul_le_mul hw hx) ⟨hX.1.trans (Fx.of_k hk hf), hC1, hK1⟩ (fun w' s' τ' hs' hX' hv => hJ w' s' τ' hs' hX' (fun val => ?_))
        rw [hv val, ediv]
        show _ = w * ((if G / 2 ^ i % 2 = 1 then x else 12 - x) * wvF l p x val d (i + 1) (G / 2 ^ i / 2) (nx l p s i (if G / 2 ^ i % 2 = 1 then 1 else 0)))
        rw [if_pos g1, if_pos g1, Nat.mul_assoc]
      · have g2 : G / 2 ^ i % 2 = 0 := by omega
        rw [g2, if_neg (show ¬ nI 0 = 1 by decide)]
        dsimp only
        rw [bd_eq]
        refine next_x (b := 0) hk hX.2.1 hX.2.2 hM hs (by omega) hp (Or.inr (Or.inl rfl)) (fun τ1 hf hC1 hK1 _ => ?_)
        rw [lN_mul]
        refine way_x hm hkm hk hp hM hx hT hG d (i + 1) (w * (12 - x)) _ τ1 (by omega) (nx_lt hs) (by rw [hpow]; exact Nat.mul_le_mul hw (by omega)) ⟨hX.1.trans (Fx.of_k hk hf), hC1, hK1⟩ (fun w' s' τ' hs' hX' hv => hJ w' s' τ' hs' hX' (fun val => ?_))
        rw [hv val, ediv]
        show _ = w * ((if G / 2 ^ i % 2 = 1 then x else 12 - x) * wvF l p x val d (i + 1) (G / 2 ^ i / 2) (nx l p s i (if G / 2 ^ i % 2 = 1 then 1 else 0)))
        rw [if_neg (show ¬ G / 2 ^ i % 2 = 1 by omega), if_neg (show ¬ G / 2 ^ i % 2 = 1 by omega), Nat.mul_assoc]
/-- what is weighed: near, or how far -/
def vlF (far : Bool) (r b s : Nat) : Nat := if far = true then ap (s / 8) b else if nr r (s / 8) b = true then 1 else 0
theorem vlF_le {far : Bool} {r b s : Nat} (hb : b < 256) (hs : s < 2048) : vlF far r b s ≤ 15 := by
  unfold vlF
  split
  · have := ap_lt (show s / 8 < 256 by omega) hb; omega
  · split <;> decide
theorem ways2_x {σ : Sg} {nC nP m p x M T b : Nat} {far : Bool} {d0 : Int32} {l : Nat → Nat → Int32} {Q : Int64 → Sg → Prop} (hd0 : d0 = if far = true then 1 else 0) (hm : m < 2 ^ 31) (hB : Bs σ nC nP) (hk : m / 10 < nC) (hp : p < 1000) (hM : M ≤ 200000) (hx : x ≤ 12) (hT : T ≤ 8) (hb : b < 256)
    (hQ : ∀ τ', XT σ τ' (m / 10) p M l → Q (lN (chF l p x (vlF far (vN σ 1 8) b) T 0 (stN σ (m / 10)))) τ') : ∀ (d G : Nat) (τ : Sg), G + d = 2 ^ T → XT σ τ (m / 10) p M l →
    w_X1_weight_l48 (nI m) (nI T) (nI x) d0 Q (nI b) (d + 1) (lN (sm (fun g => wvF l p x (vlF far (vN σ 1 8) b) T 0 g (stN σ (m / 10))) G)) (nI G) τ
  | 0, G, τ, h, hX => by
    have : G = 2 ^ T := by omega
    subst this
    have h256 := p8 hT
    unfold w_X1_weight_l48
    rw [one_sh (by omega), if_pos (nI_le (Nat.le_refl _) (by omega)), wv_sum]
    exact hQ τ hX
  | d + 1, G, τ, h, hX => by
    have h6 := hB.1.1
    have h256 := p8 hT
    obtain ⟨⟨c1, c2⟩, ⟨c3, c4⟩, ⟨c5, c6, c7⟩, ⟨c8, c9⟩⟩ := hB.2.1 _ hk
    unfold w_X1_weight_l48
    rw [one_sh (by omega), if_neg (nI_ge (by omega) (by omega)), div10 hm, cl_nI (by omega), nI_1]
    refine stand_x (by omega) hX.2.1.1.1 (by rw [hX.1.lo (c := 2) (by omega), c1]) (by rw [hX.1.lo (c := 3) (by omega), c3]) ?_
    rw [bd_eq]
    refine ⟨T + 1, way_x (l := l) (x := x) hm rfl (by omega) hp hM hx hT (by omega) T 0 1 (8 * vN σ 2 (m / 10) + vN σ 3 (m / 10)) τ (by omega) (stN_lt hB hk) (by decide) hX (fun w' s' τ' hs' hX' hv => ?_)⟩
    rw [sh3 (by omega), apart_x (by omega) hb, bd_eq, hX'.1.lo (c := 1) (by omega), hB.2.2.2.1.1]
    have hr5 := hB.2.2.2.1.2
    have hap := ap_lt (show s' / 8 < 256 by omega) hb
    have hsm : sm (fun g => wvF l p x (vlF far (vN σ 1 8) b) T 0 g (stN σ (m / 10))) (G + 1) = sm (fun g => wvF l p x (vlF far (vN σ 1 8) b) T 0 g (stN σ (m / 10))) G + w' * vlF far (vN σ 1 8) b s' := by
      rw [hv (vlF far (vN σ 1 8) b), Nat.one_mul, Nat.pow_zero, Nat.div_one]
      rfl
    have ih := ways2_x (M := M) (l := l) hd0 hm hB hk hp hM hx hT hb hQ d (G + 1) τ' (by omega) hX'
    rw [hsm, ← lN_add, ← lN_mul] at ih
    cases far with
    | true =>
      have hd1 : d0 = 1 := hd0
      rw [if_neg (show ¬ d0 = 0 by rw [hd1]; exact one_ne)]
      dsimp only
      rw [bd_eq, nI_l (by omega)]
      exact ih
    | false =>
      have hd1 : d0 = 0 := hd0
      rw [if_pos hd1]
      by_cases g : nr (vN σ 1 8) (s' / 8) b = true
      · have hn : ap (s' / 8) b ≤ vN σ 1 8 := by simpa [nr] using g
        rw [if_neg (nI_nlt hn (by omega))]
        dsimp only
        rw [bd_eq]
        rw [show vlF false (vN σ 1 8) b s' = 1 by unfold vlF; rw [if_neg (by decide), if_pos g]] at ih
        exact ih
      · have hn : ¬ ap (s' / 8) b ≤ vN σ 1 8 := by simpa [nr] using g
        rw [if_pos (nI_lt (by omega) (by omega))]
        dsimp only
        rw [bd_eq]
        rw [show vlF false (vN σ 1 8) b s' = 0 by unfold vlF; rw [if_neg (by decide), if_neg g]] at ih
        exact ih
/-! the greatest common divisor, in lowest terms -/
theorem half_lt {b c k : Nat} (h1 : c < b) (h2 : 0 < c) (hb : b < 2 ^ (k + 1)) : b % c < 2 ^ k := by
  rw [Nat.pow_succ] at hb
  have h3 := Nat.mod_lt b h2
  have h4 := Nat.div_add_mod b c
  have h5 : 1 ≤ b / c := Nat.div_pos (by omega) h2
  have h6 : c * 1 ≤ c * (b / c) := Nat.mul_le_mul_left c h5
  omega
theorem gcd_s {a b : Nat} : Nat.gcd a b = Nat.gcd b (a % b) := by
  rw [Nat.gcd_comm a b, Nat.gcd_rec b a, Nat.gcd_comm]
theorem ed_x {J : Int64 → Sg → Prop} {τ : Sg} : ∀ (k c a b : Nat), c + 2 * k < 100 → b < 2 ^ k → a < 2 ^ 60 → b < 2 ^ 60 → J (lN (Nat.gcd a b)) τ → ∃ n, w_X1_commonDivisor_l9 J n (lN a) (lN b) (nI c) τ
  | 0, c, a, b, hc, hb, ha, hb', hJ => by
    have : b = 0 := by omega
    subst this
    refine ⟨1, ?_⟩
    unfold w_X1_commonDivisor_l9
    rw [if_neg (show ¬ (100 : Int32) ≤ nI c from nI_ge (b := 100) (by omega) (by decide)), if_pos ((lg_0 (by decide)).mpr rfl)]
    rw [Nat.gcd_zero_right] at hJ
    exact hJ
  | k + 1, c, a, b, hc, hb, ha, hb', hJ => by
    by_cases g : b = 0
    · subst g
      refine ⟨1, ?_⟩
      unfold w_X1_commonDivisor_l9
      rw [if_neg (show ¬ (100 : Int32) ≤ nI c from nI_ge (b := 100) (by omega) (by decide)), if_pos ((lg_0 (by decide)).mpr rfl)]
      rw [Nat.gcd_zero_right] at hJ
      exact hJ
    · have hlt := Nat.mod_lt a (show 0 < b by omega)
      rw [gcd_s] at hJ
      have hb0 : ¬ lN b = 0 := fun q => g ((pk_lEQ (a := b) (b := 0) (by omega) (by decide)).mp q)
      by_cases g2 : a % b = 0
      · refine ⟨2, ?_⟩
        unfold w_X1_commonDivisor_l9
        rw [if_neg (show ¬ (100 : Int32) ≤ nI c from nI_ge (b := 100) (by omega) (by decide)), if_neg (fun q => g ((lg_0 (by omega)).mp q)), bd_eq, pk_lRem (by omega) (by omega) (by omega), g2, nI_1]
        refine ⟨hb0, ?_⟩
        unfold w_X1_commonDivisor_l9
        rw [if_neg (show ¬ (100 : Int32) ≤ nI (c + 1) from nI_ge (b := 100) (by omega) (by decide)), if_pos ((lg_0 (by decide)).mpr rfl)]
        rw [g2, Nat.gcd_zero_right] at hJ
        exact hJ
      · rw [gcd_s] at hJ
        have hh := half_lt hlt (by omega) hb
        obtain ⟨n, hn⟩ := ed_x (J := J) (τ := τ) k (c + 2) (a % b) (b % (a % b)) (by omega) hh (by omega) (by have := Nat.mod_lt b (show 0 < a % b by omega); omega) hJ
        refine ⟨n + 2, ?_⟩
        unfold w_X1_commonDivisor_l9
        rw [if_neg (show ¬ (100 : Int32) ≤ nI c from nI_ge (b := 100) (by omega) (by decide)), if_neg (fun q => g ((lg_0 (by omega)).mp q)), bd_eq, pk_lRem (by omega) (by omega) (by omega), nI_1]
        refine ⟨hb0, ?_⟩
        unfold w_X1_commonDivisor_l9
        rw [if_neg (show ¬ (100 : Int32) ≤ nI (c + 1) from nI_ge (b := 100) (by omega) (by decide)), if_neg (fun q => g2 ((lg_0 (by omega)).mp q)), bd_eq, pk_lRem (by omega) (by omega) (by omega), nI_1]
        exact ⟨fun q => g2 ((pk_lEQ (a := a % b) (b := 0) (by omega) (by decide)).mp q), hn⟩
theorem ed_m {J : Int64 → Sg → Prop} {τ : Sg} : ∀ (k a b : Nat), b < 2 ^ k → a < 2 ^ 60 → b < 2 ^ 60 → J (lN (Nat.gcd a b)) τ → ∃ n, w_X12_lowest_l16 J n (lN a) (lN b) τ
  | 0, a, b, hb, ha, hb', hJ => by
    have : b = 0 := by omega
    subst this
    refine ⟨1, ?_⟩
    unfold w_X12_lowest_l16
    rw [if_pos ((lg_0 (by decide)).mpr rfl)]
    rw [Nat.gcd_zero_right] at hJ
    exact hJ
  | k + 1, a, b, hb, ha, hb', hJ => by
    by_cases g : b = 0
    · subst g
      refine ⟨1, ?_⟩
      unfold w_X12_lowest_l16
      rw [if_pos ((lg_0 (by decide)).mpr rfl)]
      rw [Nat.gcd_zero_right] at hJ
      exact hJ
    · have hlt := Nat.mod_lt a (show 0 < b by omega)
      rw [gcd_s] at hJ
      have hb0 : ¬ lN b = 0 := fun q => g ((pk_lEQ (a := b) (b := 0) (by omega) (by decide)).mp q)
      by_cases g2 : a % b = 0
      · refine ⟨2, ?_⟩
        unfold w_X12_lowest_l16
        rw [if_neg (fun q => g ((lg_0 (by omega)).mp q)), bd_eq, pk_lRem (by omega) (by omega) (by omega), g2]
        refine ⟨hb0, ?_⟩
        unfold w_X12_lowest_l16
        rw [if_pos ((lg_0 (by decide)).mpr rfl)]
        rw [g2, Nat.gcd_zero_right] at hJ
        exact hJ
      · rw [gcd_s] at hJ
        have hh := half_lt hlt (by omega) hb
        obtain ⟨n, hn⟩ := ed_m (J := J) (τ := τ) k (a % b) (b % (a % b)) hh (by omega) (by have := Nat.mod_lt b (show 0 < a % b by omega); omega) hJ
        refine ⟨n + 2, ?_⟩
        unfold w_X12_lowest_l16
        rw [if_neg (fun q => g ((lg_0 (by omega)).mp q)), bd_eq, pk_lRem (by omega) (by omega) (by omega)]
        refine ⟨hb0, ?_⟩
        unfold w_X12_lowest_l16
        rw [if_neg (fun q => g2 ((lg_0 (by omega)).mp q)), bd_eq, pk_lRem (by omega) (by omega) (by omega)]
        exact ⟨fun q => g2 ((pk_lEQ (a := a % b) (b := 0) (by omega) (by decide)).mp q), hn⟩
/-- the fraction's part -/
def fr (A B : Nat) (c : Int32) : Int64 := if c = 0 then lN (A / Nat.gcd A B) else lN (B / Nat.gcd A B)
theorem p12 {T : Nat} (h : T ≤ 8) : 12 ^ T ≤ 429981696 ∧ 0 < 12 ^ T := ⟨Nat.le_trans (Nat.pow_le_pow_right (by decide) h) (by decide : 12 ^ 8 ≤ 429981696), Nat.pow_pos (by decide)⟩
theorem be_x {T : Nat} {J : Int64 → Sg → Prop} {τ : Sg} (hT : T ≤ 8) (hJ : J (lN (12 ^ T)) τ) : ∀ (d i : Nat), i + d = T → w_X1_fraction_l6 (nI T) J (d + 1) (lN (12 ^ i)) (nI i) τ
  | 0, i, h => by
    have : i = T := by omega
    subst this
    unfold w_X1_fraction_l6
    rw [if_pos (nI_le (Nat.le_refl _) (by omega))]
    exact hJ
  | d + 1, i, h => by
    unfold w_X1_fraction_l6
    rw [if_neg (nI_ge (by omega) (by omega)), bd_eq, nI_1, show (12 : Int64) = lN 12 from rfl, lN_mul, ← Nat.pow_succ]
    exact be_x hT hJ d (i + 1) (by omega)
theorem be_m {T : Nat} {Q : Int64 → Sg → Prop} {τ : Sg} (hT : T ≤ 8) (hJ : Q (lN (12 ^ T)) τ) : ∀ (d i : Nat), i + d = T → w_X12_findChance_l55 (nI T) Q (d + 1) (lN (12 ^ i)) (nI i) τ
  | 0, i, h => by
    have : i = T := by omega
    subst this
    unfold w_X12_findChance_l55
    rw [if_pos (nI_le (Nat.le_refl _) (by omega))]
    exact hJ
  | d + 1, i, h => by
    unfold w_X12_findChance_l55
    rw [if_neg (nI_ge (by omega) (by omega)), bd_eq, nI_1, show (12 : Int64) = lN 12 from rfl, lN_mul, ← Nat.pow_succ]
    exact be_m hT hJ d (i + 1) (by omega)
theorem gcd_pos {A B : Nat} (h : 0 < B) : 0 < Nat.gcd A B := Nat.gcd_pos_of_pos_right A h
theorem fr_x {A T : Nat} {c : Int32} {τ : Sg} {Q : Int64 → Sg → Prop} (hA : A < 2 ^ 60) (hT : T ≤ 8) (hQ : Q (fr A (12 ^ T) c) τ) : w_X1_fraction (lN A) (nI T) c τ Q := by
  obtain ⟨p1, p2⟩ := p12 hT
  have hg := gcd_pos (A := A) p2
  have hgl : Nat.gcd A (12 ^ T) ≤ 12 ^ T := Nat.le_of_dvd p2 (Nat.gcd_dvd_right _ _)
  unfold w_X1_fraction
  rw [bd_eq]
  refine ⟨T + 1, ?_⟩
  have key := be_x (T := T) (τ := τ) (J := fun (x1 : Int64) (σ2 : Sg) => w_X1_commonDivisor (lN A) x1 σ2 (fun r4 σ3 => if c = 0 then (¬ r4 = 0 ∧ Q ((lN A) / r4) σ3) else (¬ r4 = 0 ∧ Q (x1 / r4) σ3))) hT ?_ T 0 (by omega)
  · exact key
  · show w_X1_commonDivisor _ _ _ _
    unfold w_X1_commonDivisor
    rw [bd_eq]
    refine ed_x 29 0 A (12 ^ T) (by decide) (by omega) hA (by omega) ?_
    dsimp only
    have hl : lmax 1 (lN (Nat.gcd A (12 ^ T))) = lN (Nat.gcd A (12 ^ T)) := by
      unfold lmax
      rw [if_neg (show ¬ lN (Nat.gcd A (12 ^ T)) < 1 from fun q => by have := (pk_lLT (b := 1) (by omega) (by decide)).mp q; omega)]
    rw [hl]
    have hne : ¬ lN (Nat.gcd A (12 ^ T)) = 0 := fun q => by have := (pk_lEQ (b := 0) (by omega) (by decide)).mp q; omega
    unfold fr at hQ
    by_cases g : c = 0
    · rw [if_pos g] at hQ ⊢
      rw [pk_lDiv (by omega) hg (by omega)]
      exact ⟨hne, hQ⟩
    · rw [if_neg g] at hQ ⊢
      rw [pk_lDiv (by omega) hg (by omega)]
      exact ⟨hne, hQ⟩
theorem fr_m {A T : Nat} {c : Int32} {τ : Sg} {Q : Int64 → Sg → Prop} (hA : A < 2 ^ 60) (hT : T ≤ 8) (hc : inR c 0 1) (hQ : Q (fr A (12 ^ T) c) τ) : w_X12_lowest (lN A) (lN (12 ^ T)) c τ Q := by
  obtain ⟨p1, p2⟩ := p12 hT
  have hg := gcd_pos (A := A) p2
  have hgl : Nat.gcd A (12 ^ T) ≤ 12 ^ T := Nat.le_of_dvd p2 (Nat.gcd_dvd_right _ _)
  have hne : ¬ lN (Nat.gcd A (12 ^ T)) = 0 := fun q => by have := (pk_lEQ (b := 0) (by omega) (by decide)).mp q; omega
  unfold w_X12_lowest
  unfold fr at hQ
  by_cases g0 : A = 0
  · rw [if_pos ((lg_0 (by omega)).mpr g0)]
    subst g0
    rw [Nat.gcd_zero_left, Nat.zero_div, Nat.div_self p2] at hQ
    rcases one_of hc with e | e
    · rw [if_pos e] at hQ
      rw [e]; exact hQ
    · rw [if_neg (by rw [e]; exact one_ne)] at hQ
      rw [e]; exact hQ
  · rw [if_neg (fun q => g0 ((lg_0 (by omega)).mp q)), bd_eq]
    refine ed_m 29 A (12 ^ T) (by omega) hA (by omega) ?_
    by_cases g : c = 0
    · rw [if_pos g] at hQ ⊢
      rw [pk_lDiv (by omega) hg (by omega)]
      exact ⟨hne, hQ⟩
    · rw [if_neg g] at hQ ⊢
      rw [pk_lDiv (by omega) hg (by omega)]
      exact ⟨hne, hQ⟩
