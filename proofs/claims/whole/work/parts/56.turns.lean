/-! two at the box by turns -/
def enF (l : Nat → Nat → Int32) (p b : Nat) : Nat → Nat → Nat → Nat
  | 0, _, s => ap (s / 8) b
  | d + 1, t, s => if t % 2 = 0 then min (enF l p b d (t + 1) (nx l p s t 0)) (min (enF l p b d (t + 1) (nx l p s t (-1))) (enF l p b d (t + 1) (nx l p s t 1))) else max (enF l p b d (t + 1) (nx l p s t 0)) (max (enF l p b d (t + 1) (nx l p s t (-1))) (enF l p b d (t + 1) (nx l p s t 1)))
theorem enF_lt {l : Nat → Nat → Int32} {p b : Nat} (hb : b < 256) : ∀ (d t s : Nat), s < 2048 → enF l p b d t s < 16
  | 0, _, s, h => ap_lt (by omega) hb
  | d + 1, t, s, h => by
    have h1 := enF_lt (l := l) (p := p) hb d (t + 1) _ (nx_lt (l := l) (p := p) (t := t) (b := 0) h)
    have h2 := enF_lt (l := l) (p := p) hb d (t + 1) _ (nx_lt (l := l) (p := p) (t := t) (b := -1) h)
    have h3 := enF_lt (l := l) (p := p) hb d (t + 1) _ (nx_lt (l := l) (p := p) (t := t) (b := 1) h)
    unfold enF
    split
    · omega
    · omega
/-- what choice i turns -/
def chz (i : Nat) : Int32 := if i = 0 then 0 else if i = 1 then -1 else 1
theorem chz_5 : ∀ i, i < 3 → exC 5 i = chz i ∧ exC 8 i = chz i := by decide +kernel
theorem chz_3 (i : Nat) : t3 (chz i) := by
  unfold chz
  split
  · exact Or.inr (Or.inl rfl)
  · split
    · exact Or.inl rfl
    · exact Or.inr (Or.inr rfl)
def tri (a b c i : Nat) : Nat := if i = 0 then a else if i = 1 then b else c
/-- best of the first i: the class's way -/
def bsF (hers : Bool) (v : Nat → Nat) : Nat → Int32
  | 0 => if hers = true then 2147483647 else -1
  | i + 1 => if hers = true then imin (bsF hers v i) (nI (v i)) else imax (bsF hers v i) (nI (v i))
theorem imin_big {v : Nat} (h : v < 1000) : imin 2147483647 (nI v) = nI v := by
  unfold imin
  rw [if_pos (show nI v < 2147483647 by rw [i32_lt, nI_toInt (by omega), show (2147483647 : Int32).toInt = 2147483647 by decide]; omega)]
theorem imax_neg {v : Nat} (h : v < 1000) : imax (-1) (nI v) = nI v := by
  unfold imax
  rw [if_pos (show (-1 : Int32) < nI v by rw [i32_lt, nI_toInt (by omega), show (-1 : Int32).toInt = -1 by decide]; omega)]
theorem bsF_3 {v : Nat → Nat} (h : ∀ i, v i < 16) : bsF true v 3 = nI (min (v 0) (min (v 1) (v 2))) ∧ bsF false v 3 = nI (max (v 0) (max (v 1) (v 2))) := by
  have h0 := h 0
  have h1 := h 1
  have h2 := h 2
  constructor
  · have e0 : bsF true v 0 = 2147483647 := if_pos rfl
    have e1 : bsF true v 1 = imin (bsF true v 0) (nI (v 0)) := if_pos rfl
    have e2 : bsF true v 2 = imin (bsF true v 1) (nI (v 1)) := if_pos rfl
    have e3 : bsF true v 3 = imin (bsF true v 2) (nI (v 2)) := if_pos rfl
    rw [e3, e2, e1, e0, imin_big (by omega), imin_n (by omega) (by omega), imin_n (by omega) (by omega)]
    congr 1
    omega
  · have e0 : bsF false v 0 = -1 := if_neg (by decide)
    have e1 : bsF false v 1 = imax (bsF false v 0) (nI (v 0)) := if_neg (by decide)
    have e2 : bsF false v 2 = imax (bsF false v 1) (nI (v 1)) := if_neg (by decide)
    have e3 : bsF false v 3 = imax (bsF false v 2) (nI (v 2)) := if_neg (by decide)
    rw [e3, e2, e1, e0, imax_neg (by omega), imax_n (by omega) (by omega), imax_n (by omega) (by omega)]
    congr 1
    omega
def vv (l : Nat → Nat → Int32) (p b d t s : Nat) (i : Nat) : Nat := enF l p b d (t + 1) (nx l p s t (chz i))
theorem enF_s (l : Nat → Nat → Int32) (p b d t s : Nat) : enF l p b (d + 1) t s = if t % 2 = 0 then min (vv l p b d t s 0) (min (vv l p b d t s 1) (vv l p b d t s 2)) else max (vv l p b d t s 0) (max (vv l p b d t s 1) (vv l p b d t s 2)) := rfl
theorem vv_lt {l : Nat → Nat → Int32} {p b d t s : Nat} (hb : b < 256) (hs : s < 2048) (i : Nat) : vv l p b d t s i < 16 := enF_lt hb d (t + 1) _ (nx_lt hs)
def XT (σ τ : Sg) (k p M : Nat) (l : Nat → Nat → Int32) : Prop := Fx σ τ ∧ CoK τ k p l ∧ IKb M τ
def FA (F : Nat → Int32 → Int32 → Int32 → Int32 → Sg → (Int32 → Sg → Prop) → Prop) (σ : Sg) (k p M b H d : Nat) (l : Nat → Nat → Int32) : Prop := ∀ (t s : Nat) (τ : Sg) (Q : Int32 → Sg → Prop), t + d = H → s < 2048 → XT σ τ k p M l → (∀ τ', XT σ τ' k p M l → Q (nI (enF l p b d t s)) τ') → F k (nI s) (nI t) (nI H) (nI b) τ Q
theorem fa_l {F : Nat → Int32 → Int32 → Int32 → Int32 → Sg → (Int32 → Sg → Prop) → Prop} {σ : Sg} {k p M b H dd t s : Nat} {hers : Bool} {x1 : Int32} {l : Nat → Nat → Int32} {Q : Int32 → Sg → Prop} (hk : k < 6) (hp : p < 1000) (hM : M ≤ 200000) (hF : FA F σ k p M b H dd l) (hH : H < 60) (ht : t + 1 + dd = H) (hs : s < 2048) (hx : x1 = if hers = true then 1 else 0) (hQ : ∀ τ', XT σ τ' k p M l → Q (bsF hers (vv l p b dd t s) 3) τ') :
    ∀ (d i : Nat) (τ : Sg), i + d = 3 → XT σ τ k p M l → w_X1_farAtLast_l43 k (nI s) (nI t) (nI H) (nI b) Q x1 F (d + 1) (bsF hers (vv l p b dd t s) i) (nI i) τ
  | 0, i, τ, h, hT => by
    have : i = 3 := by omega
    subst this
    unfold w_X1_farAtLast_l43
    rw [if_pos (by decide)]
    exact hQ τ hT
  | d + 1, i, τ, h, hT => by
    unfold w_X1_farAtLast_l43
    rw [if_neg (show ¬ (3 : Int32) ≤ nI i from nI_ge (b := 3) (by omega) (by decide)), cl_nI (by omega), (chz_5 i (by omega)).1, nI_1, nI_1]
    refine ⟨vp_nI (by omega) (by decide), next_x hk hT.2.1 hT.2.2 hM hs (by omega) hp (chz_3 i) (fun τ1 hf hC1 hK1 _ => ?_)⟩
    refine hF (t + 1) _ τ1 _ (by omega) (nx_lt hs) ⟨hT.1.trans (Fx.of_k hk hf), hC1, hK1⟩ (fun τ2 hT2 => ?_)
    rw [bd_eq]
    have ih := fa_l hk hp hM hF hH ht hs hx hQ d (i + 1) τ2 (by omega) hT2
    rw [show bsF hers (vv l p b dd t s) (i + 1) = if hers = true then imin (bsF hers (vv l p b dd t s) i) (nI (vv l p b dd t s i)) else imax (bsF hers (vv l p b dd t s) i) (nI (vv l p b dd t s i)) from rfl] at ih
    by_cases g : hers = true
    · rw [if_pos g] at ih
      rw [if_neg (show ¬ x1 = 0 by rw [hx, if_pos g]; exact one_ne)]
      exact ih
    · rw [if_neg g] at ih
      rw [if_pos (show x1 = 0 by rw [hx, if_neg g])]
      exact ih
theorem par_n {t : Nat} (h : t < 1000) : nI t - nI t / (2 : Int32) * (2 : Int32) = nI (t % 2) := pk_rem (d := 2) (by omega) (by decide) (by decide)
theorem fa_x {σ : Sg} {k p M b H : Nat} {l : Nat → Nat → Int32} (hk : k < 6) (hp : p < 1000) (hM : M ≤ 200000) (hb : b < 256) (hH : H < 60) : ∀ (n d : Nat), d < n → FA (w_X1_farAtLast n) σ k p M b H d l
  | 0, d, h => by omega
  | n + 1, d, h => fun t s τ Q ht hs hT hQ => by
    show w_X1_farAtLast_b (w_X1_farAtLast n) k (nI s) (nI t) (nI H) (nI b) τ Q
    unfold w_X1_farAtLast_b
    cases d with
    | zero =>
      rw [if_neg (nI_nlt (by omega) (by omega)), sh3 (by omega), apart_x (by omega) hb]
      exact hQ τ hT
    | succ d =>
      rw [if_pos (nI_lt (by omega) (by omega)), par_n (by omega), bd_eq]
      have ih := fa_x (σ := σ) (M := M) (l := l) hk hp hM hb hH n d (by omega)
      rw [enF_s] at hQ
      obtain ⟨b1, b2⟩ := bsF_3 (v := vv l p b d t s) (fun i => vv_lt hb hs i)
      by_cases g : t % 2 = 0
      · rw [if_pos g, ← b1] at hQ
        rw [g, if_pos nI_0]
        dsimp only
        rw [bd_eq, if_neg one_ne]
        exact ⟨4, fa_l (hers := true) hk hp hM ih hH (by omega) hs rfl hQ 3 0 τ (by decide) hT⟩
      · rw [if_neg g, ← b2] at hQ
        rw [if_neg (nI_ne0 (by omega) (by omega))]
        dsimp only
        rw [bd_eq, if_pos rfl]
        exact ⟨4, fa_l (hers := false) hk hp hM ih hH (by omega) hs rfl hQ 3 0 τ (by decide) hT⟩
/-- her first: best, and which -/
def hbF (v : Nat → Nat) : Nat → Int32 × Nat
  | 0 => (2147483647, 0)
  | i + 1 => if (hbF v i).1 ≤ nI (v i) then hbF v i else (nI (v i), i)
def fi (a b c : Nat) : Nat := if a ≤ b ∧ a ≤ c then 0 else if b ≤ c then 1 else 2
theorem hbF_3 {v : Nat → Nat} (h : ∀ i, v i < 16) : hbF v 3 = (nI (min (v 0) (min (v 1) (v 2))), fi (v 0) (v 1) (v 2)) := by
  have h0 := h 0
  have h1 := h 1
  have h2 := h 2
  have e1 : hbF v 1 = (nI (v 0), 0) := by
    show (if (2147483647 : Int32) ≤ nI (v 0) then _ else _) = _
    rw [if_neg (show ¬ (2147483647 : Int32) ≤ nI (v 0) by rw [i32_le, nI_toInt (by omega), show (2147483647 : Int32).toInt = 2147483647 by decide]; omega)]
  have e2 : hbF v 2 = if v 0 ≤ v 1 then (nI (v 0), 0) else (nI (v 1), 1) := by
    show (if (hbF v 1).1 ≤ nI (v 1) then hbF v 1 else (nI (v 1), 1)) = _
    rw [e1]
    by_cases g : v 0 ≤ v 1
    · rw [if_pos (show nI (v 0) ≤ nI (v 1) from nI_le g (by omega)), if_pos g]
    · rw [if_neg (show ¬ nI (v 0) ≤ nI (v 1) from nI_ge (by omega) (by omega)), if_neg g]
  show (if (hbF v 2).1 ≤ nI (v 2) then hbF v 2 else (nI (v 2), 2)) = _
  rw [e2]
  unfold fi
  by_cases g : v 0 ≤ v 1
  · rw [if_pos g]
    by_cases g2 : v 0 ≤ v 2
    · rw [if_pos (show nI (v 0) ≤ nI (v 2) from nI_le g2 (by omega)), if_pos ⟨g, g2⟩, show min (v 0) (min (v 1) (v 2)) = v 0 by omega]
    · rw [if_neg (show ¬ nI (v 0) ≤ nI (v 2) from nI_ge (by omega) (by omega)), if_neg (fun q => g2 q.2), if_neg (by omega), show min (v 0) (min (v 1) (v 2)) = v 2 by omega]
  · rw [if_neg g]
    by_cases g2 : v 1 ≤ v 2
    · rw [if_pos (show nI (v 1) ≤ nI (v 2) from nI_le g2 (by omega)), if_neg (fun q => g q.1), if_pos g2, show min (v 0) (min (v 1) (v 2)) = v 1 by omega]
    · rw [if_neg (show ¬ nI (v 1) ≤ nI (v 2) from nI_ge (by omega) (by omega)), if_neg (fun q => g q.1), if_neg g2, show min (v 0) (min (v 1) (v 2)) = v 2 by omega]
theorem hb_l {σ : Sg} {nC nP k M b n : Nat} {l : Nat → Nat → Int32} {p : Nat} {J : Int32 → Int32 → Sg → Prop} (hB : Bs σ nC nP) (hk : k < nC) (hp : p < 1000) (hM : M ≤ 200000) (hb : b < 256) (hn : 1 ≤ n) (hn6 : n ≤ 6) (hJ : ∀ τ', XT σ τ' k p M l → J (hbF (vv l p b (n - 1) 0 (stN σ k)) 3).1 (nI (hbF (vv l p b (n - 1) 0 (stN σ k)) 3).2) τ') :
    ∀ (d i : Nat) (τ : Sg), i + d = 3 → XT σ τ k p M l → w_X1_herBest_l32 (nI k) (nI b) (nI n) J (d + 1) (hbF (vv l p b (n - 1) 0 (stN σ k)) i).1 (nI (hbF (vv l p b (n - 1) 0 (stN σ k)) i).2) (nI i) τ
  | 0, i, τ, h, hT => by
    have : i = 3 := by omega
    subst this
    unfold w_X1_herBest_l32
    rw [if_pos (by decide)]
    exact hJ τ hT
  | d + 1, i, τ, h, hT => by
    have h6 := hB.1.1
    obtain ⟨⟨c1, c2⟩, ⟨c3, c4⟩, ⟨c5, c6, c7⟩, ⟨c8, c9⟩⟩ := hB.2.1 k hk
    unfold w_X1_herBest_l32
    rw [if_neg (show ¬ (3 : Int32) ≤ nI i from nI_ge (b := 3) (by omega) (by decide)), cl_nI (show k < 1000000 by omega), cl_nI (by omega), (chz_5 i (by omega)).1, nI_1]
    refine stand_x (by omega) hT.2.1.1.1 (by rw [hT.1.lo (c := 2) (by omega), c1]) (by rw [hT.1.lo (c := 3) (by omega), c3]) ⟨vp_nI (by omega) (by decide), ?_⟩
    refine next_x (t := 0) (by omega) hT.2.1 hT.2.2 hM (stN_lt hB hk) (by decide) hp (chz_3 i) (fun τ1 hf hC1 hK1 _ => ?_)
    refine fa_x (by omega) hp hM hb (H := n) (by omega) 8 (n - 1) (by omega) 1 _ τ1 _ (by omega) (nx_lt (stN_lt hB hk)) ⟨hT.1.trans (Fx.of_k (by omega) hf), hC1, hK1⟩ (fun τ2 hT2 => ?_)
    rw [bd_eq]
    have ih := hb_l (M := M) (l := l) hB hk hp hM hb hn hn6 hJ d (i + 1) τ2 (by omega) hT2
    rw [show hbF (vv l p b (n - 1) 0 (stN σ k)) (i + 1) = if (hbF (vv l p b (n - 1) 0 (stN σ k)) i).1 ≤ nI (vv l p b (n - 1) 0 (stN σ k) i) then hbF (vv l p b (n - 1) 0 (stN σ k)) i else (nI (vv l p b (n - 1) 0 (stN σ k) i), i) from rfl] at ih
    have ev : enF l p b (n - 1) 1 (nx l p (8 * vN σ 2 k + vN σ 3 k) 0 (chz i)) = vv l p b (n - 1) 0 (stN σ k) i := rfl
    rw [ev]
    by_cases g : (hbF (vv l p b (n - 1) 0 (stN σ k)) i).1 ≤ nI (vv l p b (n - 1) 0 (stN σ k) i)
    · rw [if_pos g] at ih ⊢
      exact ih
    · rw [if_neg g] at ih ⊢
      exact ih
/-! the reference's -/
def FE (F : Int32 → Int32 → Int32 → Int32 → Int32 → Int32 → Sg → (Int32 → Sg → Prop) → Prop) (ρ : Sg) (k p b H d : Nat) (l : Nat → Nat → Int32) : Prop := ∀ (t s : Nat) (τ : Sg) (Q : Int32 → Sg → Prop), t + d = H → s < 2048 → Fm ρ τ → (∀ τ', Fm ρ τ' → Q (nI (enF l p b d t s)) τ') → F (nI k) (nI t) (nI H) (nI (s / 8)) (nI (s % 8)) (nI b) τ Q
theorem eb_m {F : Int32 → Int32 → Int32 → Int32 → Int32 → Int32 → Sg → (Int32 → Sg → Prop) → Prop} {ρ τ : Sg} {k p b H d t s i : Nat} {l : Nat → Nat → Int32} {Q : Int32 → Sg → Prop} (hk : k < 6) (hp : p < 1000) (hG : GM ρ k p l) (hF : FE F ρ k p b H d l) (hH : H < 60) (ht : t + 1 + d = H) (hs : s < 2048) (hm : Fm ρ τ) (hQ : ∀ τ', Fm ρ τ' → Q (nI (vv l p b d t s i)) τ') : w_X12_endsBy F (nI k) (nI t) (nI H) (nI (s / 8)) (nI (s % 8)) (nI b) (chz i) τ Q := by
  unfold w_X12_endsBy
  rw [bd_eq, bd_eq]
  have hm2 : Fm ρ (sI (sI τ 60 30 (nI (s / 8))) 60 31 (nI (s % 8))) := hm.trans (((Fr.set6 (Or.inl rfl)).trans (Fr.set6 (Or.inr (Or.inl rfl)))).m)
  refine hour_q (s := s) hk (GM_m hG hm2) hs (by omega) hp (chz_3 i) ⟨by rw [rd_in, if_neg (by decide), rd_in, if_pos rfl], by rw [rd_in, if_pos rfl]⟩ (fun τ1 hf _ hA1 => ?_)
  rw [hA1.1, hA1.2, nI_1]
  exact hF (t + 1) _ τ1 _ (by omega) (nx_lt hs) (hm2.trans hf.m) hQ
theorem ea_m {ρ : Sg} {k p b H : Nat} {l : Nat → Nat → Int32} (hk : k < 6) (hp : p < 1000) (hG : GM ρ k p l) (hb : b < 256) (hH : H < 60) : ∀ (n d : Nat), d < n → FE (w_X12_endsAt n) ρ k p b H d l
  | 0, d, h => by omega
  | n + 1, d, h => fun t s τ Q ht hs hm hQ => by
    show w_X12_endsAt_b (w_X12_endsAt n) (nI k) (nI t) (nI H) (nI (s / 8)) (nI (s % 8)) (nI b) τ Q
    unfold w_X12_endsAt_b
    cases d with
    | zero =>
      rw [if_pos (by rw [show t = H by omega]), apart_m (by omega) hb]
      exact hQ τ hm
    | succ d =>
      rw [if_neg (fun q => by have := nI_inj (by omega) (by omega) q; omega)]
      have ih := ea_m (l := l) hk hp hG hb hH n d (by omega)
      rw [enF_s] at hQ
      have v0 := vv_lt (l := l) (p := p) (d := d) (t := t) hb hs 0
      have v1 := vv_lt (l := l) (p := p) (d := d) (t := t) hb hs 1
      have v2 := vv_lt (l := l) (p := p) (d := d) (t := t) hb hs 2
      refine eb_m (i := 0) hk hp hG ih hH (by omega) hs hm (fun τ0 hm0 => ⟨3, ?_⟩)
      unfold w_X12_endsAt_l32
      rw [if_neg (by decide)]
      refine eb_m (i := 1) hk hp hG ih hH (by omega) hs hm0 (fun τ1 hm1 => ?_)
      rw [bd_eq, bd_eq, par_n (by omega), show (-1 : Int32) + 2 = 1 by decide]
      have last : ∀ a : Nat, a < 16 → (∀ τ', Fm ρ τ' → Q (nI (if t % 2 = 0 then min a (vv l p b d t s 2) else max a (vv l p b d t s 2))) τ') → w_X12_endsAt_l32 (nI k) (nI t) (nI H) (nI (s / 8)) (nI (s % 8)) (nI b) Q (w_X12_endsAt n) 2 (nI a) 1 τ1 := by
        intro a ha hq
        unfold w_X12_endsAt_l32
        rw [if_neg (by decide)]
        refine eb_m (i := 2) hk hp hG ih hH (by omega) hs hm1 (fun τ2 hm2 => ?_)
        rw [bd_eq, bd_eq, par_n (by omega), show (1 : Int32) + 2 = 3 by decide]
        have fin : ∀ x : Nat, (∀ τ', Fm ρ τ' → Q (nI x) τ') → w_X12_endsAt_l32 (nI k) (nI t) (nI H) (nI (s / 8)) (nI (s % 8)) (nI b) Q (w_X12_endsAt n) 1 (nI x) 3 τ2 := fun x hx => by
          unfold w_X12_endsAt_l32
          rw [if_pos (by decide)]
          exact hx τ2 hm2
        by_cases g : t % 2 = 0
        · simp only [if_pos g] at hq
          rw [g, if_pos nI_0]
          by_cases g2 : a ≤ vv l p b d t s 2
          · rw [if_pos (nI_le g2 (by omega))]
            rw [Nat.min_eq_left g2] at hq
            exact fin a hq
          · rw [if_neg (nI_ge (by omega) (by omega))]
            rw [Nat.min_eq_right (by omega)] at hq
            exact fin _ hq
        · simp only [if_neg g] at hq
          rw [if_neg (nI_ne0 (by omega) (by omega))]
          by_cases g2 : vv l p b d t s 2 ≤ a
          · rw [if_pos (nI_le g2 (by omega))]
            rw [Nat.max_eq_left g2] at hq
            exact fin a hq
          · rw [if_neg (nI_ge (by omega) (by omega))]
            rw [Nat.max_eq_right (by omega)] at hq
            exact fin _ hq
      by_cases g : t % 2 = 0
      · simp only [if_pos g] at hQ last
        rw [g, if_pos nI_0]
        by_cases g2 : vv l p b d t s 0 ≤ vv l p b d t s 1
        · rw [if_pos (nI_le g2 (by omega))]
          refine last _ (by omega) (fun τ' h' => ?_)
          have := hQ τ' h'
          rw [show min (vv l p b d t s 0) (min (vv l p b d t s 1) (vv l p b d t s 2)) = min (vv l p b d t s 0) (vv l p b d t s 2) by omega] at this
          exact this
        · rw [if_neg (nI_ge (by omega) (by omega))]
          refine last _ (by omega) (fun τ' h' => ?_)
          have := hQ τ' h'
          rw [show min (vv l p b d t s 0) (min (vv l p b d t s 1) (vv l p b d t s 2)) = min (vv l p b d t s 1) (vv l p b d t s 2) by omega] at this
          exact this
      · simp only [if_neg g] at hQ last
        rw [if_neg (nI_ne0 (by omega) (by omega))]
        by_cases g2 : vv l p b d t s 1 ≤ vv l p b d t s 0
        · rw [if_pos (nI_le g2 (by omega))]
          refine last _ (by omega) (fun τ' h' => ?_)
          have := hQ τ' h'
          rw [show max (vv l p b d t s 0) (max (vv l p b d t s 1) (vv l p b d t s 2)) = max (vv l p b d t s 0) (vv l p b d t s 2) by omega] at this
          exact this
        · rw [if_neg (nI_ge (by omega) (by omega))]
          refine last _ (by omega) (fun τ' h' => ?_)
          have := hQ τ' h'
          rw [show max (vv l p b d t s 0) (max (vv l p b d t s 1) (vv l p b d t s 2)) = max (vv l p b d t s 1) (vv l p b d t s 2) by omega] at this
          exact this
theorem turns_b {nC nP : Nat} {a b c : Int32} {σ : Sg} {Q : Int32 → Sg → Prop} (hn : nC ≤ 6) (hp : nP ≤ 8) (e : σ.1 60 1 = nI nC) (e' : σ.1 60 6 = nI nP) (h : ¬ (PR nC nP a ∧ inR b 1 6 ∧ inR c 0 1)) (hQ : Q (-1) σ) : w_X12_byTurns a b c σ Q := by
  unfold w_X12_byTurns
  refine pair_m hn hp e e' (fun h1 => ?_) (fun _ => by rw [if_pos rfl]; exact hQ)
  rw [if_neg one_ne]
  refine in_m (a := 1) (b := 6) (by decide) (by decide) (fun h2 => ?_) (fun _ => by rw [if_pos rfl]; exact hQ)
  rw [if_neg one_ne]
  exact in_m (a := 0) (b := 1) (by decide) (by decide) (fun h3 => absurd ⟨h1, h2, h3⟩ h) (fun _ => by rw [if_pos rfl]; exact hQ)
theorem fi_l {ρ : Sg} {k p b H s x y : Nat} {l : Nat → Nat → Int32} {J : Int32 → Sg → Prop} (hk : k < 6) (hp : p < 1000) (hG : GM ρ k p l) (hb : b < 256) (hH : 1 ≤ H ∧ H ≤ 6) (hs : s < 2048) (hx : ∀ τ, Fm ρ τ → τ.1 61 k = nI (s / 8)) (hy : ∀ τ, Fm ρ τ → τ.1 62 k = nI (s % 8)) (hr : x = min (vv l p b (H - 1) 0 s 0) (min (vv l p b (H - 1) 0 s 1) (vv l p b (H - 1) 0 s 2))) (hyf : y = fi (vv l p b (H - 1) 0 s 0) (vv l p b (H - 1) 0 s 1) (vv l p b (H - 1) 0 s 2))
    (hJ : ∀ τ', Fm ρ τ' → J (nI y) τ') : ∀ (d i : Nat) (τ : Sg), i + d = y → Fm ρ τ → w_X12_byTurns_l82 (nI H) (nI k) (nI b) (nI x) J (d + 1) (nI i) τ
  | d, i, τ, h, hm => by
    have hv := vp_nI hk (show 6 < 1000000 by decide)
    have v0 := vv_lt (l := l) (p := p) (d := H - 1) (t := 0) hb hs 0
    have v1 := vv_lt (l := l) (p := p) (d := H - 1) (t := 0) hb hs 1
    have v2 := vv_lt (l := l) (p := p) (d := H - 1) (t := 0) hb hs 2
    have hy3 : y < 3 := by rw [hyf]; unfold fi; split <;> (try split) <;> decide
    unfold w_X12_byTurns_l82
    rw [cl_nI (by omega), cl_nI (by omega), (chz_5 i (by omega)).2, hx τ hm, hy τ hm]
    refine ⟨hv, hv, vp_nI (by omega) (by decide), ?_⟩
    refine eb_m (t := 0) (i := i) hk hp hG (ea_m hk hp hG hb (by omega) 8 (H - 1) (by omega)) (by omega) (by omega) hs hm (fun τ1 hm1 => ?_)
    have hvi := vv_lt (l := l) (p := p) (d := H - 1) (t := 0) hb hs i
    cases d with
    | zero =>
      have : i = y := by omega
      subst this
      have e : vv l p b (H - 1) 0 s i = x := by
        rw [hr, hyf]
        unfold fi
        by_cases g1 : vv l p b (H - 1) 0 s 0 ≤ vv l p b (H - 1) 0 s 1 ∧ vv l p b (H - 1) 0 s 0 ≤ vv l p b (H - 1) 0 s 2
        · rw [if_pos g1]; omega
        · rw [if_neg g1]
          by_cases g2 : vv l p b (H - 1) 0 s 1 ≤ vv l p b (H - 1) 0 s 2
          · rw [if_pos g2]; omega
          · rw [if_neg g2]; omega
      rw [e, if_pos rfl]
      exact hJ τ1 hm1
    | succ d =>
      have hne : vv l p b (H - 1) 0 s i ≠ x := by
        have hi : i < fi (vv l p b (H - 1) 0 s 0) (vv l p b (H - 1) 0 s 1) (vv l p b (H - 1) 0 s 2) := by omega
        rw [hr]
        unfold fi at hi
        by_cases g1 : vv l p b (H - 1) 0 s 0 ≤ vv l p b (H - 1) 0 s 1 ∧ vv l p b (H - 1) 0 s 0 ≤ vv l p b (H - 1) 0 s 2
        · rw [if_pos g1] at hi; omega
        · rw [if_neg g1] at hi
          by_cases g2 : vv l p b (H - 1) 0 s 1 ≤ vv l p b (H - 1) 0 s 2
          · rw [if_pos g2] at hi
            have : i = 0 := by omega
            subst this
            omega
          · rw [if_neg g2] at hi
            have : i = 0 ∨ i = 1 := by omega
            rcases this with rfl | rfl <;> omega
      have hxlt : x < 16 := by rw [hr]; omega
      rw [if_neg (fun q => hne (nI_inj (by omega) (by omega) q)), nI_1]
      exact fi_l hk hp hG hb hH hs hx hy hr hyf hJ d (i + 1) τ1 (by omega) hm1
  termination_by d => d
theorem op_byTurns {N : Nat} {σ : Sg} (hI : Inv N σ) (hN : N < 600) (a b c : Int32) {Q : Int32 → Int32 → Sg → Prop} (hQ : ∀ r σ', Inv (N + 1) σ' → Q r r σ') : w_X11_byTurns a b c σ (fun r σ1 => w_X12_byTurns a b c σ1 (fun r' σ2 => Q r r' σ2)) := by
  obtain ⟨nC, nP, g, hB, hq, h3, hX, hM⟩ := Inv_get hI
  have hK := Inv_K hI
  have hU := Inv_up hI
  obtain ⟨hn, hp, en, ep⟩ := hB.1
  have c60 := c60_x hq hB (Fx.refl σ)
  unfold w_X11_byTurns
  refine pair_x hn hp en ep (fun h1 => ?_) (fun h => by rw [if_pos rfl]; exact turns_b hn hp c60.1 c60.2 (fun q => h q.1) (hQ _ _ hU))
  rw [if_neg one_ne]
  refine within_x (a := 1) (b := 6) (by decide) (by decide) (fun h2 => ?_) (fun h => by rw [if_pos rfl]; exact turns_b hn hp c60.1 c60.2 (fun q => h q.2.1) (hQ _ _ hU))
  rw [if_neg one_ne]
  refine within_x (a := 0) (b := 1) (by decide) (by decide) (fun h3' => ?_) (fun h => by rw [if_pos rfl]; exact turns_b hn hp c60.1 c60.2 (fun q => h q.2.2) (hQ _ _ hU))
  rw [if_neg one_ne]
  obtain ⟨m, hm, rfl, hk, hp'⟩ := id h1
  obtain ⟨H, hH6, rfl⟩ := inR_num (v := b) (b := 6) ⟨by have := h2.1; omega, h2.2⟩ (by decide)
  have hH1 : 1 ≤ H := by have := h2.1; rw [nI_toInt (by omega)] at this; omega
  obtain ⟨⟨k1, k2⟩, ⟨k3, k4⟩, ⟨k5, k6, k7⟩, ⟨k8', k9⟩⟩ := hB.2.1 _ hk
  obtain ⟨s1, s2⟩ := (hB.2.2.1 _ hp').1
  have hv8 : vp_in (nI (m % 10)) 8 := vp_nI (by omega) (by decide)
  have hvk : vp_in (nI (m / 10)) 6 := vp_nI (by omega) (by decide)
  rw [rem10 hm, div10 hm, cl_nI (by omega), s1, bd_eq]
  refine ⟨hv8, ?_⟩
  -- the class's two answers
  have vlt : ∀ i, vv (lP g σ (m / 10) (vN σ 4 (m / 10))) (vN σ 4 (m / 10)) (vN σ 6 (m % 10)) (H - 1) 0 (stN σ (m / 10)) i < 16 := fun i => vv_lt s2 (stN_lt hB hk) i
  generalize hV : vv (lP g σ (m / 10) (vN σ 4 (m / 10))) (vN σ 4 (m / 10)) (vN σ 6 (m % 10)) (H - 1) 0 (stN σ (m / 10)) = V at vlt
  have hfi : fi (V 0) (V 1) (V 2) < 3 := by unfold fi; split <;> (try split) <;> decide
  have mrun : ∀ (τ : Sg) (v : Int32), Fx σ τ → IKb (16 * N + 1) τ → v = (if c = 0 then nI (min (V 0) (min (V 1) (V 2))) else 1 + chz (fi (V 0) (V 1) (V 2))) → w_X12_byTurns (nI m) (nI H) c τ (fun r' σ2 => Q v r' σ2) := by
    intro τ v hF hKτ ev
    have cc := c60_x hq hB hF
    have hLm := LM_of hB hq hF (Fm.refl τ)
    have e : ∀ c, 61 ≤ c → c ≤ 77 → τ.1 c = σ.1 c := fun c h1 h2 => hF.lo (by omega)
    have hG := GM_of hB hq h3 hM hk e (by rw [hF.lo (by omega)])
    have x61 : ∀ υ : Sg, Fm τ υ → υ.1 61 (m / 10) = nI (stN σ (m / 10) / 8) := fun υ hu => by
      rw [hu.1 61 (by decide) (by decide), e 61 (by decide) (by decide), hq.1.1, k1]; unfold stN; congr 1; omega
    have x62 : ∀ υ : Sg, Fm τ υ → υ.1 62 (m / 10) = nI (stN σ (m / 10) % 8) := fun υ hu => by
      rw [hu.1 62 (by decide) (by decide), e 62 (by decide) (by decide), hq.1.2.1, k3]; unfold stN; congr 1; omega
    have een : enF (lP g σ (m / 10) (vN σ 4 (m / 10))) (vN σ 4 (m / 10)) (vN σ 6 (m % 10)) H 0 (stN σ (m / 10)) = min (V 0) (min (V 1) (V 2)) := by
      rw [show H = (H - 1) + 1 by omega, enF_s, if_pos (by decide), hV]
    unfold w_X12_byTurns
    refine pair_m hn hp cc.1 cc.2 (fun _ => ?_) (fun h => absurd h1 h)
    rw [if_neg one_ne]
    refine in_m (a := 1) (b := 6) (by decide) (by decide) (fun _ => ?_) (fun h => absurd h2 h)
    rw [if_neg one_ne]
    refine in_m (a := 0) (b := 1) (by decide) (by decide) (fun _ => ?_) (fun h => absurd h3' h)
    rw [if_neg one_ne, rem10 hm, div10 hm, bd_eq, cl_nI (by omega), cl_nI (by omega), (hLm.2.2.2.1 _ hp').1, bd_eq, x61 τ (Fm.refl τ), x62 τ (Fm.refl τ)]
    refine ⟨hv8, hvk, hvk, ?_⟩
    refine ea_m (by omega) (by omega) hG s2 (H := H) (by omega) 8 H (by omega) 0 (stN σ (m / 10)) τ _ (by omega) (stN_lt hB hk) (Fm.refl τ) (fun υ hu => ?_)
    rw [een]
    by_cases c0 : c = 0
    · rw [if_pos c0] at ev ⊢
      rw [ev]
      exact hQ _ _ (th_e hI hF hKτ (by omega) hu)
    · rw [if_neg c0] at ev ⊢
      rw [bd_eq]
      refine ⟨fi (V 0) (V 1) (V 2) + 1, fi_l (s := stN σ (m / 10)) (y := fi (V 0) (V 1) (V 2)) (x := min (V 0) (min (V 1) (V 2))) (l := lP g σ (m / 10) (vN σ 4 (m / 10))) (p := vN σ 4 (m / 10)) (by omega) (by omega) hG s2 ⟨hH1, hH6⟩ (stN_lt hB hk) x61 x62 (by rw [hV]) (by rw [hV]) (fun ω hw => ⟨vp_nI hfi (by decide), ?_⟩) (fi (V 0) (V 1) (V 2)) 0 υ (by omega) hu⟩
      rw [cl_nI (by omega), (chz_5 _ hfi).2, ← ev]
      exact hQ _ _ (th_e hI hF hKτ (by omega) hw)
  have xrun : ∀ cc : Int32, (cc = 0 ↔ c = 0) → w_X1_herBest (nI (m / 10)) (nI (vN σ 6 (m % 10))) (nI H) cc σ (fun r13 σ12 => w_X12_byTurns (nI m) (nI H) c σ12 (fun r' σ2 => Q r13 r' σ2)) := by
    intro cc hcc
    unfold w_X1_herBest
    rw [cl_nI (by omega), k5]
    refine ⟨hvk, hvk, start_x (by omega) h3 hX k8' k9 hB.2.2.2.2.1 hB.2.2.2.2.2 hK (by omega) (fun τ1 hst hC1 hK1 => ?_)⟩
    rw [bd_eq]
    refine ⟨4, ?_⟩
    refine hb_l (M := 16 * N + 1) (l := lP g σ (m / 10) (vN σ 4 (m / 10))) (p := vN σ 4 (m / 10)) hB hk (by omega) (by omega) s2 hH1 hH6 (fun τ2 hT2 => ?_) 3 0 τ1 (by decide) ⟨hst.x (by omega), hC1, hK1⟩
    rw [hV, hbF_3 vlt]
    dsimp only
    by_cases c0 : cc = 0
    · rw [if_pos c0]
      exact mrun τ2 _ hT2.1 hT2.2.2 (by rw [if_pos (hcc.mp c0)])
    · rw [if_neg c0, cl_nI (by omega), (chz_5 _ hfi).1]
      exact ⟨vp_nI hfi (by decide), mrun τ2 _ hT2.1 hT2.2.2 (by rw [if_neg (fun q => c0 (hcc.mpr q))])⟩
  rcases one_of h3' with c0 | c0
  · rw [if_neg (by rw [c0]; decide)]
    exact xrun 0 ⟨fun _ => c0, fun _ => rfl⟩
  · rw [if_pos c0]
    exact xrun 1 ⟨fun h => absurd h one_ne, fun h => absurd (c0.symm.trans h) one_ne⟩
