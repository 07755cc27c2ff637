/-! the reference's table, and the call -/
theorem Fm.setr {σ : Sg} {c : Nat} {v : Nat → Int32} (hc : 78 ≤ c ∧ c ≤ 83) : Fm σ (sIr σ c v) := ⟨fun x _ hx => rdr_ne (by omega), fun j _ _ _ => by rw [rdr_ne (by omega)], fun _ _ => rfl⟩
def tb (l : Nat → Nat → Int32) (p r b T d n : Nat) (f : Nat → Int32) : Prop := (∀ e s, e < d → s < 2048 → nib f (2048 * e + s) = fewF l p r b e (T - e) s) ∧ ∀ s, s < n → nib f (2048 * d + s) = fewF l p r b d (T - d) s
theorem tb_up {l : Nat → Nat → Int32} {p r b T d : Nat} {f : Nat → Int32} (h : tb l p r b T d 2048 f) : tb l p r b T (d + 1) 0 f := by
  refine ⟨fun e s he hs => ?_, fun s hs => by omega⟩
  by_cases q : e = d
  · rw [q]; exact h.2 s hs
  · exact h.1 e s (by omega) hs
theorem tb_set {l : Nat → Nat → Int32} {p r b T d n c : Nat} {f : Nat → Int32} (hn : n < 2048) (hc : c < 16) (h : tb l p r b T d n f) (e : c = fewF l p r b d (T - d) n) : tb l p r b T d (n + 1) (nset f (2048 * d + n) c) := by
  refine ⟨fun e s he hs => ?_, fun s hs => ?_⟩
  · rw [nib_set hc, if_neg (by omega)]
    exact h.1 e s he hs
  · rw [nib_set hc]
    by_cases q : s = n
    · rw [if_pos (by rw [q]), q, e]
    · rw [if_neg (by omega)]
      exact h.2 s (by omega)
theorem st_8 (s : Nat) : ((8 : Int32) * nI (s / 8)) + nI (s % 8) = nI s := by
  rw [show (8 : Int32) = nI 8 from rfl, pk_mul, nI_add]
  congr 1
  omega
theorem fby_m {ρ τ : Sg} {k p r b T d s i : Nat} {l : Nat → Nat → Int32} {Q : Int32 → Sg → Prop} (hk : k < 6) (hp : p < 1000) (hG : GM ρ k p l) (hd : d < T) (hT : T ≤ 12) (hs : s < 2048) (hi : i < 3) (hm : Fm ρ τ) (hf : ∀ s, s < 2048 → nib (τ.1 81) (2048 * d + s) = fewF l p r b d (T - d) s)
    (hQ : ∀ τ', Fm ρ τ' → τ'.1 81 = τ.1 81 → Q (nI (byF l p r b d (T - (d + 1)) s i)) τ') : w_X12_fewBy (nI k) (nI T) (nI (d + 1)) (nI (s / 8)) (nI (s % 8)) (chz i) τ Q := by
  unfold w_X12_fewBy
  rw [bd_eq, bd_eq, pk_sub (by omega), show nI (d + 1) - 1 = nI d by rw [show (1 : Int32) = nI 1 from rfl, pk_sub (by omega)]; congr 1]
  have hm2 : Fm ρ (sI (sI τ 60 30 (nI (s / 8))) 60 31 (nI (s % 8))) := hm.trans (((Fr.set6 (Or.inl rfl)).trans (Fr.set6 (Or.inr (Or.inl rfl)))).m)
  refine hour_q (s := s) hk (GM_m hG hm2) hs (by omega) hp (chz_3 i) ⟨by rw [rd_in, if_neg (by decide), rd_in, if_pos rfl], by rw [rd_in, if_pos rfl]⟩ (fun τ1 hF _ hA1 => ?_)
  have e81 : τ1.1 81 = τ.1 81 := by rw [hF.1 81 (by decide) (by decide) (by decide), rd_ne (by decide), rd_ne (by decide)]
  have hnx := nx_lt (l := l) (p := p) (t := T - (d + 1)) (b := chz i) hs
  rw [hA1.1, hA1.2]
  unfold w_X12_stateOf
  rw [st_8]
  refine fewAt_m (by omega) hnx ?_
  rw [e81, hf _ hnx, show T - d = T - (d + 1) + 1 by omega]
  have hq := hQ τ1 (hm2.trans hF.m) e81
  unfold byF by1 at hq
  have h15 := few_le (l := l) (p := p) (r := r) (b := b) d (T - (d + 1) + 1) (nx l p s (T - (d + 1)) (chz i))
  generalize fewF l p r b d (T - (d + 1) + 1) (nx l p s (T - (d + 1)) (chz i)) = y at *
  by_cases g : y = 15
  · rw [if_pos (by rw [g]; rfl)]
    rw [if_pos g] at hq
    exact hq
  · rw [if_neg (show ¬ nI y = 15 from fun q => g ((nI_eq (b := 15) (by omega) (by decide)).mp q))]
    rw [if_neg g] at hq
    by_cases g0 : i = 0
    · rw [if_pos (by rw [g0]; rfl)]
      rw [if_pos g0] at hq
      exact hq
    · rw [if_neg (show ¬ chz i = 0 by
        have : i = 1 ∨ i = 2 := by omega
        rcases this with e | e
        · rw [e]; decide
        · rw [e]; decide), nI_1]
      rw [if_neg g0] at hq
      exact hq
def mF (v : Nat → Nat) : Nat → Nat
  | 0 => 15
  | i + 1 => if mF v i ≤ v i then mF v i else v i
theorem mF_lt {v : Nat → Nat} (h : ∀ i, i < 3 → v i < 16) : ∀ i, i ≤ 3 → mF v i < 16
  | 0, _ => by show 15 < 16; decide
  | i + 1, hi => by
    have := mF_lt h i (by omega)
    have := h i (by omega)
    unfold mF
    split <;> assumption
theorem mF_3 {v : Nat → Nat} (h : ∀ i, v i < 16) : mF v 3 = min (v 0) (min (v 1) (v 2)) := by
  have h0 := h 0
  have h1 := h 1
  have h2 := h 2
  have e1 : mF v 1 = v 0 := by
    show (if 15 ≤ v 0 then 15 else v 0) = v 0
    split <;> omega
  have e2 : mF v 2 = min (v 0) (v 1) := by
    show (if mF v 1 ≤ v 1 then mF v 1 else v 1) = _
    rw [e1]
    split <;> omega
  show (if mF v 2 ≤ v 2 then mF v 2 else v 2) = _
  rw [e2]
  split <;> omega
theorem ml_m {ρ : Sg} {k p r b T d s : Nat} {l : Nat → Nat → Int32} {J : Int32 → Sg → Prop} {f : Nat → Int32} (hk : k < 6) (hp : p < 1000) (hG : GM ρ k p l) (hd : d < T) (hT : T ≤ 12) (hs : s < 2048) (hf : ∀ s, s < 2048 → nib f (2048 * d + s) = fewF l p r b d (T - d) s)
    (hJ : ∀ τ', Fm ρ τ' → τ'.1 81 = f → J (nI (fewF l p r b (d + 1) (T - (d + 1)) s)) τ') : ∀ (n i : Nat) (τ : Sg), i + n = 3 → Fm ρ τ → τ.1 81 = f → w_X12_findFew_l98 (nI k) (nI T) (nI (d + 1)) (nI (s / 8)) (nI (s % 8)) J (n + 1) (nI (mF (byF l p r b d (T - (d + 1)) s) i)) (nI i) τ
  | 0, i, τ, h, hm, e => by
    have : i = 3 := by omega
    subst this
    unfold w_X12_findFew_l98
    rw [if_pos (by decide), mF_3 (fun i => by_15 (by omega))]
    exact hJ τ hm e
  | n + 1, i, τ, h, hm, e => by
    have hi : i < 3 := by omega
    unfold w_X12_findFew_l98
    rw [if_neg (show ¬ (3 : Int32) ≤ nI i from nI_ge (b := 3) (by omega) (by decide)), cl_nI (by omega), (chz_5 i hi).2]
    refine ⟨vp_nI hi (by decide), fby_m hk hp hG hd hT hs hi hm (fun s hs => by rw [e]; exact hf s hs) (fun τ1 hm1 e1 => ?_)⟩
    rw [bd_eq, nI_1]
    have ih := ml_m hk hp hG hd hT hs hf hJ n (i + 1) τ1 (by omega) hm1 (e1.trans e)
    have b1 := mF_lt (v := byF l p r b d (T - (d + 1)) s) (fun i _ => by_15 (by omega)) i (by omega)
    have b2 := by_15 (l := l) (p := p) (r := r) (b := b) (d := d) (t := T - (d + 1)) (s := s) (i := i) (by omega)
    rw [show mF (byF l p r b d (T - (d + 1)) s) (i + 1) = if mF (byF l p r b d (T - (d + 1)) s) i ≤ byF l p r b d (T - (d + 1)) s i then mF (byF l p r b d (T - (d + 1)) s) i else byF l p r b d (T - (d + 1)) s i from rfl] at ih
    by_cases g : mF (byF l p r b d (T - (d + 1)) s) i ≤ byF l p r b d (T - (d + 1)) s i
    · rw [if_pos (nI_le g (by omega))]
      rw [if_pos g] at ih
      exact ih
    · rw [if_neg (nI_ge (by omega) (by omega))]
      rw [if_neg g] at ih
      exact ih
theorem row_w {ρ : Sg} {k p r b T d x : Nat} {l : Nat → Nat → Int32} {J : Sg → Prop} (hk : k < 6) (hp : p < 1000) (hG : GM ρ k p l) (hd : d < T) (hT : T ≤ 12) (hx : x < 256)
    (hJ : ∀ τ', Fm ρ τ' → tb l p r b T (d + 1) (8 * (x + 1)) (τ'.1 81) → J τ') : ∀ (n w : Nat) (τ : Sg), w + n = 8 → Fm ρ τ → tb l p r b T (d + 1) (8 * x + w) (τ.1 81) → w_X12_findFew_l84 (nI k) (nI T) (nI (d + 1)) (nI x) J (n + 1) (nI w) τ
  | 0, w, τ, h, hm, ht => by
    have : w = 8 := by omega
    subst this
    unfold w_X12_findFew_l84
    rw [if_pos (by decide)]
    exact hJ τ hm ht
  | n + 1, w, τ, h, hm, ht => by
    unfold w_X12_findFew_l84
    rw [if_neg (show ¬ (8 : Int32) ≤ nI w from nI_ge (b := 8) (by omega) (by decide)), bd_eq, nI_1]
    have e1 : (8 * x + w) / 8 = x := by omega
    have e2 : (8 * x + w) % 8 = w := by omega
    have key := ml_m (s := 8 * x + w) (l := l) (r := r) (b := b) (J := fun (x10 : Int32) (σ11 : Sg) => w_X12_stateOf (nI x) (nI w) σ11 (fun r13 σ12 => w_X12_layFew (nI (d + 1)) r13 x10 σ12 (fun  σ14 => w_X12_findFew_l84 (nI k) (nI T) (nI (d + 1)) (nI x) J (n + 1) (nI (w + 1)) σ14))) (f := τ.1 81) hk hp hG hd hT (by omega) (fun s hs => ht.1 d s (by omega) hs) (fun τ1 hm1 e81 => ?_) 3 0 τ (by decide) hm rfl
    · rw [e1, e2] at key
      exact ⟨4, key⟩
    · unfold w_X12_stateOf
      have e8 := st_8 (8 * x + w)
      rw [e1, e2] at e8
      rw [e8]
      refine layFew_m (by omega) (by omega) (few_15 (by omega)) ?_
      refine row_w hk hp hG hd hT hx hJ n (w + 1) _ (by omega) (hm1.trans (Fm.setr (by decide))) ?_
      rw [rdr_eq, e81, ← Nat.add_assoc]
      exact tb_set (by omega) (few_15 (by omega)) ht rfl
theorem row_x {ρ : Sg} {k p r b T d : Nat} {l : Nat → Nat → Int32} {J : Sg → Prop} (hk : k < 6) (hp : p < 1000) (hG : GM ρ k p l) (hd : d < T) (hT : T ≤ 12)
    (hJ : ∀ τ', Fm ρ τ' → tb l p r b T (d + 1) 2048 (τ'.1 81) → J τ') : ∀ (n x : Nat) (τ : Sg), x + n = 256 → Fm ρ τ → tb l p r b T (d + 1) (8 * x) (τ.1 81) → w_X12_findFew_l73 (nI k) (nI T) (nI (d + 1)) J (n + 1) (nI x) τ
  | 0, x, τ, h, hm, ht => by
    have : x = 256 := by omega
    subst this
    unfold w_X12_findFew_l73
    rw [if_pos (by decide)]
    exact hJ τ hm ht
  | n + 1, x, τ, h, hm, ht => by
    unfold w_X12_findFew_l73
    rw [if_neg (show ¬ (256 : Int32) ≤ nI x from nI_ge (b := 256) (by omega) (by decide)), bd_eq, nI_1]
    refine ⟨9, row_w (x := x) (l := l) (r := r) (b := b) hk hp hG hd hT (by omega) (fun τ1 hm1 ht1 => ?_) 8 0 τ (by decide) hm ht⟩
    exact row_x hk hp hG hd hT hJ n (x + 1) τ1 (by omega) hm1 ht1
theorem rows_m {ρ : Sg} {k p r b T : Nat} {l : Nat → Nat → Int32} {Q : Sg → Prop} (hk : k < 6) (hp : p < 1000) (hG : GM ρ k p l) (hT : T ≤ 12)
    (hQ : ∀ τ', Fm ρ τ' → tb l p r b T (T + 1) 0 (τ'.1 81) → Q τ') : ∀ (n d : Nat) (τ : Sg), d + n = T → Fm ρ τ → tb l p r b T (d + 1) 0 (τ.1 81) → w_X12_findFew_l64 (nI k) (nI T) Q (n + 1) (nI (d + 1)) τ
  | 0, d, τ, h, hm, ht => by
    have : d = T := by omega
    subst this
    unfold w_X12_findFew_l64
    rw [if_pos (nI_lt (by omega) (by omega))]
    exact hQ τ hm ht
  | n + 1, d, τ, h, hm, ht => by
    unfold w_X12_findFew_l64
    rw [if_neg (nI_nlt (by omega) (by omega)), bd_eq, nI_1]
    refine ⟨257, row_x (d := d) (l := l) (r := r) (b := b) hk hp hG (by omega) hT (fun τ1 hm1 ht1 => ?_) 256 0 τ (by decide) hm ht⟩
    exact rows_m hk hp hG hT hQ n (d + 1) τ1 (by omega) hm1 (tb_up ht1)
theorem row0_w {ρ : Sg} {p r b T x : Nat} {l : Nat → Nat → Int32} {J : Sg → Prop} (hb : b < 256) (hr : r ≤ 5) (h67 : ρ.1 67 0 = nI r) (hx : x < 256)
    (hJ : ∀ τ', Fm ρ τ' → tb l p r b T 0 (8 * (x + 1)) (τ'.1 81) → J τ') : ∀ (n w : Nat) (τ : Sg), w + n = 8 → Fm ρ τ → tb l p r b T 0 (8 * x + w) (τ.1 81) → w_X12_findFew_l14 (nI b) (nI x) J (n + 1) (nI w) τ
  | 0, w, τ, h, hm, ht => by
    have : w = 8 := by omega
    subst this
    unfold w_X12_findFew_l14
    rw [if_pos (by decide)]
    exact hJ τ hm ht
  | n + 1, w, τ, h, hm, ht => by
    unfold w_X12_findFew_l14
    rw [if_neg (show ¬ (8 : Int32) ≤ nI w from nI_ge (b := 8) (by omega) (by decide)), nI_1]
    unfold w_X12_stateOf
    have e1 : (8 * x + w) / 8 = x := by omega
    have e2 : (8 * x + w) % 8 = w := by omega
    have e8 := st_8 (8 * x + w)
    rw [e1, e2] at e8
    have h1 : τ.1 67 0 = nI r := by rw [hm.1 67 (by decide) (by decide), h67]
    rw [e8]
    dsimp only
    rw [nrM hx hb hr h1, bd_eq]
    have ef : fewF l p r b 0 (T - 0) (8 * x + w) = if nr r x b = true then 0 else 15 := by
      show (if nr r ((8 * x + w) / 8) b = true then 0 else 15) = _
      rw [e1]
    have fin : ∀ c : Nat, c < 16 → c = fewF l p r b 0 (T - 0) (8 * x + w) → w_X12_layFew (nI 0) (nI (8 * x + w)) (nI c) τ (fun  σ35 => w_X12_findFew_l14 (nI b) (nI x) J (n + 1) (nI (w + 1)) σ35) := by
      intro c hc ec
      refine layFew_m (by decide) (by omega) hc ?_
      refine row0_w hb hr h67 hx hJ n (w + 1) _ (by omega) (hm.trans (Fm.setr (by decide))) ?_
      rw [rdr_eq, ← Nat.add_assoc]
      exact tb_set (by omega) hc ht ec
    by_cases g : nr r x b = true
    · rw [if_pos g, if_neg one_ne]
      exact fin 0 (by decide) (by rw [ef, if_pos g])
    · rw [if_neg g, if_pos rfl]
      exact fin 15 (by decide) (by rw [ef, if_neg g])
theorem row0_x {ρ : Sg} {p r b T : Nat} {l : Nat → Nat → Int32} {J : Sg → Prop} (hb : b < 256) (hr : r ≤ 5) (h67 : ρ.1 67 0 = nI r)
    (hJ : ∀ τ', Fm ρ τ' → tb l p r b T 0 2048 (τ'.1 81) → J τ') : ∀ (n x : Nat) (τ : Sg), x + n = 256 → Fm ρ τ → tb l p r b T 0 (8 * x) (τ.1 81) → w_X12_findFew_l3 (nI b) J (n + 1) (nI x) τ
  | 0, x, τ, h, hm, ht => by
    have : x = 256 := by omega
    subst this
    unfold w_X12_findFew_l3
    rw [if_pos (by decide)]
    exact hJ τ hm ht
  | n + 1, x, τ, h, hm, ht => by
    unfold w_X12_findFew_l3
    rw [if_neg (show ¬ (256 : Int32) ≤ nI x from nI_ge (b := 256) (by omega) (by decide)), bd_eq, nI_1]
    refine ⟨9, row0_w (x := x) (p := p) (l := l) (T := T) hb hr h67 (by omega) (fun τ1 hm1 ht1 => ?_) 8 0 τ (by decide) hm ht⟩
    exact row0_x hb hr h67 hJ n (x + 1) τ1 (by omega) hm1 ht1
theorem findFew_m {ρ τ : Sg} {k p r b T : Nat} {l : Nat → Nat → Int32} {Q : Sg → Prop} (hk : k < 6) (hp : p < 1000) (hG : GM ρ k p l) (hb : b < 256) (hr : r ≤ 5) (h67 : ρ.1 67 0 = nI r) (hT : T ≤ 12) (hm : Fm ρ τ) (hQ : ∀ τ', Fm ρ τ' → tb l p r b T (T + 1) 0 (τ'.1 81) → Q τ') : w_X12_findFew (nI k) (nI T) (nI b) τ Q := by
  unfold w_X12_findFew
  rw [bd_eq]
  refine ⟨257, row0_x (p := p) (l := l) (T := T) hb hr h67 (fun τ1 hm1 ht1 => ⟨T + 1, ?_⟩) 256 0 τ (by decide) hm ⟨fun e s he hs => by omega, fun s hs => by omega⟩⟩
  exact rows_m hk hp hG hT hQ T 0 τ1 (by omega) hm1 (tb_up ht1)
/-- the first choice that is best -/
theorem fst_m {ρ : Sg} {k p r b T d s : Nat} {l : Nat → Nat → Int32} {J : Int32 → Sg → Prop} {f : Nat → Int32} (hk : k < 6) (hp : p < 1000) (hG : GM ρ k p l) (hd : d < T) (hT : T ≤ 12) (hs : s < 2048) (ht : tb l p r b T (T + 1) 0 f)
    (hJ : ∀ τ', Fm ρ τ' → τ'.1 81 = f → J (nI (fdF l p r b d (T - (d + 1)) s)) τ') : ∀ (n i : Nat) (τ : Sg), i + n = fdF l p r b d (T - (d + 1)) s → Fm ρ τ → τ.1 81 = f → w_X12_reins_l113 (nI T) (nI k) (nI (s / 8)) (nI (s % 8)) (nI (T - (d + 1))) J (n + 1) (nI i) τ := by
  intro n
  have v := fun i => by_15 (l := l) (p := p) (r := r) (b := b) (d := d) (t := T - (d + 1)) (s := s) (i := i) (by omega)
  have v0 := v 0
  have v1 := v 1
  have v2 := v 2
  have h3 : fdF l p r b d (T - (d + 1)) s < 3 := fi_3 _ _ _
  have hF := fewF_s l p r b d (T - (d + 1)) s
  have h15 := few_15 (l := l) (p := p) (r := r) (b := b) (d := d + 1) (t := T - (d + 1)) (s := s) (by omega)
  have eat : byF l p r b d (T - (d + 1)) s (fdF l p r b d (T - (d + 1)) s) = fewF l p r b (d + 1) (T - (d + 1)) s := by
    rw [hF]
    unfold fdF fi
    by_cases g1 : byF l p r b d (T - (d + 1)) s 0 ≤ byF l p r b d (T - (d + 1)) s 1 ∧ byF l p r b d (T - (d + 1)) s 0 ≤ byF l p r b d (T - (d + 1)) s 2
    · rw [if_pos g1]; omega
    · rw [if_neg g1]
      by_cases g2 : byF l p r b d (T - (d + 1)) s 1 ≤ byF l p r b d (T - (d + 1)) s 2
      · rw [if_pos g2]; omega
      · rw [if_neg g2]; omega
  have ebe : ∀ i, i < fdF l p r b d (T - (d + 1)) s → ¬ byF l p r b d (T - (d + 1)) s i = fewF l p r b (d + 1) (T - (d + 1)) s := by
    intro i hi
    rw [hF]
    unfold fdF fi at hi
    by_cases g1 : byF l p r b d (T - (d + 1)) s 0 ≤ byF l p r b d (T - (d + 1)) s 1 ∧ byF l p r b d (T - (d + 1)) s 0 ≤ byF l p r b d (T - (d + 1)) s 2
    · rw [if_pos g1] at hi; omega
    · rw [if_neg g1] at hi
      by_cases g2 : byF l p r b d (T - (d + 1)) s 1 ≤ byF l p r b d (T - (d + 1)) s 2
      · rw [if_pos g2] at hi
        have : i = 0 := by omega
        subst this; omega
      · rw [if_neg g2] at hi
        have : i = 0 ∨ i = 1 := by omega
        rcases this with rfl | rfl <;> omega
  induction n with
  | zero =>
    intro i τ h hm e
    have : i = fdF l p r b d (T - (d + 1)) s := by omega
    unfold w_X12_reins_l113
    rw [cl_nI (by omega), (chz_5 i (by omega)).2, pk_sub (by omega), show T - (T - (d + 1)) = d + 1 by omega]
    refine ⟨vp_nI (by omega) (by decide), fby_m (r := r) (b := b) hk hp hG hd hT hs (by omega) hm (fun s hs => by rw [e]; exact ht.1 d s (by omega) hs) (fun τ1 hm1 e1 => ?_)⟩
    unfold w_X12_stateOf
    rw [st_8]
    refine fewAt_m (by omega) hs ?_
    rw [e1, e, ht.1 (d + 1) s (by omega) hs, this, eat, if_pos rfl]
    exact hJ τ1 hm1 (e1.trans e)
  | succ n ih =>
    intro i τ h hm e
    unfold w_X12_reins_l113
    rw [cl_nI (by omega), (chz_5 i (by omega)).2, pk_sub (by omega), show T - (T - (d + 1)) = d + 1 by omega]
    refine ⟨vp_nI (by omega) (by decide), fby_m (r := r) (b := b) hk hp hG hd hT hs (by omega) hm (fun s hs => by rw [e]; exact ht.1 d s (by omega) hs) (fun τ1 hm1 e1 => ?_)⟩
    unfold w_X12_stateOf
    rw [st_8]
    refine fewAt_m (by omega) hs ?_
    have vi := v i
    rw [e1, e, ht.1 (d + 1) s (by omega) hs, if_neg (fun q => ebe i (by omega) (nI_inj (by omega) (by omega) q)), nI_1]
    exact ih (i + 1) τ1 (by omega) hm1 (e1.trans e)
theorem go_m {ρ : Sg} {k p r b T s0 c : Nat} {l : Nat → Nat → Int32} {Q J : Int32 → Sg → Prop} {f : Nat → Int32} (hk : k < 6) (hp : p < 1000) (hG : GM ρ k p l) (hT : T ≤ 12) (hc : c < T) (hs0 : s0 < 2048) (ht : tb l p r b T (T + 1) 0 f)
    (hJ : ∀ τ', Fm ρ τ' → J (nI (fdF l p r b (T - c - 1) c (gsF l p r b T s0 c))) τ') : ∀ (n t : Nat) (τ : Sg), t + n = c → Fm ρ τ → τ.1 81 = f → w_X12_reins_l104 (nI T) (nI c) Q (nI k) J (n + 1) (nI (gsF l p r b T s0 t / 8)) (nI (gsF l p r b T s0 t % 8)) (nI t) τ
  | 0, t, τ, h, hm, e => by
    have : t = c := by omega
    subst this
    unfold w_X12_reins_l104
    rw [if_neg (nI_nlt (Nat.le_refl _) (by omega)), bd_eq]
    refine ⟨fdF l p r b (T - t - 1) t (gsF l p r b T s0 t) + 1, ?_⟩
    have key := fst_m (d := T - t - 1) (s := gsF l p r b T s0 t) (J := fun (x19 : Int32) (σ20 : Sg) => if nI t = nI t then J x19 σ20 else (bd (sI σ20 60 30 (nI (gsF l p r b T s0 t / 8))) fun σ21 => bd (sI σ21 60 31 (nI (gsF l p r b T s0 t % 8))) fun σ22 => vp_in x19 3 ∧ w_X12_goHour (nI k) (nI t) ((exC 8) (Int32.toNatClampNeg x19)) σ22 (fun  σ23 => bd (σ23.1 60 30) fun x24 => bd (σ23.1 60 31) fun x25 => w_X12_reins_l104 (nI T) (nI t) Q (nI k) J 0 x24 x25 (nI t + 1) σ23))) hk hp hG (by omega) hT (gs_lt hs0 t) ht (fun τ1 hm1 e1 => ?_) (fdF l p r b (T - t - 1) t (gsF l p r b T s0 t)) 0 τ (by rw [show T - (T - t - 1 + 1) = t by omega]; omega) hm e
    · rw [show T - (T - t - 1 + 1) = t by omega] at key
      exact key
    · rw [if_pos rfl, show T - (T - t - 1 + 1) = t by omega]
      exact hJ τ1 hm1
  | n + 1, t, τ, h, hm, e => by
    unfold w_X12_reins_l104
    rw [if_neg (nI_nlt (by omega) (by omega)), bd_eq]
    refine ⟨fdF l p r b (T - t - 1) t (gsF l p r b T s0 t) + 1, ?_⟩
    have hgs := gs_lt (l := l) (p := p) (r := r) (b := b) (T := T) hs0 t
    have key := fst_m (d := T - t - 1) (s := gsF l p r b T s0 t) (J := fun (x19 : Int32) (σ20 : Sg) => if nI t = nI c then J x19 σ20 else (bd (sI σ20 60 30 (nI (gsF l p r b T s0 t / 8))) fun σ21 => bd (sI σ21 60 31 (nI (gsF l p r b T s0 t % 8))) fun σ22 => vp_in x19 3 ∧ w_X12_goHour (nI k) (nI t) ((exC 8) (Int32.toNatClampNeg x19)) σ22 (fun  σ23 => bd (σ23.1 60 30) fun x24 => bd (σ23.1 60 31) fun x25 => w_X12_reins_l104 (nI T) (nI c) Q (nI k) J (n + 1) x24 x25 (nI t + 1) σ23))) hk hp hG (by omega) hT hgs ht (fun τ1 hm1 e1 => ?_) (fdF l p r b (T - t - 1) t (gsF l p r b T s0 t)) 0 τ (by rw [show T - (T - t - 1 + 1) = t by omega]; omega) hm e
    · rw [show T - (T - t - 1 + 1) = t by omega] at key
      exact key
    · have h3 : fdF l p r b (T - t - 1) t (gsF l p r b T s0 t) < 3 := fi_3 _ _ _
      rw [if_neg (fun q => by have := nI_inj (by omega) (by omega) q; omega), show T - (T - t - 1 + 1) = t by omega, bd_eq, bd_eq, cl_nI (by omega), (chz_5 _ h3).2]
      have hm2 : Fm ρ (sI (sI τ1 60 30 (nI (gsF l p r b T s0 t / 8))) 60 31 (nI (gsF l p r b T s0 t % 8))) := hm1.trans (((Fr.set6 (Or.inl rfl)).trans (Fr.set6 (Or.inr (Or.inl rfl)))).m)
      refine ⟨vp_nI h3 (by decide), hour_q (s := gsF l p r b T s0 t) hk (GM_m hG hm2) hgs (by omega) hp (chz_3 _) ⟨by rw [rd_in, if_neg (by decide), rd_in, if_pos rfl], by rw [rd_in, if_pos rfl]⟩ (fun τ2 hF _ hA2 => ?_)⟩
      rw [bd_eq, bd_eq, hA2.1, hA2.2, nI_1]
      exact go_m hk hp hG hT hc hs0 ht hJ n (t + 1) τ2 (by omega) (hm2.trans hF.m) (by rw [hF.1 81 (by decide) (by decide) (by decide), rd_ne (by decide), rd_ne (by decide)]; exact e1)
